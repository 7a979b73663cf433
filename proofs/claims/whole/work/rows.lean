section
-- ===== PART A: goes FIRST, ahead of the names: the tables' words, and 'selects' of the private methods out of them =====
/-- a private method of a class that the tables say can be made, by its rows of tables_1 -/
def lw_okq (q : MethodName × Nat) : Prop := (q.1.cls ≠ "java/lang/invoke/MethodHandle" ∧ q.1.cls ≠ "java/lang/invoke/VarHandle") ∧ Cond.instantiable q.1.cls q.2 ∈ tables_1 ∧ Cond.privateMethod q.1 ∈ tables_1 ∧ Cond.instanceMethod q.1 ∈ tables_1
theorem lw_p0 : lw_okq (⟨"BellPulls$Faults", "takeAll", "()V"⟩, 5) := ⟨⟨by decide +kernel, by decide +kernel⟩, List.mem_of_getElem? (i := 246) (by decide +kernel), List.mem_of_getElem? (i := 252) (by decide +kernel), List.mem_of_getElem? (i := 253) (by decide +kernel)⟩
theorem lw_p1 : lw_okq (⟨"BellPulls$Wiring", "hasDead", "(I)Z"⟩, 7) := ⟨⟨by decide +kernel, by decide +kernel⟩, List.mem_of_getElem? (i := 84) (by decide +kernel), List.mem_of_getElem? (i := 397) (by decide +kernel), List.mem_of_getElem? (i := 398) (by decide +kernel)⟩
theorem lw_p2 : lw_okq (⟨"BellPulls$Wiring", "soundingBell", "(I)I"⟩, 7) := ⟨⟨by decide +kernel, by decide +kernel⟩, List.mem_of_getElem? (i := 84) (by decide +kernel), List.mem_of_getElem? (i := 418) (by decide +kernel), List.mem_of_getElem? (i := 419) (by decide +kernel)⟩
theorem lw_p3 : lw_okq (⟨"BellPulls$Wiring", "bellsPulledAlong", "(I)I"⟩, 7) := ⟨⟨by decide +kernel, by decide +kernel⟩, List.mem_of_getElem? (i := 84) (by decide +kernel), List.mem_of_getElem? (i := 426) (by decide +kernel), List.mem_of_getElem? (i := 427) (by decide +kernel)⟩
theorem lw_p4 : lw_okq (⟨"BellPulls$Wiring", "cranksCrossedWith", "(I)I"⟩, 7) := ⟨⟨by decide +kernel, by decide +kernel⟩, List.mem_of_getElem? (i := 84) (by decide +kernel), List.mem_of_getElem? (i := 430) (by decide +kernel), List.mem_of_getElem? (i := 431) (by decide +kernel)⟩
theorem lw_p5 : lw_okq (⟨"BellPulls$Service", "firstThatCanBeServed", "()I"⟩, 4) := ⟨⟨by decide +kernel, by decide +kernel⟩, List.mem_of_getElem? (i := 191) (by decide +kernel), List.mem_of_getElem? (i := 477) (by decide +kernel), List.mem_of_getElem? (i := 478) (by decide +kernel)⟩
theorem lw_p6 : lw_okq (⟨"BellPulls$Service", "goesBefore", "(II)Z"⟩, 4) := ⟨⟨by decide +kernel, by decide +kernel⟩, List.mem_of_getElem? (i := 191) (by decide +kernel), List.mem_of_getElem? (i := 485) (by decide +kernel), List.mem_of_getElem? (i := 486) (by decide +kernel)⟩
theorem lw_p7 : lw_okq (⟨"BellPulls$Service", "nearestServant", "(I)I"⟩, 4) := ⟨⟨by decide +kernel, by decide +kernel⟩, List.mem_of_getElem? (i := 191) (by decide +kernel), List.mem_of_getElem? (i := 489) (by decide +kernel), List.mem_of_getElem? (i := 490) (by decide +kernel)⟩
theorem lw_p8 : lw_okq (⟨"BellPulls$Service", "endErrand", "(I)V"⟩, 4) := ⟨⟨by decide +kernel, by decide +kernel⟩, List.mem_of_getElem? (i := 191) (by decide +kernel), List.mem_of_getElem? (i := 528) (by decide +kernel), List.mem_of_getElem? (i := 529) (by decide +kernel)⟩
theorem lw_p9 : lw_okq (⟨"BellPulls$Sharing", "keep", "(I)V"⟩, 8) := ⟨⟨by decide +kernel, by decide +kernel⟩, List.mem_of_getElem? (i := 211) (by decide +kernel), List.mem_of_getElem? (i := 588) (by decide +kernel), List.mem_of_getElem? (i := 589) (by decide +kernel)⟩
theorem lw_p10 : lw_okq (⟨"BellPulls$Sharing", "mayTake", "(II)Z"⟩, 8) := ⟨⟨by decide +kernel, by decide +kernel⟩, List.mem_of_getElem? (i := 211) (by decide +kernel), List.mem_of_getElem? (i := 592) (by decide +kernel), List.mem_of_getElem? (i := 593) (by decide +kernel)⟩
theorem lw_p11 : lw_okq (⟨"BellPulls$Sharing", "far", "(II)I"⟩, 8) := ⟨⟨by decide +kernel, by decide +kernel⟩, List.mem_of_getElem? (i := 211) (by decide +kernel), List.mem_of_getElem? (i := 597) (by decide +kernel), List.mem_of_getElem? (i := 598) (by decide +kernel)⟩
theorem lw_p12 : lw_okq (⟨"BellPulls$Faults", "keepThoseThatCome", "(III)V"⟩, 5) := ⟨⟨by decide +kernel, by decide +kernel⟩, List.mem_of_getElem? (i := 246) (by decide +kernel), List.mem_of_getElem? (i := 619) (by decide +kernel), List.mem_of_getElem? (i := 620) (by decide +kernel)⟩
theorem lw_p13 : lw_okq (⟨"BellPulls$Faults", "outcomeWith", "(III)I"⟩, 5) := ⟨⟨by decide +kernel, by decide +kernel⟩, List.mem_of_getElem? (i := 246) (by decide +kernel), List.mem_of_getElem? (i := 623) (by decide +kernel), List.mem_of_getElem? (i := 624) (by decide +kernel)⟩
theorem lw_p14 : lw_okq (⟨"BellPulls$Faults", "mostAlike", "(II)I"⟩, 5) := ⟨⟨by decide +kernel, by decide +kernel⟩, List.mem_of_getElem? (i := 246) (by decide +kernel), List.mem_of_getElem? (i := 648) (by decide +kernel), List.mem_of_getElem? (i := 649) (by decide +kernel)⟩
theorem lw_p15 : lw_okq (⟨"BellPulls$Frame", "isNextOnFloor", "(II)Z"⟩, 4) := ⟨⟨by decide +kernel, by decide +kernel⟩, List.mem_of_getElem? (i := 275) (by decide +kernel), List.mem_of_getElem? (i := 665) (by decide +kernel), List.mem_of_getElem? (i := 666) (by decide +kernel)⟩
def lw_privs_1 : List (MethodName × Nat) := [(⟨"BellPulls$Faults", "takeAll", "()V"⟩, 5), (⟨"BellPulls$Wiring", "hasDead", "(I)Z"⟩, 7), (⟨"BellPulls$Wiring", "soundingBell", "(I)I"⟩, 7), (⟨"BellPulls$Wiring", "bellsPulledAlong", "(I)I"⟩, 7), (⟨"BellPulls$Wiring", "cranksCrossedWith", "(I)I"⟩, 7), (⟨"BellPulls$Service", "firstThatCanBeServed", "()I"⟩, 4), (⟨"BellPulls$Service", "goesBefore", "(II)Z"⟩, 4), (⟨"BellPulls$Service", "nearestServant", "(I)I"⟩, 4), (⟨"BellPulls$Service", "endErrand", "(I)V"⟩, 4), (⟨"BellPulls$Sharing", "keep", "(I)V"⟩, 8), (⟨"BellPulls$Sharing", "mayTake", "(II)Z"⟩, 8), (⟨"BellPulls$Sharing", "far", "(II)I"⟩, 8), (⟨"BellPulls$Faults", "keepThoseThatCome", "(III)V"⟩, 5), (⟨"BellPulls$Faults", "outcomeWith", "(III)I"⟩, 5), (⟨"BellPulls$Faults", "mostAlike", "(II)I"⟩, 5), (⟨"BellPulls$Frame", "isNextOnFloor", "(II)Z"⟩, 4)]
theorem lw_r1 : ∀ q ∈ lw_privs_1, lw_okq q := List.forall_mem_cons.mpr ⟨lw_p0, List.forall_mem_cons.mpr ⟨lw_p1, List.forall_mem_cons.mpr ⟨lw_p2, List.forall_mem_cons.mpr ⟨lw_p3, List.forall_mem_cons.mpr ⟨lw_p4, List.forall_mem_cons.mpr ⟨lw_p5, List.forall_mem_cons.mpr ⟨lw_p6, List.forall_mem_cons.mpr ⟨lw_p7, List.forall_mem_cons.mpr ⟨lw_p8, List.forall_mem_cons.mpr ⟨lw_p9, List.forall_mem_cons.mpr ⟨lw_p10, List.forall_mem_cons.mpr ⟨lw_p11, List.forall_mem_cons.mpr ⟨lw_p12, List.forall_mem_cons.mpr ⟨lw_p13, List.forall_mem_cons.mpr ⟨lw_p14, List.forall_mem_cons.mpr ⟨lw_p15, fun _ h => absurd h List.not_mem_nil⟩⟩⟩⟩⟩⟩⟩⟩⟩⟩⟩⟩⟩⟩⟩⟩
theorem lw_p16 : lw_okq (⟨"BellPulls$Frame", "gatherEnds", "(I)I"⟩, 4) := ⟨⟨by decide +kernel, by decide +kernel⟩, List.mem_of_getElem? (i := 275) (by decide +kernel), List.mem_of_getElem? (i := 682) (by decide +kernel), List.mem_of_getElem? (i := 683) (by decide +kernel)⟩
theorem lw_p17 : lw_okq (⟨"BellPulls$Frame", "startTrees", "(II)V"⟩, 4) := ⟨⟨by decide +kernel, by decide +kernel⟩, List.mem_of_getElem? (i := 275) (by decide +kernel), List.mem_of_getElem? (i := 686) (by decide +kernel), List.mem_of_getElem? (i := 687) (by decide +kernel)⟩
theorem lw_p18 : lw_okq (⟨"BellPulls$Frame", "joinTrees", "(I)V"⟩, 4) := ⟨⟨by decide +kernel, by decide +kernel⟩, List.mem_of_getElem? (i := 275) (by decide +kernel), List.mem_of_getElem? (i := 690) (by decide +kernel), List.mem_of_getElem? (i := 691) (by decide +kernel)⟩
theorem lw_p19 : lw_okq (⟨"BellPulls$Frame", "joinTwo", "(III)V"⟩, 4) := ⟨⟨by decide +kernel, by decide +kernel⟩, List.mem_of_getElem? (i := 275) (by decide +kernel), List.mem_of_getElem? (i := 694) (by decide +kernel), List.mem_of_getElem? (i := 695) (by decide +kernel)⟩
theorem lw_p20 : lw_okq (⟨"BellPulls$Frame", "spread", "(I)V"⟩, 4) := ⟨⟨by decide +kernel, by decide +kernel⟩, List.mem_of_getElem? (i := 275) (by decide +kernel), List.mem_of_getElem? (i := 698) (by decide +kernel), List.mem_of_getElem? (i := 699) (by decide +kernel)⟩
theorem lw_p21 : lw_okq (⟨"BellPulls$Frame", "even", "(III)Z"⟩, 4) := ⟨⟨by decide +kernel, by decide +kernel⟩, List.mem_of_getElem? (i := 275) (by decide +kernel), List.mem_of_getElem? (i := 702) (by decide +kernel), List.mem_of_getElem? (i := 703) (by decide +kernel)⟩
theorem lw_p22 : lw_okq (⟨"BellPullsModel", "areCrossed", "(II)Z"⟩, 37) := ⟨⟨by decide +kernel, by decide +kernel⟩, List.mem_of_getElem? (i := 714) (by decide +kernel), List.mem_of_getElem? (i := 859) (by decide +kernel), List.mem_of_getElem? (i := 860) (by decide +kernel)⟩
theorem lw_p23 : lw_okq (⟨"BellPullsModel", "isPull", "(I)Z"⟩, 37) := ⟨⟨by decide +kernel, by decide +kernel⟩, List.mem_of_getElem? (i := 714) (by decide +kernel), List.mem_of_getElem? (i := 871) (by decide +kernel), List.mem_of_getElem? (i := 872) (by decide +kernel)⟩
theorem lw_p24 : lw_okq (⟨"BellPullsModel", "forceBy", "(III)I"⟩, 37) := ⟨⟨by decide +kernel, by decide +kernel⟩, List.mem_of_getElem? (i := 714) (by decide +kernel), List.mem_of_getElem? (i := 875) (by decide +kernel), List.mem_of_getElem? (i := 876) (by decide +kernel)⟩
theorem lw_p25 : lw_okq (⟨"BellPullsModel", "crankBy", "(II)I"⟩, 37) := ⟨⟨by decide +kernel, by decide +kernel⟩, List.mem_of_getElem? (i := 714) (by decide +kernel), List.mem_of_getElem? (i := 879) (by decide +kernel), List.mem_of_getElem? (i := 880) (by decide +kernel)⟩
theorem lw_p26 : lw_okq (⟨"BellPullsModel", "isDead", "(II)Z"⟩, 37) := ⟨⟨by decide +kernel, by decide +kernel⟩, List.mem_of_getElem? (i := 714) (by decide +kernel), List.mem_of_getElem? (i := 883) (by decide +kernel), List.mem_of_getElem? (i := 884) (by decide +kernel)⟩
theorem lw_p27 : lw_okq (⟨"BellPullsModel", "rings", "(II)I"⟩, 37) := ⟨⟨by decide +kernel, by decide +kernel⟩, List.mem_of_getElem? (i := 714) (by decide +kernel), List.mem_of_getElem? (i := 891) (by decide +kernel), List.mem_of_getElem? (i := 892) (by decide +kernel)⟩
theorem lw_p28 : lw_okq (⟨"BellPullsModel", "ownBy", "(III)I"⟩, 37) := ⟨⟨by decide +kernel, by decide +kernel⟩, List.mem_of_getElem? (i := 714) (by decide +kernel), List.mem_of_getElem? (i := 895) (by decide +kernel), List.mem_of_getElem? (i := 896) (by decide +kernel)⟩
theorem lw_p29 : lw_okq (⟨"BellPullsModel", "isWell", "(II)Z"⟩, 37) := ⟨⟨by decide +kernel, by decide +kernel⟩, List.mem_of_getElem? (i := 714) (by decide +kernel), List.mem_of_getElem? (i := 899) (by decide +kernel), List.mem_of_getElem? (i := 900) (by decide +kernel)⟩
theorem lw_p30 : lw_okq (⟨"BellPullsModel", "areJoined", "(II)Z"⟩, 37) := ⟨⟨by decide +kernel, by decide +kernel⟩, List.mem_of_getElem? (i := 714) (by decide +kernel), List.mem_of_getElem? (i := 903) (by decide +kernel), List.mem_of_getElem? (i := 904) (by decide +kernel)⟩
theorem lw_p31 : lw_okq (⟨"BellPullsModel", "isOnErrand", "(I)Z"⟩, 37) := ⟨⟨by decide +kernel, by decide +kernel⟩, List.mem_of_getElem? (i := 714) (by decide +kernel), List.mem_of_getElem? (i := 919) (by decide +kernel), List.mem_of_getElem? (i := 920) (by decide +kernel)⟩
def lw_privs_2 : List (MethodName × Nat) := [(⟨"BellPulls$Frame", "gatherEnds", "(I)I"⟩, 4), (⟨"BellPulls$Frame", "startTrees", "(II)V"⟩, 4), (⟨"BellPulls$Frame", "joinTrees", "(I)V"⟩, 4), (⟨"BellPulls$Frame", "joinTwo", "(III)V"⟩, 4), (⟨"BellPulls$Frame", "spread", "(I)V"⟩, 4), (⟨"BellPulls$Frame", "even", "(III)Z"⟩, 4), (⟨"BellPullsModel", "areCrossed", "(II)Z"⟩, 37), (⟨"BellPullsModel", "isPull", "(I)Z"⟩, 37), (⟨"BellPullsModel", "forceBy", "(III)I"⟩, 37), (⟨"BellPullsModel", "crankBy", "(II)I"⟩, 37), (⟨"BellPullsModel", "isDead", "(II)Z"⟩, 37), (⟨"BellPullsModel", "rings", "(II)I"⟩, 37), (⟨"BellPullsModel", "ownBy", "(III)I"⟩, 37), (⟨"BellPullsModel", "isWell", "(II)Z"⟩, 37), (⟨"BellPullsModel", "areJoined", "(II)Z"⟩, 37), (⟨"BellPullsModel", "isOnErrand", "(I)Z"⟩, 37)]
theorem lw_r2 : ∀ q ∈ lw_privs_2, lw_okq q := List.forall_mem_cons.mpr ⟨lw_p16, List.forall_mem_cons.mpr ⟨lw_p17, List.forall_mem_cons.mpr ⟨lw_p18, List.forall_mem_cons.mpr ⟨lw_p19, List.forall_mem_cons.mpr ⟨lw_p20, List.forall_mem_cons.mpr ⟨lw_p21, List.forall_mem_cons.mpr ⟨lw_p22, List.forall_mem_cons.mpr ⟨lw_p23, List.forall_mem_cons.mpr ⟨lw_p24, List.forall_mem_cons.mpr ⟨lw_p25, List.forall_mem_cons.mpr ⟨lw_p26, List.forall_mem_cons.mpr ⟨lw_p27, List.forall_mem_cons.mpr ⟨lw_p28, List.forall_mem_cons.mpr ⟨lw_p29, List.forall_mem_cons.mpr ⟨lw_p30, List.forall_mem_cons.mpr ⟨lw_p31, fun _ h => absurd h List.not_mem_nil⟩⟩⟩⟩⟩⟩⟩⟩⟩⟩⟩⟩⟩⟩⟩⟩
theorem lw_p32 : lw_okq (⟨"BellPullsModel", "passes", "()V"⟩, 37) := ⟨⟨by decide +kernel, by decide +kernel⟩, List.mem_of_getElem? (i := 714) (by decide +kernel), List.mem_of_getElem? (i := 927) (by decide +kernel), List.mem_of_getElem? (i := 928) (by decide +kernel)⟩
theorem lw_p33 : lw_okq (⟨"BellPullsModel", "nearest", "(I)I"⟩, 37) := ⟨⟨by decide +kernel, by decide +kernel⟩, List.mem_of_getElem? (i := 714) (by decide +kernel), List.mem_of_getElem? (i := 931) (by decide +kernel), List.mem_of_getElem? (i := 932) (by decide +kernel)⟩
theorem lw_p34 : lw_okq (⟨"BellPullsModel", "may", "(II)Z"⟩, 37) := ⟨⟨by decide +kernel, by decide +kernel⟩, List.mem_of_getElem? (i := 714) (by decide +kernel), List.mem_of_getElem? (i := 935) (by decide +kernel), List.mem_of_getElem? (i := 936) (by decide +kernel)⟩
theorem lw_p35 : lw_okq (⟨"BellPullsModel", "wayOf", "(II)I"⟩, 37) := ⟨⟨by decide +kernel, by decide +kernel⟩, List.mem_of_getElem? (i := 714) (by decide +kernel), List.mem_of_getElem? (i := 939) (by decide +kernel), List.mem_of_getElem? (i := 940) (by decide +kernel)⟩
theorem lw_p36 : lw_okq (⟨"BellPullsModel", "isAhead", "(II)Z"⟩, 37) := ⟨⟨by decide +kernel, by decide +kernel⟩, List.mem_of_getElem? (i := 714) (by decide +kernel), List.mem_of_getElem? (i := 946) (by decide +kernel), List.mem_of_getElem? (i := 947) (by decide +kernel)⟩
theorem lw_p37 : lw_okq (⟨"BellPullsModel", "goes", "(II)V"⟩, 37) := ⟨⟨by decide +kernel, by decide +kernel⟩, List.mem_of_getElem? (i := 714) (by decide +kernel), List.mem_of_getElem? (i := 950) (by decide +kernel), List.mem_of_getElem? (i := 951) (by decide +kernel)⟩
theorem lw_p38 : lw_okq (⟨"BellPullsModel", "frees", "()V"⟩, 37) := ⟨⟨by decide +kernel, by decide +kernel⟩, List.mem_of_getElem? (i := 714) (by decide +kernel), List.mem_of_getElem? (i := 954) (by decide +kernel), List.mem_of_getElem? (i := 955) (by decide +kernel)⟩
theorem lw_p39 : lw_okq (⟨"BellPullsModel", "isServant", "(I)Z"⟩, 37) := ⟨⟨by decide +kernel, by decide +kernel⟩, List.mem_of_getElem? (i := 714) (by decide +kernel), List.mem_of_getElem? (i := 974) (by decide +kernel), List.mem_of_getElem? (i := 975) (by decide +kernel)⟩
theorem lw_p40 : lw_okq (⟨"BellPullsModel", "waitingNow", "()I"⟩, 37) := ⟨⟨by decide +kernel, by decide +kernel⟩, List.mem_of_getElem? (i := 714) (by decide +kernel), List.mem_of_getElem? (i := 990) (by decide +kernel), List.mem_of_getElem? (i := 991) (by decide +kernel)⟩
theorem lw_p41 : lw_okq (⟨"BellPullsModel", "shares", "()I"⟩, 37) := ⟨⟨by decide +kernel, by decide +kernel⟩, List.mem_of_getElem? (i := 714) (by decide +kernel), List.mem_of_getElem? (i := 994) (by decide +kernel), List.mem_of_getElem? (i := 995) (by decide +kernel)⟩
theorem lw_p42 : lw_okq (⟨"BellPullsModel", "costOf", "(II)I"⟩, 37) := ⟨⟨by decide +kernel, by decide +kernel⟩, List.mem_of_getElem? (i := 714) (by decide +kernel), List.mem_of_getElem? (i := 999) (by decide +kernel), List.mem_of_getElem? (i := 1000) (by decide +kernel)⟩
theorem lw_p43 : lw_okq (⟨"BellPullsModel", "shareOf", "(II)I"⟩, 37) := ⟨⟨by decide +kernel, by decide +kernel⟩, List.mem_of_getElem? (i := 714) (by decide +kernel), List.mem_of_getElem? (i := 1003) (by decide +kernel), List.mem_of_getElem? (i := 1004) (by decide +kernel)⟩
theorem lw_p44 : lw_okq (⟨"BellPullsModel", "explains", "(I)Z"⟩, 37) := ⟨⟨by decide +kernel, by decide +kernel⟩, List.mem_of_getElem? (i := 714) (by decide +kernel), List.mem_of_getElem? (i := 1023) (by decide +kernel), List.mem_of_getElem? (i := 1024) (by decide +kernel)⟩
theorem lw_p45 : lw_okq (⟨"BellPullsModel", "spreads", "(I)V"⟩, 37) := ⟨⟨by decide +kernel, by decide +kernel⟩, List.mem_of_getElem? (i := 714) (by decide +kernel), List.mem_of_getElem? (i := 1044) (by decide +kernel), List.mem_of_getElem? (i := 1045) (by decide +kernel)⟩
def lw_privs_3 : List (MethodName × Nat) := [(⟨"BellPullsModel", "passes", "()V"⟩, 37), (⟨"BellPullsModel", "nearest", "(I)I"⟩, 37), (⟨"BellPullsModel", "may", "(II)Z"⟩, 37), (⟨"BellPullsModel", "wayOf", "(II)I"⟩, 37), (⟨"BellPullsModel", "isAhead", "(II)Z"⟩, 37), (⟨"BellPullsModel", "goes", "(II)V"⟩, 37), (⟨"BellPullsModel", "frees", "()V"⟩, 37), (⟨"BellPullsModel", "isServant", "(I)Z"⟩, 37), (⟨"BellPullsModel", "waitingNow", "()I"⟩, 37), (⟨"BellPullsModel", "shares", "()I"⟩, 37), (⟨"BellPullsModel", "costOf", "(II)I"⟩, 37), (⟨"BellPullsModel", "shareOf", "(II)I"⟩, 37), (⟨"BellPullsModel", "explains", "(I)Z"⟩, 37), (⟨"BellPullsModel", "spreads", "(I)V"⟩, 37)]
theorem lw_r3 : ∀ q ∈ lw_privs_3, lw_okq q := List.forall_mem_cons.mpr ⟨lw_p32, List.forall_mem_cons.mpr ⟨lw_p33, List.forall_mem_cons.mpr ⟨lw_p34, List.forall_mem_cons.mpr ⟨lw_p35, List.forall_mem_cons.mpr ⟨lw_p36, List.forall_mem_cons.mpr ⟨lw_p37, List.forall_mem_cons.mpr ⟨lw_p38, List.forall_mem_cons.mpr ⟨lw_p39, List.forall_mem_cons.mpr ⟨lw_p40, List.forall_mem_cons.mpr ⟨lw_p41, List.forall_mem_cons.mpr ⟨lw_p42, List.forall_mem_cons.mpr ⟨lw_p43, List.forall_mem_cons.mpr ⟨lw_p44, List.forall_mem_cons.mpr ⟨lw_p45, fun _ h => absurd h List.not_mem_nil⟩⟩⟩⟩⟩⟩⟩⟩⟩⟩⟩⟩⟩⟩
def lw_privs : List (MethodName × Nat) := lw_privs_1 ++ (lw_privs_2 ++ (lw_privs_3))
def lw_tbl : List Cond := k2_sels lw_privs ++ tables_1
theorem lw_privs_ok : ∀ q ∈ lw_privs, lw_okq q := by
  show ∀ q ∈ lw_privs_1 ++ (lw_privs_2 ++ (lw_privs_3)), lw_okq q
  exact List.forall_mem_append.mpr ⟨lw_r1, List.forall_mem_append.mpr ⟨lw_r2, lw_r3⟩⟩
end
section
def RX0 : String := "BellPulls$Bells"
def TX0 : u_T := fun k => match k with
  | 0 => ("BellPulls$Bells", "tone", "[I", true)
  | 1 => ("BellPulls$Bells", "swing", "[I", true)
  | _ => ("BellPulls$Bells", "muteBits", "I", false)
def tyX0 : Nat → FieldType := fun k => match k with
  | 0 => .array .int
  | 1 => .array .int
  | _ => .int
theorem nmX0 : ∀ a, a < 3 → ∀ b, b < 3 → a ≠ b → (TX0 a).2.1 ≠ (TX0 b).2.1 := by decide +kernel
theorem tyX0_ok : ∀ k, k < 3 → parseFieldDescriptor (TX0 k).2.2.1 = some (tyX0 k) := by decide +kernel
abbrev cX0_init : ByteArray := prog_2_method_1_code
def yX0_init : MethodName := ⟨RX0, "<init>", "()V"⟩
abbrev cX0_setTone : ByteArray := prog_2_method_2_code
def yX0_setTone : MethodName := ⟨RX0, "setTone", "(II)I"⟩
abbrev cX0_setMute : ByteArray := prog_2_method_3_code
def yX0_setMute : MethodName := ⟨RX0, "setMute", "(II)I"⟩
abbrev cX0_ofTone : ByteArray := prog_2_method_4_code
def yX0_ofTone : MethodName := ⟨RX0, "ofTone", "(I)I"⟩
abbrev cX0_startSwinging : ByteArray := prog_2_method_5_code
def yX0_startSwinging : MethodName := ⟨RX0, "startSwinging", "(II)V"⟩
abbrev cX0_swingLess : ByteArray := prog_2_method_6_code
def yX0_swingLess : MethodName := ⟨RX0, "swingLess", "()V"⟩
abbrev cX0_swinging : ByteArray := prog_2_method_7_code
def yX0_swinging : MethodName := ⟨RX0, "swinging", "()I"⟩
def RX1 : String := "BellPulls$Calls"
def TX1 : u_T := fun k => match k with
  | 0 => ("BellPulls$Calls", "state", "[I", true)
  | 1 => ("BellPulls$Calls", "since", "[I", true)
  | 2 => ("BellPulls$Calls", "errands", "[I", true)
  | 3 => ("BellPulls$Calls", "waited", "[I", true)
  | 4 => ("BellPulls$Calls", "longest", "[I", true)
  | 5 => ("BellPulls$Calls", "flagBits", "I", false)
  | _ => ("BellPulls$Calls", "takenBack", "I", false)
def tyX1 : Nat → FieldType := fun k => match k with
  | 0 => .array .int
  | 1 => .array .int
  | 2 => .array .int
  | 3 => .array .int
  | 4 => .array .int
  | 5 => .int
  | _ => .int
theorem nmX1 : ∀ a, a < 7 → ∀ b, b < 7 → a ≠ b → (TX1 a).2.1 ≠ (TX1 b).2.1 := by decide +kernel
theorem tyX1_ok : ∀ k, k < 7 → parseFieldDescriptor (TX1 k).2.2.1 = some (tyX1 k) := by decide +kernel
abbrev cX1_init : ByteArray := prog_3_method_1_code
def yX1_init : MethodName := ⟨RX1, "<init>", "()V"⟩
abbrev cX1_isWaiting : ByteArray := prog_3_method_2_code
def yX1_isWaiting : MethodName := ⟨RX1, "isWaiting", "(I)Z"⟩
abbrev cX1_countIn : ByteArray := prog_3_method_3_code
def yX1_countIn : MethodName := ⟨RX1, "countIn", "(I)I"⟩
abbrev cX1_make : ByteArray := prog_3_method_4_code
def yX1_make : MethodName := ⟨RX1, "make", "(II)V"⟩
abbrev cX1_drop : ByteArray := prog_3_method_5_code
def yX1_drop : MethodName := ⟨RX1, "drop", "(I)V"⟩
abbrev cX1_startErrand : ByteArray := prog_3_method_6_code
def yX1_startErrand : MethodName := ⟨RX1, "startErrand", "(II)V"⟩
abbrev cX1_endErrand : ByteArray := prog_3_method_7_code
def yX1_endErrand : MethodName := ⟨RX1, "endErrand", "(I)V"⟩
def RX2 : String := "BellPulls$Faults"
def TX2 : u_T := fun k => match k with
  | 0 => ("BellPulls$Faults", "pulls", "LBellPulls$Pulls;", true)
  | 1 => ("BellPulls$Faults", "explaining", "[I", true)
  | 2 => ("BellPulls$Faults", "alike", "[I", true)
  | 3 => ("BellPulls$Faults", "size", "I", false)
  | _ => ("BellPulls$Faults", "tests", "I", false)
def tyX2 : Nat → FieldType := fun k => match k with
  | 0 => .object "BellPulls$Pulls"
  | 1 => .array .int
  | 2 => .array .int
  | 3 => .int
  | _ => .int
theorem nmX2 : ∀ a, a < 5 → ∀ b, b < 5 → a ≠ b → (TX2 a).2.1 ≠ (TX2 b).2.1 := by decide +kernel
theorem tyX2_ok : ∀ k, k < 5 → parseFieldDescriptor (TX2 k).2.2.1 = some (tyX2 k) := by decide +kernel
abbrev cX2_init : ByteArray := prog_4_method_1_code
def yX2_init : MethodName := ⟨RX2, "<init>", "(LBellPulls$Pulls;)V"⟩
abbrev cX2_addTest : ByteArray := prog_4_method_2_code
def yX2_addTest : MethodName := ⟨RX2, "addTest", "(III)I"⟩
abbrev cX2_dropTests : ByteArray := prog_4_method_3_code
def yX2_dropTests : MethodName := ⟨RX2, "dropTests", "()I"⟩
abbrev cX2_testThatPartsMost : ByteArray := prog_4_method_4_code
def yX2_testThatPartsMost : MethodName := ⟨RX2, "testThatPartsMost", "(I)I"⟩
abbrev cX2_takeAll : ByteArray := prog_4_method_5_code
def yX2_takeAll : MethodName := ⟨RX2, "takeAll", "()V"⟩
abbrev cX2_keepThoseThatCome : ByteArray := prog_4_method_6_code
def yX2_keepThoseThatCome : MethodName := ⟨RX2, "keepThoseThatCome", "(III)V"⟩
abbrev cX2_mostAlike : ByteArray := prog_4_method_7_code
def yX2_mostAlike : MethodName := ⟨RX2, "mostAlike", "(II)I"⟩
abbrev cX2_outcomeWith : ByteArray := prog_4_method_8_code
def yX2_outcomeWith : MethodName := ⟨RX2, "outcomeWith", "(III)I"⟩
def RX3 : String := "BellPulls$Frame"
def TX3 : u_T := fun k => match k with
  | 0 => ("BellPulls$Frame", "toRight", "[I", true)
  | 1 => ("BellPulls$Frame", "toAbove", "[I", true)
  | 2 => ("BellPulls$Frame", "ends", "[I", true)
  | _ => ("BellPulls$Frame", "costs", "[I", true)
def tyX3 : Nat → FieldType := fun k => match k with
  | 0 => .array .int
  | 1 => .array .int
  | 2 => .array .int
  | _ => .array .int
theorem nmX3 : ∀ a, a < 4 → ∀ b, b < 4 → a ≠ b → (TX3 a).2.1 ≠ (TX3 b).2.1 := by decide +kernel
theorem tyX3_ok : ∀ k, k < 4 → parseFieldDescriptor (TX3 k).2.2.1 = some (tyX3 k) := by decide +kernel
abbrev cX3_init : ByteArray := prog_5_method_1_code
def yX3_init : MethodName := ⟨RX3, "<init>", "()V"⟩
abbrev cX3_areSideBySide : ByteArray := prog_5_method_2_code
def yX3_areSideBySide : MethodName := ⟨RX3, "areSideBySide", "(II)Z"⟩
abbrev cX3_setBetween : ByteArray := prog_5_method_3_code
def yX3_setBetween : MethodName := ⟨RX3, "setBetween", "(III)I"⟩
abbrev cX3_countWires : ByteArray := prog_5_method_4_code
def yX3_countWires : MethodName := ⟨RX3, "countWires", "()I"⟩
abbrev cX3_fewestNew : ByteArray := prog_5_method_5_code
def yX3_fewestNew : MethodName := ⟨RX3, "fewestNew", "(I)I"⟩
abbrev cX3_isNextOnFloor : ByteArray := prog_5_method_6_code
def yX3_isNextOnFloor : MethodName := ⟨RX3, "isNextOnFloor", "(II)Z"⟩
abbrev cX3_gatherEnds : ByteArray := prog_5_method_7_code
def yX3_gatherEnds : MethodName := ⟨RX3, "gatherEnds", "(I)I"⟩
abbrev cX3_startTrees : ByteArray := prog_5_method_8_code
def yX3_startTrees : MethodName := ⟨RX3, "startTrees", "(II)V"⟩
abbrev cX3_joinTrees : ByteArray := prog_5_method_9_code
def yX3_joinTrees : MethodName := ⟨RX3, "joinTrees", "(I)V"⟩
abbrev cX3_joinTwo : ByteArray := prog_5_method_10_code
def yX3_joinTwo : MethodName := ⟨RX3, "joinTwo", "(III)V"⟩
abbrev cX3_spread : ByteArray := prog_5_method_11_code
def yX3_spread : MethodName := ⟨RX3, "spread", "(I)V"⟩
abbrev cX3_even : ByteArray := prog_5_method_12_code
def yX3_even : MethodName := ⟨RX3, "even", "(III)Z"⟩
def RX4 : String := "BellPulls$Pulls"
def TX4 : u_T := fun k => match k with
  | 0 => ("BellPulls$Pulls", "size", "I", false)
  | 1 => ("BellPulls$Pulls", "floor", "[I", true)
  | 2 => ("BellPulls$Pulls", "place", "[I", true)
  | 3 => ("BellPulls$Pulls", "rank", "[I", true)
  | 4 => ("BellPulls$Pulls", "bellOf", "[I", true)
  | _ => ("BellPulls$Pulls", "cranksOf", "[I", true)
def tyX4 : Nat → FieldType := fun k => match k with
  | 0 => .int
  | 1 => .array .int
  | 2 => .array .int
  | 3 => .array .int
  | 4 => .array .int
  | _ => .array .int
theorem nmX4 : ∀ a, a < 6 → ∀ b, b < 6 → a ≠ b → (TX4 a).2.1 ≠ (TX4 b).2.1 := by decide +kernel
theorem tyX4_ok : ∀ k, k < 6 → parseFieldDescriptor (TX4 k).2.2.1 = some (tyX4 k) := by decide +kernel
abbrev cX4_init : ByteArray := prog_6_method_1_code
def yX4_init : MethodName := ⟨RX4, "<init>", "()V"⟩
abbrev cX4_has : ByteArray := prog_6_method_2_code
def yX4_has : MethodName := ⟨RX4, "has", "(I)Z"⟩
abbrev cX4_add : ByteArray := prog_6_method_3_code
def yX4_add : MethodName := ⟨RX4, "add", "(IIIII)I"⟩
abbrev cX4_forceInHeat : ByteArray := prog_6_method_4_code
def yX4_forceInHeat : MethodName := ⟨RX4, "forceInHeat", "(II)I"⟩
def RX5 : String := "BellPulls$Servants"
def TX5 : u_T := fun k => match k with
  | 0 => ("BellPulls$Servants", "size", "I", false)
  | 1 => ("BellPulls$Servants", "floor", "[I", true)
  | 2 => ("BellPulls$Servants", "place", "[I", true)
  | 3 => ("BellPulls$Servants", "tasks", "[I", true)
  | 4 => ("BellPulls$Servants", "errandFor", "[I", true)
  | 5 => ("BellPulls$Servants", "overAt", "[I", true)
  | _ => ("BellPulls$Servants", "errands", "[I", true)
def tyX5 : Nat → FieldType := fun k => match k with
  | 0 => .int
  | 1 => .array .int
  | 2 => .array .int
  | 3 => .array .int
  | 4 => .array .int
  | 5 => .array .int
  | _ => .array .int
theorem nmX5 : ∀ a, a < 7 → ∀ b, b < 7 → a ≠ b → (TX5 a).2.1 ≠ (TX5 b).2.1 := by decide +kernel
theorem tyX5_ok : ∀ k, k < 7 → parseFieldDescriptor (TX5 k).2.2.1 = some (tyX5 k) := by decide +kernel
abbrev cX5_init : ByteArray := prog_7_method_1_code
def yX5_init : MethodName := ⟨RX5, "<init>", "()V"⟩
abbrev cX5_add : ByteArray := prog_7_method_2_code
def yX5_add : MethodName := ⟨RX5, "add", "(III)I"⟩
abbrev cX5_isFree : ByteArray := prog_7_method_3_code
def yX5_isFree : MethodName := ⟨RX5, "isFree", "(I)Z"⟩
abbrev cX5_mayGo : ByteArray := prog_7_method_4_code
def yX5_mayGo : MethodName := ⟨RX5, "mayGo", "(II)Z"⟩
abbrev cX5_wayTo : ByteArray := prog_7_method_5_code
def yX5_wayTo : MethodName := ⟨RX5, "wayTo", "(III)I"⟩
def RX6 : String := "BellPulls$Service"
def TX6 : u_T := fun k => match k with
  | 0 => ("BellPulls$Service", "pulls", "LBellPulls$Pulls;", true)
  | 1 => ("BellPulls$Service", "servants", "LBellPulls$Servants;", true)
  | 2 => ("BellPulls$Service", "calls", "LBellPulls$Calls;", true)
  | _ => ("BellPulls$Service", "ticksNow", "I", false)
def tyX6 : Nat → FieldType := fun k => match k with
  | 0 => .object "BellPulls$Pulls"
  | 1 => .object "BellPulls$Servants"
  | 2 => .object "BellPulls$Calls"
  | _ => .int
theorem nmX6 : ∀ a, a < 4 → ∀ b, b < 4 → a ≠ b → (TX6 a).2.1 ≠ (TX6 b).2.1 := by decide +kernel
theorem tyX6_ok : ∀ k, k < 4 → parseFieldDescriptor (TX6 k).2.2.1 = some (tyX6 k) := by decide +kernel
abbrev cX6_init : ByteArray := prog_8_method_1_code
def yX6_init : MethodName := ⟨RX6, "<init>", "(LBellPulls$Pulls;LBellPulls$Servants;LBellPulls$Calls;)V"⟩
abbrev cX6_sendWhileAnyCan : ByteArray := prog_8_method_2_code
def yX6_sendWhileAnyCan : MethodName := ⟨RX6, "sendWhileAnyCan", "()V"⟩
abbrev cX6_sendOne : ByteArray := prog_8_method_3_code
def yX6_sendOne : MethodName := ⟨RX6, "sendOne", "(II)V"⟩
abbrev cX6_nextTick : ByteArray := prog_8_method_4_code
def yX6_nextTick : MethodName := ⟨RX6, "nextTick", "()V"⟩
abbrev cX6_endErrand : ByteArray := prog_8_method_5_code
def yX6_endErrand : MethodName := ⟨RX6, "endErrand", "(I)V"⟩
abbrev cX6_firstThatCanBeServed : ByteArray := prog_8_method_6_code
def yX6_firstThatCanBeServed : MethodName := ⟨RX6, "firstThatCanBeServed", "()I"⟩
abbrev cX6_goesBefore : ByteArray := prog_8_method_7_code
def yX6_goesBefore : MethodName := ⟨RX6, "goesBefore", "(II)Z"⟩
abbrev cX6_nearestServant : ByteArray := prog_8_method_8_code
def yX6_nearestServant : MethodName := ⟨RX6, "nearestServant", "(I)I"⟩
def RX7 : String := "BellPulls$Sharing"
def TX7 : u_T := fun k => match k with
  | 0 => ("BellPulls$Sharing", "pulls", "LBellPulls$Pulls;", true)
  | 1 => ("BellPulls$Sharing", "servants", "LBellPulls$Servants;", true)
  | 2 => ("BellPulls$Sharing", "calls", "LBellPulls$Calls;", true)
  | 3 => ("BellPulls$Sharing", "waiting", "[I", true)
  | 4 => ("BellPulls$Sharing", "best", "[I", true)
  | 5 => ("BellPulls$Sharing", "tried", "[I", true)
  | 6 => ("BellPulls$Sharing", "size", "I", false)
  | _ => ("BellPulls$Sharing", "bestCost", "I", false)
def tyX7 : Nat → FieldType := fun k => match k with
  | 0 => .object "BellPulls$Pulls"
  | 1 => .object "BellPulls$Servants"
  | 2 => .object "BellPulls$Calls"
  | 3 => .array .int
  | 4 => .array .int
  | 5 => .array .int
  | 6 => .int
  | _ => .int
theorem nmX7 : ∀ a, a < 8 → ∀ b, b < 8 → a ≠ b → (TX7 a).2.1 ≠ (TX7 b).2.1 := by decide +kernel
theorem tyX7_ok : ∀ k, k < 8 → parseFieldDescriptor (TX7 k).2.2.1 = some (tyX7 k) := by decide +kernel
abbrev cX7_init : ByteArray := prog_9_method_1_code
def yX7_init : MethodName := ⟨RX7, "<init>", "(LBellPulls$Pulls;LBellPulls$Servants;LBellPulls$Calls;)V"⟩
abbrev cX7_findBest : ByteArray := prog_9_method_2_code
def yX7_findBest : MethodName := ⟨RX7, "findBest", "()V"⟩
abbrev cX7_servantFor : ByteArray := prog_9_method_3_code
def yX7_servantFor : MethodName := ⟨RX7, "servantFor", "(I)I"⟩
abbrev cX7_tryFrom : ByteArray := prog_9_method_4_code
def yX7_tryFrom : MethodName := ⟨RX7, "tryFrom", "(LBellPulls$Sharing;III)V"⟩
abbrev cX7_mayTake : ByteArray := prog_9_method_5_code
def yX7_mayTake : MethodName := ⟨RX7, "mayTake", "(II)Z"⟩
abbrev cX7_far : ByteArray := prog_9_method_6_code
def yX7_far : MethodName := ⟨RX7, "far", "(II)I"⟩
abbrev cX7_keep : ByteArray := prog_9_method_7_code
def yX7_keep : MethodName := ⟨RX7, "keep", "(I)V"⟩
def RX8 : String := "BellPulls$Wiring"
def TX8 : u_T := fun k => match k with
  | 0 => ("BellPulls$Wiring", "pulls", "LBellPulls$Pulls;", true)
  | 1 => ("BellPulls$Wiring", "bells", "LBellPulls$Bells;", true)
  | 2 => ("BellPulls$Wiring", "slack", "[I", true)
  | 3 => ("BellPulls$Wiring", "crossedWith", "[I", true)
  | 4 => ("BellPulls$Wiring", "deadBits", "I", false)
  | 5 => ("BellPulls$Wiring", "pairs", "I", false)
  | _ => ("BellPulls$Wiring", "heatNow", "I", false)
def tyX8 : Nat → FieldType := fun k => match k with
  | 0 => .object "BellPulls$Pulls"
  | 1 => .object "BellPulls$Bells"
  | 2 => .array .int
  | 3 => .array .int
  | 4 => .int
  | 5 => .int
  | _ => .int
theorem nmX8 : ∀ a, a < 7 → ∀ b, b < 7 → a ≠ b → (TX8 a).2.1 ≠ (TX8 b).2.1 := by decide +kernel
theorem tyX8_ok : ∀ k, k < 7 → parseFieldDescriptor (TX8 k).2.2.1 = some (tyX8 k) := by decide +kernel
abbrev cX8_init : ByteArray := prog_10_method_1_code
def yX8_init : MethodName := ⟨RX8, "<init>", "(LBellPulls$Pulls;LBellPulls$Bells;)V"⟩
abbrev cX8_setCrank : ByteArray := prog_10_method_2_code
def yX8_setCrank : MethodName := ⟨RX8, "setCrank", "(II)I"⟩
abbrev cX8_areCrossed : ByteArray := prog_10_method_3_code
def yX8_areCrossed : MethodName := ⟨RX8, "areCrossed", "(II)Z"⟩
abbrev cX8_addPair : ByteArray := prog_10_method_4_code
def yX8_addPair : MethodName := ⟨RX8, "addPair", "(II)I"⟩
abbrev cX8_dropPairs : ByteArray := prog_10_method_5_code
def yX8_dropPairs : MethodName := ⟨RX8, "dropPairs", "()I"⟩
abbrev cX8_forceOf : ByteArray := prog_10_method_6_code
def yX8_forceOf : MethodName := ⟨RX8, "forceOf", "(I)I"⟩
abbrev cX8_loudBells : ByteArray := prog_10_method_7_code
def yX8_loudBells : MethodName := ⟨RX8, "loudBells", "(I)I"⟩
abbrev cX8_weakBells : ByteArray := prog_10_method_8_code
def yX8_weakBells : MethodName := ⟨RX8, "weakBells", "(I)I"⟩
abbrev cX8_pullsThatRing : ByteArray := prog_10_method_9_code
def yX8_pullsThatRing : MethodName := ⟨RX8, "pullsThatRing", "(II)I"⟩
abbrev cX8_hasDead : ByteArray := prog_10_method_10_code
def yX8_hasDead : MethodName := ⟨RX8, "hasDead", "(I)Z"⟩
abbrev cX8_soundingBell : ByteArray := prog_10_method_11_code
def yX8_soundingBell : MethodName := ⟨RX8, "soundingBell", "(I)I"⟩
abbrev cX8_bellsPulledAlong : ByteArray := prog_10_method_12_code
def yX8_bellsPulledAlong : MethodName := ⟨RX8, "bellsPulledAlong", "(I)I"⟩
abbrev cX8_cranksCrossedWith : ByteArray := prog_10_method_13_code
def yX8_cranksCrossedWith : MethodName := ⟨RX8, "cranksCrossedWith", "(I)I"⟩
def RX9 : String := "BellPulls"
def TX9 : u_T := fun k => match k with
  | 0 => ("BellPulls", "pulls", "LBellPulls$Pulls;", true)
  | 1 => ("BellPulls", "bells", "LBellPulls$Bells;", true)
  | 2 => ("BellPulls", "wiring", "LBellPulls$Wiring;", true)
  | 3 => ("BellPulls", "servants", "LBellPulls$Servants;", true)
  | 4 => ("BellPulls", "calls", "LBellPulls$Calls;", true)
  | 5 => ("BellPulls", "service", "LBellPulls$Service;", true)
  | 6 => ("BellPulls", "sharing", "LBellPulls$Sharing;", true)
  | 7 => ("BellPulls", "faults", "LBellPulls$Faults;", true)
  | _ => ("BellPulls", "lattice", "LBellPulls$Frame;", true)
def tyX9 : Nat → FieldType := fun k => match k with
  | 0 => .object "BellPulls$Pulls"
  | 1 => .object "BellPulls$Bells"
  | 2 => .object "BellPulls$Wiring"
  | 3 => .object "BellPulls$Servants"
  | 4 => .object "BellPulls$Calls"
  | 5 => .object "BellPulls$Service"
  | 6 => .object "BellPulls$Sharing"
  | 7 => .object "BellPulls$Faults"
  | _ => .object "BellPulls$Frame"
theorem nmX9 : ∀ a, a < 9 → ∀ b, b < 9 → a ≠ b → (TX9 a).2.1 ≠ (TX9 b).2.1 := by decide +kernel
theorem tyX9_ok : ∀ k, k < 9 → parseFieldDescriptor (TX9 k).2.2.1 = some (tyX9 k) := by decide +kernel
abbrev cX9_init : ByteArray := prog_1_method_1_code
def yX9_init : MethodName := ⟨RX9, "<init>", "()V"⟩
abbrev cX9_crank : ByteArray := prog_1_method_2_code
def yX9_crank : MethodName := ⟨RX9, "crank", "(II)I"⟩
abbrev cX9_bell : ByteArray := prog_1_method_3_code
def yX9_bell : MethodName := ⟨RX9, "bell", "(III)I"⟩
abbrev cX9_heat : ByteArray := prog_1_method_4_code
def yX9_heat : MethodName := ⟨RX9, "heat", "(I)I"⟩
abbrev cX9_pull : ByteArray := prog_1_method_5_code
def yX9_pull : MethodName := ⟨RX9, "pull", "(IIIII)I"⟩
abbrev cX9_cross : ByteArray := prog_1_method_6_code
def yX9_cross : MethodName := ⟨RX9, "cross", "(II)I"⟩
abbrev cX9_uncross : ByteArray := prog_1_method_7_code
def yX9_uncross : MethodName := ⟨RX9, "uncross", "()I"⟩
abbrev cX9_force : ByteArray := prog_1_method_8_code
def yX9_force : MethodName := ⟨RX9, "force", "(I)I"⟩
abbrev cX9_would : ByteArray := prog_1_method_9_code
def yX9_would : MethodName := ⟨RX9, "would", "(II)I"⟩
abbrev cX9_means : ByteArray := prog_1_method_10_code
def yX9_means : MethodName := ⟨RX9, "means", "(III)I"⟩
abbrev cX9_servant : ByteArray := prog_1_method_11_code
def yX9_servant : MethodName := ⟨RX9, "servant", "(III)I"⟩
abbrev cX9_ring : ByteArray := prog_1_method_12_code
def yX9_ring : MethodName := ⟨RX9, "ring", "(I)I"⟩
abbrev cX9_ticks : ByteArray := prog_1_method_13_code
def yX9_ticks : MethodName := ⟨RX9, "ticks", "(I)I"⟩
abbrev cX9_takeBack : ByteArray := prog_1_method_14_code
def yX9_takeBack : MethodName := ⟨RX9, "takeBack", "(I)I"⟩
abbrev cX9_flags : ByteArray := prog_1_method_15_code
def yX9_flags : MethodName := ⟨RX9, "flags", "(I)I"⟩
abbrev cX9_about : ByteArray := prog_1_method_16_code
def yX9_about : MethodName := ⟨RX9, "about", "(II)I"⟩
abbrev cX9_servantTold : ByteArray := prog_1_method_17_code
def yX9_servantTold : MethodName := ⟨RX9, "servantTold", "(II)I"⟩
abbrev cX9_way : ByteArray := prog_1_method_18_code
def yX9_way : MethodName := ⟨RX9, "way", "(II)I"⟩
abbrev cX9_swings : ByteArray := prog_1_method_19_code
def yX9_swings : MethodName := ⟨RX9, "swings", "(I)I"⟩
abbrev cX9_share : ByteArray := prog_1_method_20_code
def yX9_share : MethodName := ⟨RX9, "share", "(I)I"⟩
abbrev cX9_send : ByteArray := prog_1_method_21_code
def yX9_send : MethodName := ⟨RX9, "send", "()I"⟩
abbrev cX9_test : ByteArray := prog_1_method_22_code
def yX9_test : MethodName := ⟨RX9, "test", "(III)I"⟩
abbrev cX9_noTests : ByteArray := prog_1_method_23_code
def yX9_noTests : MethodName := ⟨RX9, "noTests", "()I"⟩
abbrev cX9_fault : ByteArray := prog_1_method_24_code
def yX9_fault : MethodName := ⟨RX9, "fault", "(I)I"⟩
abbrev cX9_nextTest : ByteArray := prog_1_method_25_code
def yX9_nextTest : MethodName := ⟨RX9, "nextTest", "()I"⟩
abbrev cX9_frame : ByteArray := prog_1_method_26_code
def yX9_frame : MethodName := ⟨RX9, "frame", "(III)I"⟩
abbrev cX9_wires : ByteArray := prog_1_method_27_code
def yX9_wires : MethodName := ⟨RX9, "wires", "(I)I"⟩
abbrev cX9_count : ByteArray := prog_1_method_28_code
def yX9_count : MethodName := ⟨RX9, "count", "(I)I"⟩
abbrev cX9_within : ByteArray := prog_1_method_29_code
def yX9_within : MethodName := ⟨RX9, "within", "(II)Z"⟩
def RX10 : String := "BellPullsModel"
def TX10 : u_T := fun k => match k with
  | 0 => ("BellPullsModel", "cranks", "[I", true)
  | 1 => ("BellPullsModel", "tones", "[I", true)
  | 2 => ("BellPullsModel", "mute", "[I", true)
  | 3 => ("BellPullsModel", "heat", "I", false)
  | 4 => ("BellPullsModel", "pulls", "I", false)
  | 5 => ("BellPullsModel", "pullFloor", "[I", true)
  | 6 => ("BellPullsModel", "pullPlace", "[I", true)
  | 7 => ("BellPullsModel", "rank", "[I", true)
  | 8 => ("BellPullsModel", "bellOf", "[I", true)
  | 9 => ("BellPullsModel", "has", "[I", true)
  | 10 => ("BellPullsModel", "crossed", "I", false)
  | 11 => ("BellPullsModel", "crossA", "[I", true)
  | 12 => ("BellPullsModel", "crossB", "[I", true)
  | 13 => ("BellPullsModel", "since", "[I", true)
  | 14 => ("BellPullsModel", "flags", "I", false)
  | 15 => ("BellPullsModel", "errands", "[I", true)
  | 16 => ("BellPullsModel", "waited", "[I", true)
  | 17 => ("BellPullsModel", "longest", "[I", true)
  | 18 => ("BellPullsModel", "takenBack", "I", false)
  | 19 => ("BellPullsModel", "servants", "I", false)
  | 20 => ("BellPullsModel", "floorOf", "[I", true)
  | 21 => ("BellPullsModel", "placeOf", "[I", true)
  | 22 => ("BellPullsModel", "tasks", "[I", true)
  | 23 => ("BellPullsModel", "goesTo", "[I", true)
  | 24 => ("BellPullsModel", "overAt", "[I", true)
  | 25 => ("BellPullsModel", "went", "[I", true)
  | 26 => ("BellPullsModel", "tick", "I", false)
  | 27 => ("BellPullsModel", "swing", "[I", true)
  | 28 => ("BellPullsModel", "tests", "I", false)
  | 29 => ("BellPullsModel", "testPull", "[I", true)
  | 30 => ("BellPullsModel", "testHeat", "[I", true)
  | 31 => ("BellPullsModel", "testOutcome", "[I", true)
  | 32 => ("BellPullsModel", "between", "[I", true)
  | 33 => ("BellPullsModel", "waits", "[I", true)
  | 34 => ("BellPullsModel", "waiting", "I", false)
  | 35 => ("BellPullsModel", "shareCost", "I", false)
  | _ => ("BellPullsModel", "least", "[I", true)
def tyX10 : Nat → FieldType := fun k => match k with
  | 0 => .array .int
  | 1 => .array .int
  | 2 => .array .int
  | 3 => .int
  | 4 => .int
  | 5 => .array .int
  | 6 => .array .int
  | 7 => .array .int
  | 8 => .array .int
  | 9 => .array .int
  | 10 => .int
  | 11 => .array .int
  | 12 => .array .int
  | 13 => .array .int
  | 14 => .int
  | 15 => .array .int
  | 16 => .array .int
  | 17 => .array .int
  | 18 => .int
  | 19 => .int
  | 20 => .array .int
  | 21 => .array .int
  | 22 => .array .int
  | 23 => .array .int
  | 24 => .array .int
  | 25 => .array .int
  | 26 => .int
  | 27 => .array .int
  | 28 => .int
  | 29 => .array .int
  | 30 => .array .int
  | 31 => .array .int
  | 32 => .array .int
  | 33 => .array .int
  | 34 => .int
  | 35 => .int
  | _ => .array .int
theorem nmX10 : ∀ a, a < 37 → ∀ b, b < 37 → a ≠ b → (TX10 a).2.1 ≠ (TX10 b).2.1 := by decide +kernel
theorem tyX10_ok : ∀ k, k < 37 → parseFieldDescriptor (TX10 k).2.2.1 = some (tyX10 k) := by decide +kernel
abbrev cX10_init : ByteArray := prog_12_method_1_code
def yX10_init : MethodName := ⟨RX10, "<init>", "()V"⟩
abbrev cX10_in : ByteArray := prog_12_method_2_code
def yX10_in : MethodName := ⟨RX10, "in", "(III)Z"⟩
abbrev cX10_size : ByteArray := prog_12_method_3_code
def yX10_size : MethodName := ⟨RX10, "size", "(I)I"⟩
abbrev cX10_bits : ByteArray := prog_12_method_4_code
def yX10_bits : MethodName := ⟨RX10, "bits", "(I)I"⟩
abbrev cX10_isPull : ByteArray := prog_12_method_5_code
def yX10_isPull : MethodName := ⟨RX10, "isPull", "(I)Z"⟩
abbrev cX10_crank : ByteArray := prog_12_method_6_code
def yX10_crank : MethodName := ⟨RX10, "crank", "(II)I"⟩
abbrev cX10_bell : ByteArray := prog_12_method_7_code
def yX10_bell : MethodName := ⟨RX10, "bell", "(III)I"⟩
abbrev cX10_heat : ByteArray := prog_12_method_8_code
def yX10_heat : MethodName := ⟨RX10, "heat", "(I)I"⟩
abbrev cX10_pull : ByteArray := prog_12_method_9_code
def yX10_pull : MethodName := ⟨RX10, "pull", "(IIIII)I"⟩
abbrev cX10_areCrossed : ByteArray := prog_12_method_10_code
def yX10_areCrossed : MethodName := ⟨RX10, "areCrossed", "(II)Z"⟩
abbrev cX10_cross : ByteArray := prog_12_method_11_code
def yX10_cross : MethodName := ⟨RX10, "cross", "(II)I"⟩
abbrev cX10_uncross : ByteArray := prog_12_method_12_code
def yX10_uncross : MethodName := ⟨RX10, "uncross", "()I"⟩
abbrev cX10_crankBy : ByteArray := prog_12_method_13_code
def yX10_crankBy : MethodName := ⟨RX10, "crankBy", "(II)I"⟩
abbrev cX10_isWell : ByteArray := prog_12_method_14_code
def yX10_isWell : MethodName := ⟨RX10, "isWell", "(II)Z"⟩
abbrev cX10_isDead : ByteArray := prog_12_method_15_code
def yX10_isDead : MethodName := ⟨RX10, "isDead", "(II)Z"⟩
abbrev cX10_forceBy : ByteArray := prog_12_method_16_code
def yX10_forceBy : MethodName := ⟨RX10, "forceBy", "(III)I"⟩
abbrev cX10_ownBy : ByteArray := prog_12_method_17_code
def yX10_ownBy : MethodName := ⟨RX10, "ownBy", "(III)I"⟩
abbrev cX10_force : ByteArray := prog_12_method_18_code
def yX10_force : MethodName := ⟨RX10, "force", "(I)I"⟩
abbrev cX10_areJoined : ByteArray := prog_12_method_19_code
def yX10_areJoined : MethodName := ⟨RX10, "areJoined", "(II)Z"⟩
abbrev cX10_rings : ByteArray := prog_12_method_20_code
def yX10_rings : MethodName := ⟨RX10, "rings", "(II)I"⟩
abbrev cX10_would : ByteArray := prog_12_method_21_code
def yX10_would : MethodName := ⟨RX10, "would", "(II)I"⟩
abbrev cX10_means : ByteArray := prog_12_method_22_code
def yX10_means : MethodName := ⟨RX10, "means", "(III)I"⟩
abbrev cX10_servant : ByteArray := prog_12_method_23_code
def yX10_servant : MethodName := ⟨RX10, "servant", "(III)I"⟩
abbrev cX10_isServant : ByteArray := prog_12_method_24_code
def yX10_isServant : MethodName := ⟨RX10, "isServant", "(I)Z"⟩
abbrev cX10_isOnErrand : ByteArray := prog_12_method_25_code
def yX10_isOnErrand : MethodName := ⟨RX10, "isOnErrand", "(I)Z"⟩
abbrev cX10_frees : ByteArray := prog_12_method_26_code
def yX10_frees : MethodName := ⟨RX10, "frees", "()V"⟩
abbrev cX10_wayOf : ByteArray := prog_12_method_27_code
def yX10_wayOf : MethodName := ⟨RX10, "wayOf", "(II)I"⟩
abbrev cX10_may : ByteArray := prog_12_method_28_code
def yX10_may : MethodName := ⟨RX10, "may", "(II)Z"⟩
abbrev cX10_goes : ByteArray := prog_12_method_29_code
def yX10_goes : MethodName := ⟨RX10, "goes", "(II)V"⟩
abbrev cX10_ring : ByteArray := prog_12_method_30_code
def yX10_ring : MethodName := ⟨RX10, "ring", "(I)I"⟩
abbrev cX10_nearest : ByteArray := prog_12_method_31_code
def yX10_nearest : MethodName := ⟨RX10, "nearest", "(I)I"⟩
abbrev cX10_isAhead : ByteArray := prog_12_method_32_code
def yX10_isAhead : MethodName := ⟨RX10, "isAhead", "(II)Z"⟩
abbrev cX10_passes : ByteArray := prog_12_method_33_code
def yX10_passes : MethodName := ⟨RX10, "passes", "()V"⟩
abbrev cX10_ticks : ByteArray := prog_12_method_34_code
def yX10_ticks : MethodName := ⟨RX10, "ticks", "(I)I"⟩
abbrev cX10_takeBack : ByteArray := prog_12_method_35_code
def yX10_takeBack : MethodName := ⟨RX10, "takeBack", "(I)I"⟩
abbrev cX10_flags : ByteArray := prog_12_method_36_code
def yX10_flags : MethodName := ⟨RX10, "flags", "(I)I"⟩
abbrev cX10_about : ByteArray := prog_12_method_37_code
def yX10_about : MethodName := ⟨RX10, "about", "(II)I"⟩
abbrev cX10_servantTold : ByteArray := prog_12_method_38_code
def yX10_servantTold : MethodName := ⟨RX10, "servantTold", "(II)I"⟩
abbrev cX10_way : ByteArray := prog_12_method_39_code
def yX10_way : MethodName := ⟨RX10, "way", "(II)I"⟩
abbrev cX10_swings : ByteArray := prog_12_method_40_code
def yX10_swings : MethodName := ⟨RX10, "swings", "(I)I"⟩
abbrev cX10_waitingNow : ByteArray := prog_12_method_41_code
def yX10_waitingNow : MethodName := ⟨RX10, "waitingNow", "()I"⟩
abbrev cX10_shares : ByteArray := prog_12_method_42_code
def yX10_shares : MethodName := ⟨RX10, "shares", "()I"⟩
abbrev cX10_costOf : ByteArray := prog_12_method_43_code
def yX10_costOf : MethodName := ⟨RX10, "costOf", "(II)I"⟩
abbrev cX10_shareOf : ByteArray := prog_12_method_44_code
def yX10_shareOf : MethodName := ⟨RX10, "shareOf", "(II)I"⟩
abbrev cX10_share : ByteArray := prog_12_method_45_code
def yX10_share : MethodName := ⟨RX10, "share", "(I)I"⟩
abbrev cX10_send : ByteArray := prog_12_method_46_code
def yX10_send : MethodName := ⟨RX10, "send", "()I"⟩
abbrev cX10_test : ByteArray := prog_12_method_47_code
def yX10_test : MethodName := ⟨RX10, "test", "(III)I"⟩
abbrev cX10_noTests : ByteArray := prog_12_method_48_code
def yX10_noTests : MethodName := ⟨RX10, "noTests", "()I"⟩
abbrev cX10_explains : ByteArray := prog_12_method_49_code
def yX10_explains : MethodName := ⟨RX10, "explains", "(I)Z"⟩
abbrev cX10_fault : ByteArray := prog_12_method_50_code
def yX10_fault : MethodName := ⟨RX10, "fault", "(I)I"⟩
abbrev cX10_nextTest : ByteArray := prog_12_method_51_code
def yX10_nextTest : MethodName := ⟨RX10, "nextTest", "()I"⟩
abbrev cX10_edge : ByteArray := prog_12_method_52_code
def yX10_edge : MethodName := ⟨RX10, "edge", "(II)I"⟩
abbrev cX10_frame : ByteArray := prog_12_method_53_code
def yX10_frame : MethodName := ⟨RX10, "frame", "(III)I"⟩
abbrev cX10_spreads : ByteArray := prog_12_method_54_code
def yX10_spreads : MethodName := ⟨RX10, "spreads", "(I)V"⟩
abbrev cX10_wires : ByteArray := prog_12_method_55_code
def yX10_wires : MethodName := ⟨RX10, "wires", "(I)I"⟩
abbrev cX10_count : ByteArray := prog_12_method_56_code
def yX10_count : MethodName := ⟨RX10, "count", "(I)I"⟩
def RJ6 : String := "java/lang/Integer"
abbrev cJ6_bitCount_0f7a4 : ByteArray := prog_13_method_49_code
def yJ6_bitCount_0f7a4 : MethodName := ⟨RJ6, "bitCount", "(I)I"⟩
def RJ9 : String := "java/lang/Math"
abbrev cJ9_abs_0f7a4 : ByteArray := prog_14_method_59_code
def yJ9_abs_0f7a4 : MethodName := ⟨RJ9, "abs", "(I)I"⟩
abbrev cJ9_max_7cf53 : ByteArray := prog_14_method_65_code
def yJ9_max_7cf53 : MethodName := ⟨RJ9, "max", "(II)I"⟩
abbrev cJ9_min_7cf53 : ByteArray := prog_14_method_69_code
def yJ9_min_7cf53 : MethodName := ⟨RJ9, "min", "(II)I"⟩
def RL : String := "BellPullsLaw"
abbrev cL_law : ByteArray := code
def yL_law : MethodName := ⟨RL, "law", "([I)Z"⟩
abbrev vwCl : List vw_C := [(RX0, TX0, 3), (RX1, TX1, 7), (RX2, TX2, 5), (RX3, TX3, 4), (RX4, TX4, 6), (RX5, TX5, 7), (RX6, TX6, 4), (RX7, TX7, 8), (RX8, TX8, 7), (RX9, TX9, 9), (RX10, TX10, 37)]
end
section
theorem dX0_init_0 : decode cX0_init 0 = .ok (.aload_n 0, 1) := by decide +kernel
theorem dX0_init_1 : decode cX0_init 1 = .ok (.invokespecial 3, 3) := by decide +kernel
theorem dX0_init_4 : decode cX0_init 4 = .ok (.aload_n 0, 1) := by decide +kernel
theorem dX0_init_5 : decode cX0_init 5 = .ok (.bipush 8, 2) := by decide +kernel
theorem dX0_init_7 : decode cX0_init 7 = .ok (.newarray .int, 2) := by decide +kernel
theorem dX0_init_9 : decode cX0_init 9 = .ok (.putfield 9, 3) := by decide +kernel
theorem dX0_init_12 : decode cX0_init 12 = .ok (.aload_n 0, 1) := by decide +kernel
theorem dX0_init_13 : decode cX0_init 13 = .ok (.bipush 8, 2) := by decide +kernel
theorem dX0_init_15 : decode cX0_init 15 = .ok (.newarray .int, 2) := by decide +kernel
theorem dX0_init_17 : decode cX0_init 17 = .ok (.putfield 15, 3) := by decide +kernel
theorem dX0_init_20 : decode cX0_init 20 = .ok (.return_, 1) := by decide +kernel
theorem dX0_setTone_0 : decode cX0_setTone 0 = .ok (.aload_n 0, 1) := by decide +kernel
theorem dX0_setTone_1 : decode cX0_setTone 1 = .ok (.getfield 9, 3) := by decide +kernel
theorem dX0_setTone_4 : decode cX0_setTone 4 = .ok (.iload_n 1, 1) := by decide +kernel
theorem dX0_setTone_5 : decode cX0_setTone 5 = .ok (.iaload, 1) := by decide +kernel
theorem dX0_setTone_6 : decode cX0_setTone 6 = .ok (.istore_n 3, 1) := by decide +kernel
theorem dX0_setTone_7 : decode cX0_setTone 7 = .ok (.aload_n 0, 1) := by decide +kernel
theorem dX0_setTone_8 : decode cX0_setTone 8 = .ok (.getfield 9, 3) := by decide +kernel
theorem dX0_setTone_11 : decode cX0_setTone 11 = .ok (.iload_n 1, 1) := by decide +kernel
theorem dX0_setTone_12 : decode cX0_setTone 12 = .ok (.iload_n 2, 1) := by decide +kernel
theorem dX0_setTone_13 : decode cX0_setTone 13 = .ok (.iastore, 1) := by decide +kernel
theorem dX0_setTone_14 : decode cX0_setTone 14 = .ok (.iload_n 3, 1) := by decide +kernel
theorem dX0_setTone_15 : decode cX0_setTone 15 = .ok (.ireturn, 1) := by decide +kernel
theorem dX0_setMute_0 : decode cX0_setMute 0 = .ok (.aload_n 0, 1) := by decide +kernel
theorem dX0_setMute_1 : decode cX0_setMute 1 = .ok (.getfield 18, 3) := by decide +kernel
theorem dX0_setMute_4 : decode cX0_setMute 4 = .ok (.iload_n 1, 1) := by decide +kernel
theorem dX0_setMute_5 : decode cX0_setMute 5 = .ok (.ishr, 1) := by decide +kernel
theorem dX0_setMute_6 : decode cX0_setMute 6 = .ok (.iconst 1, 1) := by decide +kernel
theorem dX0_setMute_7 : decode cX0_setMute 7 = .ok (.iand, 1) := by decide +kernel
theorem dX0_setMute_8 : decode cX0_setMute 8 = .ok (.istore_n 3, 1) := by decide +kernel
theorem dX0_setMute_9 : decode cX0_setMute 9 = .ok (.aload_n 0, 1) := by decide +kernel
theorem dX0_setMute_10 : decode cX0_setMute 10 = .ok (.aload_n 0, 1) := by decide +kernel
theorem dX0_setMute_11 : decode cX0_setMute 11 = .ok (.getfield 18, 3) := by decide +kernel
theorem dX0_setMute_14 : decode cX0_setMute 14 = .ok (.iconst 1, 1) := by decide +kernel
theorem dX0_setMute_15 : decode cX0_setMute 15 = .ok (.iload_n 1, 1) := by decide +kernel
theorem dX0_setMute_16 : decode cX0_setMute 16 = .ok (.ishl, 1) := by decide +kernel
theorem dX0_setMute_17 : decode cX0_setMute 17 = .ok (.iconst (-1), 1) := by decide +kernel
theorem dX0_setMute_18 : decode cX0_setMute 18 = .ok (.ixor, 1) := by decide +kernel
theorem dX0_setMute_19 : decode cX0_setMute 19 = .ok (.iand, 1) := by decide +kernel
theorem dX0_setMute_20 : decode cX0_setMute 20 = .ok (.iload_n 2, 1) := by decide +kernel
theorem dX0_setMute_21 : decode cX0_setMute 21 = .ok (.iload_n 1, 1) := by decide +kernel
theorem dX0_setMute_22 : decode cX0_setMute 22 = .ok (.ishl, 1) := by decide +kernel
theorem dX0_setMute_23 : decode cX0_setMute 23 = .ok (.ior, 1) := by decide +kernel
theorem dX0_setMute_24 : decode cX0_setMute 24 = .ok (.putfield 18, 3) := by decide +kernel
theorem dX0_setMute_27 : decode cX0_setMute 27 = .ok (.iload_n 3, 1) := by decide +kernel
theorem dX0_setMute_28 : decode cX0_setMute 28 = .ok (.ireturn, 1) := by decide +kernel
theorem dX0_ofTone_0 : decode cX0_ofTone 0 = .ok (.iload_n 1, 1) := by decide +kernel
theorem dX0_ofTone_1 : decode cX0_ofTone 1 = .ok (.iconst (-1), 1) := by decide +kernel
theorem dX0_ofTone_2 : decode cX0_ofTone 2 = .ok (.if_icmp .ne 7, 3) := by decide +kernel
theorem dX0_ofTone_5 : decode cX0_ofTone 5 = .ok (.sipush 255, 3) := by decide +kernel
theorem dX0_ofTone_8 : decode cX0_ofTone 8 = .ok (.ireturn, 1) := by decide +kernel
theorem dX0_ofTone_9 : decode cX0_ofTone 9 = .ok (.iconst 0, 1) := by decide +kernel
theorem dX0_ofTone_10 : decode cX0_ofTone 10 = .ok (.istore_n 2, 1) := by decide +kernel
theorem dX0_ofTone_11 : decode cX0_ofTone 11 = .ok (.iconst 0, 1) := by decide +kernel
theorem dX0_ofTone_12 : decode cX0_ofTone 12 = .ok (.istore_n 3, 1) := by decide +kernel
theorem dX0_ofTone_13 : decode cX0_ofTone 13 = .ok (.iload_n 3, 1) := by decide +kernel
theorem dX0_ofTone_14 : decode cX0_ofTone 14 = .ok (.bipush 8, 2) := by decide +kernel
theorem dX0_ofTone_16 : decode cX0_ofTone 16 = .ok (.if_icmp .ge 25, 3) := by decide +kernel
theorem dX0_ofTone_19 : decode cX0_ofTone 19 = .ok (.aload_n 0, 1) := by decide +kernel
theorem dX0_ofTone_20 : decode cX0_ofTone 20 = .ok (.getfield 9, 3) := by decide +kernel
theorem dX0_ofTone_23 : decode cX0_ofTone 23 = .ok (.iload_n 3, 1) := by decide +kernel
theorem dX0_ofTone_24 : decode cX0_ofTone 24 = .ok (.iaload, 1) := by decide +kernel
theorem dX0_ofTone_25 : decode cX0_ofTone 25 = .ok (.iload_n 1, 1) := by decide +kernel
theorem dX0_ofTone_26 : decode cX0_ofTone 26 = .ok (.if_icmp .ne 9, 3) := by decide +kernel
theorem dX0_ofTone_29 : decode cX0_ofTone 29 = .ok (.iload_n 2, 1) := by decide +kernel
theorem dX0_ofTone_30 : decode cX0_ofTone 30 = .ok (.iconst 1, 1) := by decide +kernel
theorem dX0_ofTone_31 : decode cX0_ofTone 31 = .ok (.iload_n 3, 1) := by decide +kernel
theorem dX0_ofTone_32 : decode cX0_ofTone 32 = .ok (.ishl, 1) := by decide +kernel
theorem dX0_ofTone_33 : decode cX0_ofTone 33 = .ok (.ior, 1) := by decide +kernel
theorem dX0_ofTone_34 : decode cX0_ofTone 34 = .ok (.istore_n 2, 1) := by decide +kernel
theorem dX0_ofTone_35 : decode cX0_ofTone 35 = .ok (.iinc 3 1, 3) := by decide +kernel
theorem dX0_ofTone_38 : decode cX0_ofTone 38 = .ok (.goto (-25), 3) := by decide +kernel
theorem dX0_ofTone_41 : decode cX0_ofTone 41 = .ok (.iload_n 2, 1) := by decide +kernel
theorem dX0_ofTone_42 : decode cX0_ofTone 42 = .ok (.ireturn, 1) := by decide +kernel
theorem dX0_startSwinging_0 : decode cX0_startSwinging 0 = .ok (.iconst 0, 1) := by decide +kernel
theorem dX0_startSwinging_1 : decode cX0_startSwinging 1 = .ok (.istore_n 3, 1) := by decide +kernel
theorem dX0_startSwinging_2 : decode cX0_startSwinging 2 = .ok (.iload_n 3, 1) := by decide +kernel
theorem dX0_startSwinging_3 : decode cX0_startSwinging 3 = .ok (.bipush 8, 2) := by decide +kernel
theorem dX0_startSwinging_5 : decode cX0_startSwinging 5 = .ok (.if_icmp .ge 52, 3) := by decide +kernel
theorem dX0_startSwinging_8 : decode cX0_startSwinging 8 = .ok (.iload_n 1, 1) := by decide +kernel
theorem dX0_startSwinging_9 : decode cX0_startSwinging 9 = .ok (.iload_n 3, 1) := by decide +kernel
theorem dX0_startSwinging_10 : decode cX0_startSwinging 10 = .ok (.ishr, 1) := by decide +kernel
theorem dX0_startSwinging_11 : decode cX0_startSwinging 11 = .ok (.iconst 1, 1) := by decide +kernel
theorem dX0_startSwinging_12 : decode cX0_startSwinging 12 = .ok (.iand, 1) := by decide +kernel
theorem dX0_startSwinging_13 : decode cX0_startSwinging 13 = .ok (.ifCond .eq 14, 3) := by decide +kernel
theorem dX0_startSwinging_16 : decode cX0_startSwinging 16 = .ok (.aload_n 0, 1) := by decide +kernel
theorem dX0_startSwinging_17 : decode cX0_startSwinging 17 = .ok (.getfield 15, 3) := by decide +kernel
theorem dX0_startSwinging_20 : decode cX0_startSwinging 20 = .ok (.iload_n 3, 1) := by decide +kernel
theorem dX0_startSwinging_21 : decode cX0_startSwinging 21 = .ok (.bipush 8, 2) := by decide +kernel
theorem dX0_startSwinging_23 : decode cX0_startSwinging 23 = .ok (.iastore, 1) := by decide +kernel
theorem dX0_startSwinging_24 : decode cX0_startSwinging 24 = .ok (.goto 27, 3) := by decide +kernel
theorem dX0_startSwinging_27 : decode cX0_startSwinging 27 = .ok (.iload_n 2, 1) := by decide +kernel
theorem dX0_startSwinging_28 : decode cX0_startSwinging 28 = .ok (.iload_n 3, 1) := by decide +kernel
theorem dX0_startSwinging_29 : decode cX0_startSwinging 29 = .ok (.ishr, 1) := by decide +kernel
theorem dX0_startSwinging_30 : decode cX0_startSwinging 30 = .ok (.iconst 1, 1) := by decide +kernel
theorem dX0_startSwinging_31 : decode cX0_startSwinging 31 = .ok (.iand, 1) := by decide +kernel
theorem dX0_startSwinging_32 : decode cX0_startSwinging 32 = .ok (.ifCond .eq 19, 3) := by decide +kernel
theorem dX0_startSwinging_35 : decode cX0_startSwinging 35 = .ok (.aload_n 0, 1) := by decide +kernel
theorem dX0_startSwinging_36 : decode cX0_startSwinging 36 = .ok (.getfield 15, 3) := by decide +kernel
theorem dX0_startSwinging_39 : decode cX0_startSwinging 39 = .ok (.iload_n 3, 1) := by decide +kernel
theorem dX0_startSwinging_40 : decode cX0_startSwinging 40 = .ok (.aload_n 0, 1) := by decide +kernel
theorem dX0_startSwinging_41 : decode cX0_startSwinging 41 = .ok (.getfield 15, 3) := by decide +kernel
theorem dX0_startSwinging_44 : decode cX0_startSwinging 44 = .ok (.iload_n 3, 1) := by decide +kernel
theorem dX0_startSwinging_45 : decode cX0_startSwinging 45 = .ok (.iaload, 1) := by decide +kernel
theorem dX0_startSwinging_46 : decode cX0_startSwinging 46 = .ok (.iconst 4, 1) := by decide +kernel
theorem dX0_startSwinging_47 : decode cX0_startSwinging 47 = .ok (.invokestatic 22, 3) := by decide +kernel
theorem dX0_startSwinging_50 : decode cX0_startSwinging 50 = .ok (.iastore, 1) := by decide +kernel
theorem dX0_startSwinging_51 : decode cX0_startSwinging 51 = .ok (.iinc 3 1, 3) := by decide +kernel
theorem dX0_startSwinging_54 : decode cX0_startSwinging 54 = .ok (.goto (-52), 3) := by decide +kernel
theorem dX0_startSwinging_57 : decode cX0_startSwinging 57 = .ok (.return_, 1) := by decide +kernel
theorem dX0_swingLess_0 : decode cX0_swingLess 0 = .ok (.iconst 0, 1) := by decide +kernel
theorem dX0_swingLess_1 : decode cX0_swingLess 1 = .ok (.istore_n 1, 1) := by decide +kernel
theorem dX0_swingLess_2 : decode cX0_swingLess 2 = .ok (.iload_n 1, 1) := by decide +kernel
theorem dX0_swingLess_3 : decode cX0_swingLess 3 = .ok (.bipush 8, 2) := by decide +kernel
theorem dX0_swingLess_5 : decode cX0_swingLess 5 = .ok (.if_icmp .ge 28, 3) := by decide +kernel
theorem dX0_swingLess_8 : decode cX0_swingLess 8 = .ok (.aload_n 0, 1) := by decide +kernel
theorem dX0_swingLess_9 : decode cX0_swingLess 9 = .ok (.getfield 15, 3) := by decide +kernel
theorem dX0_swingLess_12 : decode cX0_swingLess 12 = .ok (.iload_n 1, 1) := by decide +kernel
theorem dX0_swingLess_13 : decode cX0_swingLess 13 = .ok (.iaload, 1) := by decide +kernel
theorem dX0_swingLess_14 : decode cX0_swingLess 14 = .ok (.ifCond .le 13, 3) := by decide +kernel
theorem dX0_swingLess_17 : decode cX0_swingLess 17 = .ok (.aload_n 0, 1) := by decide +kernel
theorem dX0_swingLess_18 : decode cX0_swingLess 18 = .ok (.getfield 15, 3) := by decide +kernel
theorem dX0_swingLess_21 : decode cX0_swingLess 21 = .ok (.iload_n 1, 1) := by decide +kernel
theorem dX0_swingLess_22 : decode cX0_swingLess 22 = .ok (.dup2, 1) := by decide +kernel
theorem dX0_swingLess_23 : decode cX0_swingLess 23 = .ok (.iaload, 1) := by decide +kernel
theorem dX0_swingLess_24 : decode cX0_swingLess 24 = .ok (.iconst 1, 1) := by decide +kernel
theorem dX0_swingLess_25 : decode cX0_swingLess 25 = .ok (.isub, 1) := by decide +kernel
theorem dX0_swingLess_26 : decode cX0_swingLess 26 = .ok (.iastore, 1) := by decide +kernel
theorem dX0_swingLess_27 : decode cX0_swingLess 27 = .ok (.iinc 1 1, 3) := by decide +kernel
theorem dX0_swingLess_30 : decode cX0_swingLess 30 = .ok (.goto (-28), 3) := by decide +kernel
theorem dX0_swingLess_33 : decode cX0_swingLess 33 = .ok (.return_, 1) := by decide +kernel
theorem dX0_swinging_0 : decode cX0_swinging 0 = .ok (.iconst 0, 1) := by decide +kernel
theorem dX0_swinging_1 : decode cX0_swinging 1 = .ok (.istore_n 1, 1) := by decide +kernel
theorem dX0_swinging_2 : decode cX0_swinging 2 = .ok (.iconst 0, 1) := by decide +kernel
theorem dX0_swinging_3 : decode cX0_swinging 3 = .ok (.istore_n 2, 1) := by decide +kernel
theorem dX0_swinging_4 : decode cX0_swinging 4 = .ok (.iload_n 2, 1) := by decide +kernel
theorem dX0_swinging_5 : decode cX0_swinging 5 = .ok (.bipush 8, 2) := by decide +kernel
theorem dX0_swinging_7 : decode cX0_swinging 7 = .ok (.if_icmp .ge 24, 3) := by decide +kernel
theorem dX0_swinging_10 : decode cX0_swinging 10 = .ok (.aload_n 0, 1) := by decide +kernel
theorem dX0_swinging_11 : decode cX0_swinging 11 = .ok (.getfield 15, 3) := by decide +kernel
theorem dX0_swinging_14 : decode cX0_swinging 14 = .ok (.iload_n 2, 1) := by decide +kernel
theorem dX0_swinging_15 : decode cX0_swinging 15 = .ok (.iaload, 1) := by decide +kernel
theorem dX0_swinging_16 : decode cX0_swinging 16 = .ok (.ifCond .le 9, 3) := by decide +kernel
theorem dX0_swinging_19 : decode cX0_swinging 19 = .ok (.iload_n 1, 1) := by decide +kernel
theorem dX0_swinging_20 : decode cX0_swinging 20 = .ok (.iconst 1, 1) := by decide +kernel
theorem dX0_swinging_21 : decode cX0_swinging 21 = .ok (.iload_n 2, 1) := by decide +kernel
theorem dX0_swinging_22 : decode cX0_swinging 22 = .ok (.ishl, 1) := by decide +kernel
theorem dX0_swinging_23 : decode cX0_swinging 23 = .ok (.ior, 1) := by decide +kernel
theorem dX0_swinging_24 : decode cX0_swinging 24 = .ok (.istore_n 1, 1) := by decide +kernel
theorem dX0_swinging_25 : decode cX0_swinging 25 = .ok (.iinc 2 1, 3) := by decide +kernel
theorem dX0_swinging_28 : decode cX0_swinging 28 = .ok (.goto (-24), 3) := by decide +kernel
theorem dX0_swinging_31 : decode cX0_swinging 31 = .ok (.iload_n 1, 1) := by decide +kernel
theorem dX0_swinging_32 : decode cX0_swinging 32 = .ok (.ireturn, 1) := by decide +kernel
theorem dX1_init_0 : decode cX1_init 0 = .ok (.aload_n 0, 1) := by decide +kernel
theorem dX1_init_1 : decode cX1_init 1 = .ok (.invokespecial 3, 3) := by decide +kernel
theorem dX1_init_4 : decode cX1_init 4 = .ok (.aload_n 0, 1) := by decide +kernel
theorem dX1_init_5 : decode cX1_init 5 = .ok (.bipush 12, 2) := by decide +kernel
theorem dX1_init_7 : decode cX1_init 7 = .ok (.newarray .int, 2) := by decide +kernel
theorem dX1_init_9 : decode cX1_init 9 = .ok (.putfield 9, 3) := by decide +kernel
theorem dX1_init_12 : decode cX1_init 12 = .ok (.aload_n 0, 1) := by decide +kernel
theorem dX1_init_13 : decode cX1_init 13 = .ok (.bipush 12, 2) := by decide +kernel
theorem dX1_init_15 : decode cX1_init 15 = .ok (.newarray .int, 2) := by decide +kernel
theorem dX1_init_17 : decode cX1_init 17 = .ok (.putfield 15, 3) := by decide +kernel
theorem dX1_init_20 : decode cX1_init 20 = .ok (.aload_n 0, 1) := by decide +kernel
theorem dX1_init_21 : decode cX1_init 21 = .ok (.bipush 12, 2) := by decide +kernel
theorem dX1_init_23 : decode cX1_init 23 = .ok (.newarray .int, 2) := by decide +kernel
theorem dX1_init_25 : decode cX1_init 25 = .ok (.putfield 18, 3) := by decide +kernel
theorem dX1_init_28 : decode cX1_init 28 = .ok (.aload_n 0, 1) := by decide +kernel
theorem dX1_init_29 : decode cX1_init 29 = .ok (.bipush 12, 2) := by decide +kernel
theorem dX1_init_31 : decode cX1_init 31 = .ok (.newarray .int, 2) := by decide +kernel
theorem dX1_init_33 : decode cX1_init 33 = .ok (.putfield 21, 3) := by decide +kernel
theorem dX1_init_36 : decode cX1_init 36 = .ok (.aload_n 0, 1) := by decide +kernel
theorem dX1_init_37 : decode cX1_init 37 = .ok (.bipush 12, 2) := by decide +kernel
theorem dX1_init_39 : decode cX1_init 39 = .ok (.newarray .int, 2) := by decide +kernel
theorem dX1_init_41 : decode cX1_init 41 = .ok (.putfield 24, 3) := by decide +kernel
theorem dX1_init_44 : decode cX1_init 44 = .ok (.return_, 1) := by decide +kernel
theorem dX1_isWaiting_0 : decode cX1_isWaiting 0 = .ok (.aload_n 0, 1) := by decide +kernel
theorem dX1_isWaiting_1 : decode cX1_isWaiting 1 = .ok (.getfield 9, 3) := by decide +kernel
theorem dX1_isWaiting_4 : decode cX1_isWaiting 4 = .ok (.iload_n 1, 1) := by decide +kernel
theorem dX1_isWaiting_5 : decode cX1_isWaiting 5 = .ok (.iaload, 1) := by decide +kernel
theorem dX1_isWaiting_6 : decode cX1_isWaiting 6 = .ok (.iconst 1, 1) := by decide +kernel
theorem dX1_isWaiting_7 : decode cX1_isWaiting 7 = .ok (.if_icmp .ne 7, 3) := by decide +kernel
theorem dX1_isWaiting_10 : decode cX1_isWaiting 10 = .ok (.iconst 1, 1) := by decide +kernel
theorem dX1_isWaiting_11 : decode cX1_isWaiting 11 = .ok (.goto 4, 3) := by decide +kernel
theorem dX1_isWaiting_14 : decode cX1_isWaiting 14 = .ok (.iconst 0, 1) := by decide +kernel
theorem dX1_isWaiting_15 : decode cX1_isWaiting 15 = .ok (.ireturn, 1) := by decide +kernel
theorem dX1_countIn_0 : decode cX1_countIn 0 = .ok (.iconst 0, 1) := by decide +kernel
theorem dX1_countIn_1 : decode cX1_countIn 1 = .ok (.istore_n 2, 1) := by decide +kernel
theorem dX1_countIn_2 : decode cX1_countIn 2 = .ok (.iconst 0, 1) := by decide +kernel
theorem dX1_countIn_3 : decode cX1_countIn 3 = .ok (.istore_n 3, 1) := by decide +kernel
theorem dX1_countIn_4 : decode cX1_countIn 4 = .ok (.iload_n 3, 1) := by decide +kernel
theorem dX1_countIn_5 : decode cX1_countIn 5 = .ok (.bipush 12, 2) := by decide +kernel
theorem dX1_countIn_7 : decode cX1_countIn 7 = .ok (.if_icmp .ge 22, 3) := by decide +kernel
theorem dX1_countIn_10 : decode cX1_countIn 10 = .ok (.aload_n 0, 1) := by decide +kernel
theorem dX1_countIn_11 : decode cX1_countIn 11 = .ok (.getfield 9, 3) := by decide +kernel
theorem dX1_countIn_14 : decode cX1_countIn 14 = .ok (.iload_n 3, 1) := by decide +kernel
theorem dX1_countIn_15 : decode cX1_countIn 15 = .ok (.iaload, 1) := by decide +kernel
theorem dX1_countIn_16 : decode cX1_countIn 16 = .ok (.iload_n 1, 1) := by decide +kernel
theorem dX1_countIn_17 : decode cX1_countIn 17 = .ok (.if_icmp .ne 6, 3) := by decide +kernel
theorem dX1_countIn_20 : decode cX1_countIn 20 = .ok (.iinc 2 1, 3) := by decide +kernel
theorem dX1_countIn_23 : decode cX1_countIn 23 = .ok (.iinc 3 1, 3) := by decide +kernel
theorem dX1_countIn_26 : decode cX1_countIn 26 = .ok (.goto (-22), 3) := by decide +kernel
theorem dX1_countIn_29 : decode cX1_countIn 29 = .ok (.iload_n 2, 1) := by decide +kernel
theorem dX1_countIn_30 : decode cX1_countIn 30 = .ok (.ireturn, 1) := by decide +kernel
theorem dX1_make_0 : decode cX1_make 0 = .ok (.aload_n 0, 1) := by decide +kernel
theorem dX1_make_1 : decode cX1_make 1 = .ok (.dup, 1) := by decide +kernel
theorem dX1_make_2 : decode cX1_make 2 = .ok (.getfield 27, 3) := by decide +kernel
theorem dX1_make_5 : decode cX1_make 5 = .ok (.iconst 1, 1) := by decide +kernel
theorem dX1_make_6 : decode cX1_make 6 = .ok (.iload_n 1, 1) := by decide +kernel
theorem dX1_make_7 : decode cX1_make 7 = .ok (.ishl, 1) := by decide +kernel
theorem dX1_make_8 : decode cX1_make 8 = .ok (.ior, 1) := by decide +kernel
theorem dX1_make_9 : decode cX1_make 9 = .ok (.putfield 27, 3) := by decide +kernel
theorem dX1_make_12 : decode cX1_make 12 = .ok (.aload_n 0, 1) := by decide +kernel
theorem dX1_make_13 : decode cX1_make 13 = .ok (.getfield 9, 3) := by decide +kernel
theorem dX1_make_16 : decode cX1_make 16 = .ok (.iload_n 1, 1) := by decide +kernel
theorem dX1_make_17 : decode cX1_make 17 = .ok (.iaload, 1) := by decide +kernel
theorem dX1_make_18 : decode cX1_make 18 = .ok (.ifCond .ne 17, 3) := by decide +kernel
theorem dX1_make_21 : decode cX1_make 21 = .ok (.aload_n 0, 1) := by decide +kernel
theorem dX1_make_22 : decode cX1_make 22 = .ok (.getfield 9, 3) := by decide +kernel
theorem dX1_make_25 : decode cX1_make 25 = .ok (.iload_n 1, 1) := by decide +kernel
theorem dX1_make_26 : decode cX1_make 26 = .ok (.iconst 1, 1) := by decide +kernel
theorem dX1_make_27 : decode cX1_make 27 = .ok (.iastore, 1) := by decide +kernel
theorem dX1_make_28 : decode cX1_make 28 = .ok (.aload_n 0, 1) := by decide +kernel
theorem dX1_make_29 : decode cX1_make 29 = .ok (.getfield 15, 3) := by decide +kernel
theorem dX1_make_32 : decode cX1_make 32 = .ok (.iload_n 1, 1) := by decide +kernel
theorem dX1_make_33 : decode cX1_make 33 = .ok (.iload_n 2, 1) := by decide +kernel
theorem dX1_make_34 : decode cX1_make 34 = .ok (.iastore, 1) := by decide +kernel
theorem dX1_make_35 : decode cX1_make 35 = .ok (.return_, 1) := by decide +kernel
theorem dX1_drop_0 : decode cX1_drop 0 = .ok (.aload_n 0, 1) := by decide +kernel
theorem dX1_drop_1 : decode cX1_drop 1 = .ok (.getfield 9, 3) := by decide +kernel
theorem dX1_drop_4 : decode cX1_drop 4 = .ok (.iload_n 1, 1) := by decide +kernel
theorem dX1_drop_5 : decode cX1_drop 5 = .ok (.iconst 0, 1) := by decide +kernel
theorem dX1_drop_6 : decode cX1_drop 6 = .ok (.iastore, 1) := by decide +kernel
theorem dX1_drop_7 : decode cX1_drop 7 = .ok (.aload_n 0, 1) := by decide +kernel
theorem dX1_drop_8 : decode cX1_drop 8 = .ok (.dup, 1) := by decide +kernel
theorem dX1_drop_9 : decode cX1_drop 9 = .ok (.getfield 31, 3) := by decide +kernel
theorem dX1_drop_12 : decode cX1_drop 12 = .ok (.iconst 1, 1) := by decide +kernel
theorem dX1_drop_13 : decode cX1_drop 13 = .ok (.iadd, 1) := by decide +kernel
theorem dX1_drop_14 : decode cX1_drop 14 = .ok (.putfield 31, 3) := by decide +kernel
theorem dX1_drop_17 : decode cX1_drop 17 = .ok (.return_, 1) := by decide +kernel
theorem dX1_startErrand_0 : decode cX1_startErrand 0 = .ok (.aload_n 0, 1) := by decide +kernel
theorem dX1_startErrand_1 : decode cX1_startErrand 1 = .ok (.getfield 9, 3) := by decide +kernel
theorem dX1_startErrand_4 : decode cX1_startErrand 4 = .ok (.iload_n 1, 1) := by decide +kernel
theorem dX1_startErrand_5 : decode cX1_startErrand 5 = .ok (.iconst 2, 1) := by decide +kernel
theorem dX1_startErrand_6 : decode cX1_startErrand 6 = .ok (.iastore, 1) := by decide +kernel
theorem dX1_startErrand_7 : decode cX1_startErrand 7 = .ok (.aload_n 0, 1) := by decide +kernel
theorem dX1_startErrand_8 : decode cX1_startErrand 8 = .ok (.getfield 18, 3) := by decide +kernel
theorem dX1_startErrand_11 : decode cX1_startErrand 11 = .ok (.iload_n 1, 1) := by decide +kernel
theorem dX1_startErrand_12 : decode cX1_startErrand 12 = .ok (.dup2, 1) := by decide +kernel
theorem dX1_startErrand_13 : decode cX1_startErrand 13 = .ok (.iaload, 1) := by decide +kernel
theorem dX1_startErrand_14 : decode cX1_startErrand 14 = .ok (.iconst 1, 1) := by decide +kernel
theorem dX1_startErrand_15 : decode cX1_startErrand 15 = .ok (.iadd, 1) := by decide +kernel
theorem dX1_startErrand_16 : decode cX1_startErrand 16 = .ok (.iastore, 1) := by decide +kernel
theorem dX1_startErrand_17 : decode cX1_startErrand 17 = .ok (.aload_n 0, 1) := by decide +kernel
theorem dX1_startErrand_18 : decode cX1_startErrand 18 = .ok (.getfield 21, 3) := by decide +kernel
theorem dX1_startErrand_21 : decode cX1_startErrand 21 = .ok (.iload_n 1, 1) := by decide +kernel
theorem dX1_startErrand_22 : decode cX1_startErrand 22 = .ok (.dup2, 1) := by decide +kernel
theorem dX1_startErrand_23 : decode cX1_startErrand 23 = .ok (.iaload, 1) := by decide +kernel
theorem dX1_startErrand_24 : decode cX1_startErrand 24 = .ok (.iload_n 2, 1) := by decide +kernel
theorem dX1_startErrand_25 : decode cX1_startErrand 25 = .ok (.iadd, 1) := by decide +kernel
theorem dX1_startErrand_26 : decode cX1_startErrand 26 = .ok (.iastore, 1) := by decide +kernel
theorem dX1_startErrand_27 : decode cX1_startErrand 27 = .ok (.aload_n 0, 1) := by decide +kernel
theorem dX1_startErrand_28 : decode cX1_startErrand 28 = .ok (.getfield 24, 3) := by decide +kernel
theorem dX1_startErrand_31 : decode cX1_startErrand 31 = .ok (.iload_n 1, 1) := by decide +kernel
theorem dX1_startErrand_32 : decode cX1_startErrand 32 = .ok (.aload_n 0, 1) := by decide +kernel
theorem dX1_startErrand_33 : decode cX1_startErrand 33 = .ok (.getfield 24, 3) := by decide +kernel
theorem dX1_startErrand_36 : decode cX1_startErrand 36 = .ok (.iload_n 1, 1) := by decide +kernel
theorem dX1_startErrand_37 : decode cX1_startErrand 37 = .ok (.iaload, 1) := by decide +kernel
theorem dX1_startErrand_38 : decode cX1_startErrand 38 = .ok (.iload_n 2, 1) := by decide +kernel
theorem dX1_startErrand_39 : decode cX1_startErrand 39 = .ok (.invokestatic 34, 3) := by decide +kernel
theorem dX1_startErrand_42 : decode cX1_startErrand 42 = .ok (.iastore, 1) := by decide +kernel
theorem dX1_startErrand_43 : decode cX1_startErrand 43 = .ok (.return_, 1) := by decide +kernel
theorem dX1_endErrand_0 : decode cX1_endErrand 0 = .ok (.aload_n 0, 1) := by decide +kernel
theorem dX1_endErrand_1 : decode cX1_endErrand 1 = .ok (.getfield 9, 3) := by decide +kernel
theorem dX1_endErrand_4 : decode cX1_endErrand 4 = .ok (.iload_n 1, 1) := by decide +kernel
theorem dX1_endErrand_5 : decode cX1_endErrand 5 = .ok (.iconst 0, 1) := by decide +kernel
theorem dX1_endErrand_6 : decode cX1_endErrand 6 = .ok (.iastore, 1) := by decide +kernel
theorem dX1_endErrand_7 : decode cX1_endErrand 7 = .ok (.return_, 1) := by decide +kernel
theorem dX2_init_0 : decode cX2_init 0 = .ok (.aload_n 0, 1) := by decide +kernel
theorem dX2_init_1 : decode cX2_init 1 = .ok (.invokespecial 3, 3) := by decide +kernel
theorem dX2_init_4 : decode cX2_init 4 = .ok (.aload_n 0, 1) := by decide +kernel
theorem dX2_init_5 : decode cX2_init 5 = .ok (.sipush 168, 3) := by decide +kernel
theorem dX2_init_8 : decode cX2_init 8 = .ok (.newarray .int, 2) := by decide +kernel
theorem dX2_init_10 : decode cX2_init 10 = .ok (.putfield 11, 3) := by decide +kernel
theorem dX2_init_13 : decode cX2_init 13 = .ok (.aload_n 0, 1) := by decide +kernel
theorem dX2_init_14 : decode cX2_init 14 = .ok (.iconst 3, 1) := by decide +kernel
theorem dX2_init_15 : decode cX2_init 15 = .ok (.newarray .int, 2) := by decide +kernel
theorem dX2_init_17 : decode cX2_init 17 = .ok (.putfield 15, 3) := by decide +kernel
theorem dX2_init_20 : decode cX2_init 20 = .ok (.aload_n 0, 1) := by decide +kernel
theorem dX2_init_21 : decode cX2_init 21 = .ok (.aload_n 1, 1) := by decide +kernel
theorem dX2_init_22 : decode cX2_init 22 = .ok (.putfield 18, 3) := by decide +kernel
theorem dX2_init_25 : decode cX2_init 25 = .ok (.aload_n 0, 1) := by decide +kernel
theorem dX2_init_26 : decode cX2_init 26 = .ok (.invokevirtual 22, 3) := by decide +kernel
theorem dX2_init_29 : decode cX2_init 29 = .ok (.return_, 1) := by decide +kernel
theorem dX2_addTest_0 : decode cX2_addTest 0 = .ok (.aload_n 0, 1) := by decide +kernel
theorem dX2_addTest_1 : decode cX2_addTest 1 = .ok (.dup, 1) := by decide +kernel
theorem dX2_addTest_2 : decode cX2_addTest 2 = .ok (.getfield 25, 3) := by decide +kernel
theorem dX2_addTest_5 : decode cX2_addTest 5 = .ok (.iconst 1, 1) := by decide +kernel
theorem dX2_addTest_6 : decode cX2_addTest 6 = .ok (.iadd, 1) := by decide +kernel
theorem dX2_addTest_7 : decode cX2_addTest 7 = .ok (.putfield 25, 3) := by decide +kernel
theorem dX2_addTest_10 : decode cX2_addTest 10 = .ok (.iload_n 3, 1) := by decide +kernel
theorem dX2_addTest_11 : decode cX2_addTest 11 = .ok (.iconst (-1), 1) := by decide +kernel
theorem dX2_addTest_12 : decode cX2_addTest 12 = .ok (.if_icmp .eq 10, 3) := by decide +kernel
theorem dX2_addTest_15 : decode cX2_addTest 15 = .ok (.aload_n 0, 1) := by decide +kernel
theorem dX2_addTest_16 : decode cX2_addTest 16 = .ok (.iload_n 1, 1) := by decide +kernel
theorem dX2_addTest_17 : decode cX2_addTest 17 = .ok (.iload_n 2, 1) := by decide +kernel
theorem dX2_addTest_18 : decode cX2_addTest 18 = .ok (.iload_n 3, 1) := by decide +kernel
theorem dX2_addTest_19 : decode cX2_addTest 19 = .ok (.invokevirtual 29, 3) := by decide +kernel
theorem dX2_addTest_22 : decode cX2_addTest 22 = .ok (.aload_n 0, 1) := by decide +kernel
theorem dX2_addTest_23 : decode cX2_addTest 23 = .ok (.getfield 25, 3) := by decide +kernel
theorem dX2_addTest_26 : decode cX2_addTest 26 = .ok (.ireturn, 1) := by decide +kernel
theorem dX2_dropTests_0 : decode cX2_dropTests 0 = .ok (.aload_n 0, 1) := by decide +kernel
theorem dX2_dropTests_1 : decode cX2_dropTests 1 = .ok (.getfield 25, 3) := by decide +kernel
theorem dX2_dropTests_4 : decode cX2_dropTests 4 = .ok (.istore_n 1, 1) := by decide +kernel
theorem dX2_dropTests_5 : decode cX2_dropTests 5 = .ok (.aload_n 0, 1) := by decide +kernel
theorem dX2_dropTests_6 : decode cX2_dropTests 6 = .ok (.iconst 0, 1) := by decide +kernel
theorem dX2_dropTests_7 : decode cX2_dropTests 7 = .ok (.putfield 25, 3) := by decide +kernel
theorem dX2_dropTests_10 : decode cX2_dropTests 10 = .ok (.aload_n 0, 1) := by decide +kernel
theorem dX2_dropTests_11 : decode cX2_dropTests 11 = .ok (.invokevirtual 22, 3) := by decide +kernel
theorem dX2_dropTests_14 : decode cX2_dropTests 14 = .ok (.iload_n 1, 1) := by decide +kernel
theorem dX2_dropTests_15 : decode cX2_dropTests 15 = .ok (.ireturn, 1) := by decide +kernel
theorem dX2_testThatPartsMost_0 : decode cX2_testThatPartsMost 0 = .ok (.aload_n 0, 1) := by decide +kernel
theorem dX2_testThatPartsMost_1 : decode cX2_testThatPartsMost 1 = .ok (.getfield 33, 3) := by decide +kernel
theorem dX2_testThatPartsMost_4 : decode cX2_testThatPartsMost 4 = .ok (.iconst 2, 1) := by decide +kernel
theorem dX2_testThatPartsMost_5 : decode cX2_testThatPartsMost 5 = .ok (.if_icmp .ge 6, 3) := by decide +kernel
theorem dX2_testThatPartsMost_8 : decode cX2_testThatPartsMost 8 = .ok (.bipush (-4), 2) := by decide +kernel
theorem dX2_testThatPartsMost_10 : decode cX2_testThatPartsMost 10 = .ok (.ireturn, 1) := by decide +kernel
theorem dX2_testThatPartsMost_11 : decode cX2_testThatPartsMost 11 = .ok (.bipush (-4), 2) := by decide +kernel
theorem dX2_testThatPartsMost_13 : decode cX2_testThatPartsMost 13 = .ok (.istore_n 2, 1) := by decide +kernel
theorem dX2_testThatPartsMost_14 : decode cX2_testThatPartsMost 14 = .ok (.iconst 0, 1) := by decide +kernel
theorem dX2_testThatPartsMost_15 : decode cX2_testThatPartsMost 15 = .ok (.istore_n 3, 1) := by decide +kernel
theorem dX2_testThatPartsMost_16 : decode cX2_testThatPartsMost 16 = .ok (.iconst 0, 1) := by decide +kernel
theorem dX2_testThatPartsMost_17 : decode cX2_testThatPartsMost 17 = .ok (.istore 4, 2) := by decide +kernel
theorem dX2_testThatPartsMost_19 : decode cX2_testThatPartsMost 19 = .ok (.iload 4, 2) := by decide +kernel
theorem dX2_testThatPartsMost_21 : decode cX2_testThatPartsMost 21 = .ok (.aload_n 0, 1) := by decide +kernel
theorem dX2_testThatPartsMost_22 : decode cX2_testThatPartsMost 22 = .ok (.getfield 18, 3) := by decide +kernel
theorem dX2_testThatPartsMost_25 : decode cX2_testThatPartsMost 25 = .ok (.getfield 36, 3) := by decide +kernel
theorem dX2_testThatPartsMost_28 : decode cX2_testThatPartsMost 28 = .ok (.if_icmp .ge 36, 3) := by decide +kernel
theorem dX2_testThatPartsMost_31 : decode cX2_testThatPartsMost 31 = .ok (.aload_n 0, 1) := by decide +kernel
theorem dX2_testThatPartsMost_32 : decode cX2_testThatPartsMost 32 = .ok (.iload 4, 2) := by decide +kernel
theorem dX2_testThatPartsMost_34 : decode cX2_testThatPartsMost 34 = .ok (.iload_n 1, 1) := by decide +kernel
theorem dX2_testThatPartsMost_35 : decode cX2_testThatPartsMost 35 = .ok (.invokevirtual 39, 3) := by decide +kernel
theorem dX2_testThatPartsMost_38 : decode cX2_testThatPartsMost 38 = .ok (.istore 5, 2) := by decide +kernel
theorem dX2_testThatPartsMost_40 : decode cX2_testThatPartsMost 40 = .ok (.iload_n 2, 1) := by decide +kernel
theorem dX2_testThatPartsMost_41 : decode cX2_testThatPartsMost 41 = .ok (.bipush (-4), 2) := by decide +kernel
theorem dX2_testThatPartsMost_43 : decode cX2_testThatPartsMost 43 = .ok (.if_icmp .eq 9, 3) := by decide +kernel
theorem dX2_testThatPartsMost_46 : decode cX2_testThatPartsMost 46 = .ok (.iload 5, 2) := by decide +kernel
theorem dX2_testThatPartsMost_48 : decode cX2_testThatPartsMost 48 = .ok (.iload_n 3, 1) := by decide +kernel
theorem dX2_testThatPartsMost_49 : decode cX2_testThatPartsMost 49 = .ok (.if_icmp .ge 9, 3) := by decide +kernel
theorem dX2_testThatPartsMost_52 : decode cX2_testThatPartsMost 52 = .ok (.iload 4, 2) := by decide +kernel
theorem dX2_testThatPartsMost_54 : decode cX2_testThatPartsMost 54 = .ok (.istore_n 2, 1) := by decide +kernel
theorem dX2_testThatPartsMost_55 : decode cX2_testThatPartsMost 55 = .ok (.iload 5, 2) := by decide +kernel
theorem dX2_testThatPartsMost_57 : decode cX2_testThatPartsMost 57 = .ok (.istore_n 3, 1) := by decide +kernel
theorem dX2_testThatPartsMost_58 : decode cX2_testThatPartsMost 58 = .ok (.iinc 4 1, 3) := by decide +kernel
theorem dX2_testThatPartsMost_61 : decode cX2_testThatPartsMost 61 = .ok (.goto (-42), 3) := by decide +kernel
theorem dX2_testThatPartsMost_64 : decode cX2_testThatPartsMost 64 = .ok (.iload_n 2, 1) := by decide +kernel
theorem dX2_testThatPartsMost_65 : decode cX2_testThatPartsMost 65 = .ok (.ireturn, 1) := by decide +kernel
theorem dX2_takeAll_0 : decode cX2_takeAll 0 = .ok (.iconst 0, 1) := by decide +kernel
theorem dX2_takeAll_1 : decode cX2_takeAll 1 = .ok (.istore_n 1, 1) := by decide +kernel
theorem dX2_takeAll_2 : decode cX2_takeAll 2 = .ok (.iload_n 1, 1) := by decide +kernel
theorem dX2_takeAll_3 : decode cX2_takeAll 3 = .ok (.sipush 168, 3) := by decide +kernel
theorem dX2_takeAll_6 : decode cX2_takeAll 6 = .ok (.if_icmp .ge 16, 3) := by decide +kernel
theorem dX2_takeAll_9 : decode cX2_takeAll 9 = .ok (.aload_n 0, 1) := by decide +kernel
theorem dX2_takeAll_10 : decode cX2_takeAll 10 = .ok (.getfield 11, 3) := by decide +kernel
theorem dX2_takeAll_13 : decode cX2_takeAll 13 = .ok (.iload_n 1, 1) := by decide +kernel
theorem dX2_takeAll_14 : decode cX2_takeAll 14 = .ok (.iload_n 1, 1) := by decide +kernel
theorem dX2_takeAll_15 : decode cX2_takeAll 15 = .ok (.iastore, 1) := by decide +kernel
theorem dX2_takeAll_16 : decode cX2_takeAll 16 = .ok (.iinc 1 1, 3) := by decide +kernel
theorem dX2_takeAll_19 : decode cX2_takeAll 19 = .ok (.goto (-17), 3) := by decide +kernel
theorem dX2_takeAll_22 : decode cX2_takeAll 22 = .ok (.aload_n 0, 1) := by decide +kernel
theorem dX2_takeAll_23 : decode cX2_takeAll 23 = .ok (.sipush 168, 3) := by decide +kernel
theorem dX2_takeAll_26 : decode cX2_takeAll 26 = .ok (.putfield 33, 3) := by decide +kernel
theorem dX2_takeAll_29 : decode cX2_takeAll 29 = .ok (.return_, 1) := by decide +kernel
theorem dX2_keepThoseThatCome_0 : decode cX2_keepThoseThatCome 0 = .ok (.iconst 0, 1) := by decide +kernel
theorem dX2_keepThoseThatCome_1 : decode cX2_keepThoseThatCome 1 = .ok (.istore 4, 2) := by decide +kernel
theorem dX2_keepThoseThatCome_3 : decode cX2_keepThoseThatCome 3 = .ok (.iconst 0, 1) := by decide +kernel
theorem dX2_keepThoseThatCome_4 : decode cX2_keepThoseThatCome 4 = .ok (.istore 5, 2) := by decide +kernel
theorem dX2_keepThoseThatCome_6 : decode cX2_keepThoseThatCome 6 = .ok (.iload 5, 2) := by decide +kernel
theorem dX2_keepThoseThatCome_8 : decode cX2_keepThoseThatCome 8 = .ok (.aload_n 0, 1) := by decide +kernel
theorem dX2_keepThoseThatCome_9 : decode cX2_keepThoseThatCome 9 = .ok (.getfield 33, 3) := by decide +kernel
theorem dX2_keepThoseThatCome_12 : decode cX2_keepThoseThatCome 12 = .ok (.if_icmp .ge 43, 3) := by decide +kernel
theorem dX2_keepThoseThatCome_15 : decode cX2_keepThoseThatCome 15 = .ok (.aload_n 0, 1) := by decide +kernel
theorem dX2_keepThoseThatCome_16 : decode cX2_keepThoseThatCome 16 = .ok (.aload_n 0, 1) := by decide +kernel
theorem dX2_keepThoseThatCome_17 : decode cX2_keepThoseThatCome 17 = .ok (.getfield 11, 3) := by decide +kernel
theorem dX2_keepThoseThatCome_20 : decode cX2_keepThoseThatCome 20 = .ok (.iload 5, 2) := by decide +kernel
theorem dX2_keepThoseThatCome_22 : decode cX2_keepThoseThatCome 22 = .ok (.iaload, 1) := by decide +kernel
theorem dX2_keepThoseThatCome_23 : decode cX2_keepThoseThatCome 23 = .ok (.iload_n 1, 1) := by decide +kernel
theorem dX2_keepThoseThatCome_24 : decode cX2_keepThoseThatCome 24 = .ok (.iload_n 2, 1) := by decide +kernel
theorem dX2_keepThoseThatCome_25 : decode cX2_keepThoseThatCome 25 = .ok (.invokevirtual 43, 3) := by decide +kernel
theorem dX2_keepThoseThatCome_28 : decode cX2_keepThoseThatCome 28 = .ok (.iload_n 3, 1) := by decide +kernel
theorem dX2_keepThoseThatCome_29 : decode cX2_keepThoseThatCome 29 = .ok (.if_icmp .ne 20, 3) := by decide +kernel
theorem dX2_keepThoseThatCome_32 : decode cX2_keepThoseThatCome 32 = .ok (.aload_n 0, 1) := by decide +kernel
theorem dX2_keepThoseThatCome_33 : decode cX2_keepThoseThatCome 33 = .ok (.getfield 11, 3) := by decide +kernel
theorem dX2_keepThoseThatCome_36 : decode cX2_keepThoseThatCome 36 = .ok (.iload 4, 2) := by decide +kernel
theorem dX2_keepThoseThatCome_38 : decode cX2_keepThoseThatCome 38 = .ok (.aload_n 0, 1) := by decide +kernel
theorem dX2_keepThoseThatCome_39 : decode cX2_keepThoseThatCome 39 = .ok (.getfield 11, 3) := by decide +kernel
theorem dX2_keepThoseThatCome_42 : decode cX2_keepThoseThatCome 42 = .ok (.iload 5, 2) := by decide +kernel
theorem dX2_keepThoseThatCome_44 : decode cX2_keepThoseThatCome 44 = .ok (.iaload, 1) := by decide +kernel
theorem dX2_keepThoseThatCome_45 : decode cX2_keepThoseThatCome 45 = .ok (.iastore, 1) := by decide +kernel
theorem dX2_keepThoseThatCome_46 : decode cX2_keepThoseThatCome 46 = .ok (.iinc 4 1, 3) := by decide +kernel
theorem dX2_keepThoseThatCome_49 : decode cX2_keepThoseThatCome 49 = .ok (.iinc 5 1, 3) := by decide +kernel
theorem dX2_keepThoseThatCome_52 : decode cX2_keepThoseThatCome 52 = .ok (.goto (-46), 3) := by decide +kernel
theorem dX2_keepThoseThatCome_55 : decode cX2_keepThoseThatCome 55 = .ok (.aload_n 0, 1) := by decide +kernel
theorem dX2_keepThoseThatCome_56 : decode cX2_keepThoseThatCome 56 = .ok (.iload 4, 2) := by decide +kernel
theorem dX2_keepThoseThatCome_58 : decode cX2_keepThoseThatCome 58 = .ok (.putfield 33, 3) := by decide +kernel
theorem dX2_keepThoseThatCome_61 : decode cX2_keepThoseThatCome 61 = .ok (.return_, 1) := by decide +kernel
theorem dX2_mostAlike_0 : decode cX2_mostAlike 0 = .ok (.aload_n 0, 1) := by decide +kernel
theorem dX2_mostAlike_1 : decode cX2_mostAlike 1 = .ok (.getfield 15, 3) := by decide +kernel
theorem dX2_mostAlike_4 : decode cX2_mostAlike 4 = .ok (.iconst 0, 1) := by decide +kernel
theorem dX2_mostAlike_5 : decode cX2_mostAlike 5 = .ok (.iconst 0, 1) := by decide +kernel
theorem dX2_mostAlike_6 : decode cX2_mostAlike 6 = .ok (.iastore, 1) := by decide +kernel
theorem dX2_mostAlike_7 : decode cX2_mostAlike 7 = .ok (.aload_n 0, 1) := by decide +kernel
theorem dX2_mostAlike_8 : decode cX2_mostAlike 8 = .ok (.getfield 15, 3) := by decide +kernel
theorem dX2_mostAlike_11 : decode cX2_mostAlike 11 = .ok (.iconst 1, 1) := by decide +kernel
theorem dX2_mostAlike_12 : decode cX2_mostAlike 12 = .ok (.iconst 0, 1) := by decide +kernel
theorem dX2_mostAlike_13 : decode cX2_mostAlike 13 = .ok (.iastore, 1) := by decide +kernel
theorem dX2_mostAlike_14 : decode cX2_mostAlike 14 = .ok (.aload_n 0, 1) := by decide +kernel
theorem dX2_mostAlike_15 : decode cX2_mostAlike 15 = .ok (.getfield 15, 3) := by decide +kernel
theorem dX2_mostAlike_18 : decode cX2_mostAlike 18 = .ok (.iconst 2, 1) := by decide +kernel
theorem dX2_mostAlike_19 : decode cX2_mostAlike 19 = .ok (.iconst 0, 1) := by decide +kernel
theorem dX2_mostAlike_20 : decode cX2_mostAlike 20 = .ok (.iastore, 1) := by decide +kernel
theorem dX2_mostAlike_21 : decode cX2_mostAlike 21 = .ok (.iconst 0, 1) := by decide +kernel
theorem dX2_mostAlike_22 : decode cX2_mostAlike 22 = .ok (.istore_n 3, 1) := by decide +kernel
theorem dX2_mostAlike_23 : decode cX2_mostAlike 23 = .ok (.iload_n 3, 1) := by decide +kernel
theorem dX2_mostAlike_24 : decode cX2_mostAlike 24 = .ok (.aload_n 0, 1) := by decide +kernel
theorem dX2_mostAlike_25 : decode cX2_mostAlike 25 = .ok (.getfield 33, 3) := by decide +kernel
theorem dX2_mostAlike_28 : decode cX2_mostAlike 28 = .ok (.if_icmp .ge 30, 3) := by decide +kernel
theorem dX2_mostAlike_31 : decode cX2_mostAlike 31 = .ok (.aload_n 0, 1) := by decide +kernel
theorem dX2_mostAlike_32 : decode cX2_mostAlike 32 = .ok (.getfield 15, 3) := by decide +kernel
theorem dX2_mostAlike_35 : decode cX2_mostAlike 35 = .ok (.aload_n 0, 1) := by decide +kernel
theorem dX2_mostAlike_36 : decode cX2_mostAlike 36 = .ok (.aload_n 0, 1) := by decide +kernel
theorem dX2_mostAlike_37 : decode cX2_mostAlike 37 = .ok (.getfield 11, 3) := by decide +kernel
theorem dX2_mostAlike_40 : decode cX2_mostAlike 40 = .ok (.iload_n 3, 1) := by decide +kernel
theorem dX2_mostAlike_41 : decode cX2_mostAlike 41 = .ok (.iaload, 1) := by decide +kernel
theorem dX2_mostAlike_42 : decode cX2_mostAlike 42 = .ok (.iload_n 1, 1) := by decide +kernel
theorem dX2_mostAlike_43 : decode cX2_mostAlike 43 = .ok (.iload_n 2, 1) := by decide +kernel
theorem dX2_mostAlike_44 : decode cX2_mostAlike 44 = .ok (.invokevirtual 43, 3) := by decide +kernel
theorem dX2_mostAlike_47 : decode cX2_mostAlike 47 = .ok (.dup2, 1) := by decide +kernel
theorem dX2_mostAlike_48 : decode cX2_mostAlike 48 = .ok (.iaload, 1) := by decide +kernel
theorem dX2_mostAlike_49 : decode cX2_mostAlike 49 = .ok (.iconst 1, 1) := by decide +kernel
theorem dX2_mostAlike_50 : decode cX2_mostAlike 50 = .ok (.iadd, 1) := by decide +kernel
theorem dX2_mostAlike_51 : decode cX2_mostAlike 51 = .ok (.iastore, 1) := by decide +kernel
theorem dX2_mostAlike_52 : decode cX2_mostAlike 52 = .ok (.iinc 3 1, 3) := by decide +kernel
theorem dX2_mostAlike_55 : decode cX2_mostAlike 55 = .ok (.goto (-32), 3) := by decide +kernel
theorem dX2_mostAlike_58 : decode cX2_mostAlike 58 = .ok (.aload_n 0, 1) := by decide +kernel
theorem dX2_mostAlike_59 : decode cX2_mostAlike 59 = .ok (.getfield 15, 3) := by decide +kernel
theorem dX2_mostAlike_62 : decode cX2_mostAlike 62 = .ok (.iconst 0, 1) := by decide +kernel
theorem dX2_mostAlike_63 : decode cX2_mostAlike 63 = .ok (.iaload, 1) := by decide +kernel
theorem dX2_mostAlike_64 : decode cX2_mostAlike 64 = .ok (.aload_n 0, 1) := by decide +kernel
theorem dX2_mostAlike_65 : decode cX2_mostAlike 65 = .ok (.getfield 15, 3) := by decide +kernel
theorem dX2_mostAlike_68 : decode cX2_mostAlike 68 = .ok (.iconst 1, 1) := by decide +kernel
theorem dX2_mostAlike_69 : decode cX2_mostAlike 69 = .ok (.iaload, 1) := by decide +kernel
theorem dX2_mostAlike_70 : decode cX2_mostAlike 70 = .ok (.aload_n 0, 1) := by decide +kernel
theorem dX2_mostAlike_71 : decode cX2_mostAlike 71 = .ok (.getfield 15, 3) := by decide +kernel
theorem dX2_mostAlike_74 : decode cX2_mostAlike 74 = .ok (.iconst 2, 1) := by decide +kernel
theorem dX2_mostAlike_75 : decode cX2_mostAlike 75 = .ok (.iaload, 1) := by decide +kernel
theorem dX2_mostAlike_76 : decode cX2_mostAlike 76 = .ok (.invokestatic 47, 3) := by decide +kernel
theorem dX2_mostAlike_79 : decode cX2_mostAlike 79 = .ok (.invokestatic 47, 3) := by decide +kernel
theorem dX2_mostAlike_82 : decode cX2_mostAlike 82 = .ok (.ireturn, 1) := by decide +kernel
theorem dX2_outcomeWith_0 : decode cX2_outcomeWith 0 = .ok (.aload_n 0, 1) := by decide +kernel
theorem dX2_outcomeWith_1 : decode cX2_outcomeWith 1 = .ok (.getfield 18, 3) := by decide +kernel
theorem dX2_outcomeWith_4 : decode cX2_outcomeWith 4 = .ok (.iload_n 2, 1) := by decide +kernel
theorem dX2_outcomeWith_5 : decode cX2_outcomeWith 5 = .ok (.iload_n 3, 1) := by decide +kernel
theorem dX2_outcomeWith_6 : decode cX2_outcomeWith 6 = .ok (.invokevirtual 52, 3) := by decide +kernel
theorem dX2_outcomeWith_9 : decode cX2_outcomeWith 9 = .ok (.istore 4, 2) := by decide +kernel
theorem dX2_outcomeWith_11 : decode cX2_outcomeWith 11 = .ok (.aload_n 0, 1) := by decide +kernel
theorem dX2_outcomeWith_12 : decode cX2_outcomeWith 12 = .ok (.getfield 18, 3) := by decide +kernel
theorem dX2_outcomeWith_15 : decode cX2_outcomeWith 15 = .ok (.getfield 55, 3) := by decide +kernel
theorem dX2_outcomeWith_18 : decode cX2_outcomeWith 18 = .ok (.iload_n 2, 1) := by decide +kernel
theorem dX2_outcomeWith_19 : decode cX2_outcomeWith 19 = .ok (.iaload, 1) := by decide +kernel
theorem dX2_outcomeWith_20 : decode cX2_outcomeWith 20 = .ok (.istore 5, 2) := by decide +kernel
theorem dX2_outcomeWith_22 : decode cX2_outcomeWith 22 = .ok (.iload_n 1, 1) := by decide +kernel
theorem dX2_outcomeWith_23 : decode cX2_outcomeWith 23 = .ok (.bipush 16, 2) := by decide +kernel
theorem dX2_outcomeWith_25 : decode cX2_outcomeWith 25 = .ok (.if_icmp .ge 23, 3) := by decide +kernel
theorem dX2_outcomeWith_28 : decode cX2_outcomeWith 28 = .ok (.iload 5, 2) := by decide +kernel
theorem dX2_outcomeWith_30 : decode cX2_outcomeWith 30 = .ok (.iload_n 1, 1) := by decide +kernel
theorem dX2_outcomeWith_31 : decode cX2_outcomeWith 31 = .ok (.ishr, 1) := by decide +kernel
theorem dX2_outcomeWith_32 : decode cX2_outcomeWith 32 = .ok (.iconst 1, 1) := by decide +kernel
theorem dX2_outcomeWith_33 : decode cX2_outcomeWith 33 = .ok (.iand, 1) := by decide +kernel
theorem dX2_outcomeWith_34 : decode cX2_outcomeWith 34 = .ok (.ifCond .eq 7, 3) := by decide +kernel
theorem dX2_outcomeWith_37 : decode cX2_outcomeWith 37 = .ok (.iconst 0, 1) := by decide +kernel
theorem dX2_outcomeWith_38 : decode cX2_outcomeWith 38 = .ok (.goto 5, 3) := by decide +kernel
theorem dX2_outcomeWith_41 : decode cX2_outcomeWith 41 = .ok (.iload 4, 2) := by decide +kernel
theorem dX2_outcomeWith_43 : decode cX2_outcomeWith 43 = .ok (.istore 4, 2) := by decide +kernel
theorem dX2_outcomeWith_45 : decode cX2_outcomeWith 45 = .ok (.goto 74, 3) := by decide +kernel
theorem dX2_outcomeWith_48 : decode cX2_outcomeWith 48 = .ok (.iload_n 1, 1) := by decide +kernel
theorem dX2_outcomeWith_49 : decode cX2_outcomeWith 49 = .ok (.sipush 160, 3) := by decide +kernel
theorem dX2_outcomeWith_52 : decode cX2_outcomeWith 52 = .ok (.if_icmp .ge 48, 3) := by decide +kernel
theorem dX2_outcomeWith_55 : decode cX2_outcomeWith 55 = .ok (.iload_n 1, 1) := by decide +kernel
theorem dX2_outcomeWith_56 : decode cX2_outcomeWith 56 = .ok (.bipush 16, 2) := by decide +kernel
theorem dX2_outcomeWith_58 : decode cX2_outcomeWith 58 = .ok (.isub, 1) := by decide +kernel
theorem dX2_outcomeWith_59 : decode cX2_outcomeWith 59 = .ok (.bipush 9, 2) := by decide +kernel
theorem dX2_outcomeWith_61 : decode cX2_outcomeWith 61 = .ok (.idiv, 1) := by decide +kernel
theorem dX2_outcomeWith_62 : decode cX2_outcomeWith 62 = .ok (.istore 6, 2) := by decide +kernel
theorem dX2_outcomeWith_64 : decode cX2_outcomeWith 64 = .ok (.iload_n 1, 1) := by decide +kernel
theorem dX2_outcomeWith_65 : decode cX2_outcomeWith 65 = .ok (.bipush 16, 2) := by decide +kernel
theorem dX2_outcomeWith_67 : decode cX2_outcomeWith 67 = .ok (.isub, 1) := by decide +kernel
theorem dX2_outcomeWith_68 : decode cX2_outcomeWith 68 = .ok (.bipush 9, 2) := by decide +kernel
theorem dX2_outcomeWith_70 : decode cX2_outcomeWith 70 = .ok (.irem, 1) := by decide +kernel
theorem dX2_outcomeWith_71 : decode cX2_outcomeWith 71 = .ok (.iconst 1, 1) := by decide +kernel
theorem dX2_outcomeWith_72 : decode cX2_outcomeWith 72 = .ok (.iadd, 1) := by decide +kernel
theorem dX2_outcomeWith_73 : decode cX2_outcomeWith 73 = .ok (.istore 7, 2) := by decide +kernel
theorem dX2_outcomeWith_75 : decode cX2_outcomeWith 75 = .ok (.iload 5, 2) := by decide +kernel
theorem dX2_outcomeWith_77 : decode cX2_outcomeWith 77 = .ok (.iload 6, 2) := by decide +kernel
theorem dX2_outcomeWith_79 : decode cX2_outcomeWith 79 = .ok (.ishr, 1) := by decide +kernel
theorem dX2_outcomeWith_80 : decode cX2_outcomeWith 80 = .ok (.iconst 1, 1) := by decide +kernel
theorem dX2_outcomeWith_81 : decode cX2_outcomeWith 81 = .ok (.iand, 1) := by decide +kernel
theorem dX2_outcomeWith_82 : decode cX2_outcomeWith 82 = .ok (.ifCond .eq 11, 3) := by decide +kernel
theorem dX2_outcomeWith_85 : decode cX2_outcomeWith 85 = .ok (.iload 4, 2) := by decide +kernel
theorem dX2_outcomeWith_87 : decode cX2_outcomeWith 87 = .ok (.iload 7, 2) := by decide +kernel
theorem dX2_outcomeWith_89 : decode cX2_outcomeWith 89 = .ok (.isub, 1) := by decide +kernel
theorem dX2_outcomeWith_90 : decode cX2_outcomeWith 90 = .ok (.goto 5, 3) := by decide +kernel
theorem dX2_outcomeWith_93 : decode cX2_outcomeWith 93 = .ok (.iload 4, 2) := by decide +kernel
theorem dX2_outcomeWith_95 : decode cX2_outcomeWith 95 = .ok (.istore 4, 2) := by decide +kernel
theorem dX2_outcomeWith_97 : decode cX2_outcomeWith 97 = .ok (.goto 22, 3) := by decide +kernel
theorem dX2_outcomeWith_100 : decode cX2_outcomeWith 100 = .ok (.aload_n 0, 1) := by decide +kernel
theorem dX2_outcomeWith_101 : decode cX2_outcomeWith 101 = .ok (.getfield 18, 3) := by decide +kernel
theorem dX2_outcomeWith_104 : decode cX2_outcomeWith 104 = .ok (.getfield 58, 3) := by decide +kernel
theorem dX2_outcomeWith_107 : decode cX2_outcomeWith 107 = .ok (.iload_n 2, 1) := by decide +kernel
theorem dX2_outcomeWith_108 : decode cX2_outcomeWith 108 = .ok (.iaload, 1) := by decide +kernel
theorem dX2_outcomeWith_109 : decode cX2_outcomeWith 109 = .ok (.iload_n 1, 1) := by decide +kernel
theorem dX2_outcomeWith_110 : decode cX2_outcomeWith 110 = .ok (.sipush 160, 3) := by decide +kernel
theorem dX2_outcomeWith_113 : decode cX2_outcomeWith 113 = .ok (.isub, 1) := by decide +kernel
theorem dX2_outcomeWith_114 : decode cX2_outcomeWith 114 = .ok (.if_icmp .ne 5, 3) := by decide +kernel
theorem dX2_outcomeWith_117 : decode cX2_outcomeWith 117 = .ok (.iconst 0, 1) := by decide +kernel
theorem dX2_outcomeWith_118 : decode cX2_outcomeWith 118 = .ok (.ireturn, 1) := by decide +kernel
theorem dX2_outcomeWith_119 : decode cX2_outcomeWith 119 = .ok (.iload 4, 2) := by decide +kernel
theorem dX2_outcomeWith_121 : decode cX2_outcomeWith 121 = .ok (.bipush 6, 2) := by decide +kernel
theorem dX2_outcomeWith_123 : decode cX2_outcomeWith 123 = .ok (.if_icmp .lt 5, 3) := by decide +kernel
theorem dX2_outcomeWith_126 : decode cX2_outcomeWith 126 = .ok (.iconst 2, 1) := by decide +kernel
theorem dX2_outcomeWith_127 : decode cX2_outcomeWith 127 = .ok (.ireturn, 1) := by decide +kernel
theorem dX2_outcomeWith_128 : decode cX2_outcomeWith 128 = .ok (.iload 4, 2) := by decide +kernel
theorem dX2_outcomeWith_130 : decode cX2_outcomeWith 130 = .ok (.ifCond .le 7, 3) := by decide +kernel
theorem dX2_outcomeWith_133 : decode cX2_outcomeWith 133 = .ok (.iconst 1, 1) := by decide +kernel
theorem dX2_outcomeWith_134 : decode cX2_outcomeWith 134 = .ok (.goto 4, 3) := by decide +kernel
theorem dX2_outcomeWith_137 : decode cX2_outcomeWith 137 = .ok (.iconst 0, 1) := by decide +kernel
theorem dX2_outcomeWith_138 : decode cX2_outcomeWith 138 = .ok (.ireturn, 1) := by decide +kernel
theorem dX3_init_0 : decode cX3_init 0 = .ok (.aload_n 0, 1) := by decide +kernel
theorem dX3_init_1 : decode cX3_init 1 = .ok (.invokespecial 3, 3) := by decide +kernel
theorem dX3_init_4 : decode cX3_init 4 = .ok (.aload_n 0, 1) := by decide +kernel
theorem dX3_init_5 : decode cX3_init 5 = .ok (.bipush 24, 2) := by decide +kernel
theorem dX3_init_7 : decode cX3_init 7 = .ok (.newarray .int, 2) := by decide +kernel
theorem dX3_init_9 : decode cX3_init 9 = .ok (.putfield 9, 3) := by decide +kernel
theorem dX3_init_12 : decode cX3_init 12 = .ok (.aload_n 0, 1) := by decide +kernel
theorem dX3_init_13 : decode cX3_init 13 = .ok (.bipush 24, 2) := by decide +kernel
theorem dX3_init_15 : decode cX3_init 15 = .ok (.newarray .int, 2) := by decide +kernel
theorem dX3_init_17 : decode cX3_init 17 = .ok (.putfield 15, 3) := by decide +kernel
theorem dX3_init_20 : decode cX3_init 20 = .ok (.aload_n 0, 1) := by decide +kernel
theorem dX3_init_21 : decode cX3_init 21 = .ok (.iconst 5, 1) := by decide +kernel
theorem dX3_init_22 : decode cX3_init 22 = .ok (.newarray .int, 2) := by decide +kernel
theorem dX3_init_24 : decode cX3_init 24 = .ok (.putfield 18, 3) := by decide +kernel
theorem dX3_init_27 : decode cX3_init 27 = .ok (.aload_n 0, 1) := by decide +kernel
theorem dX3_init_28 : decode cX3_init 28 = .ok (.sipush 384, 3) := by decide +kernel
theorem dX3_init_31 : decode cX3_init 31 = .ok (.newarray .int, 2) := by decide +kernel
theorem dX3_init_33 : decode cX3_init 33 = .ok (.putfield 21, 3) := by decide +kernel
theorem dX3_init_36 : decode cX3_init 36 = .ok (.return_, 1) := by decide +kernel
theorem dX3_areSideBySide_0 : decode cX3_areSideBySide 0 = .ok (.iload_n 1, 1) := by decide +kernel
theorem dX3_areSideBySide_1 : decode cX3_areSideBySide 1 = .ok (.iload_n 2, 1) := by decide +kernel
theorem dX3_areSideBySide_2 : decode cX3_areSideBySide 2 = .ok (.invokestatic 24, 3) := by decide +kernel
theorem dX3_areSideBySide_5 : decode cX3_areSideBySide 5 = .ok (.istore_n 3, 1) := by decide +kernel
theorem dX3_areSideBySide_6 : decode cX3_areSideBySide 6 = .ok (.iload_n 1, 1) := by decide +kernel
theorem dX3_areSideBySide_7 : decode cX3_areSideBySide 7 = .ok (.iload_n 2, 1) := by decide +kernel
theorem dX3_areSideBySide_8 : decode cX3_areSideBySide 8 = .ok (.invokestatic 30, 3) := by decide +kernel
theorem dX3_areSideBySide_11 : decode cX3_areSideBySide 11 = .ok (.istore 4, 2) := by decide +kernel
theorem dX3_areSideBySide_13 : decode cX3_areSideBySide 13 = .ok (.iload 4, 2) := by decide +kernel
theorem dX3_areSideBySide_15 : decode cX3_areSideBySide 15 = .ok (.iload_n 3, 1) := by decide +kernel
theorem dX3_areSideBySide_16 : decode cX3_areSideBySide 16 = .ok (.isub, 1) := by decide +kernel
theorem dX3_areSideBySide_17 : decode cX3_areSideBySide 17 = .ok (.bipush 6, 2) := by decide +kernel
theorem dX3_areSideBySide_19 : decode cX3_areSideBySide 19 = .ok (.if_icmp .eq 13, 3) := by decide +kernel
theorem dX3_areSideBySide_22 : decode cX3_areSideBySide 22 = .ok (.aload_n 0, 1) := by decide +kernel
theorem dX3_areSideBySide_23 : decode cX3_areSideBySide 23 = .ok (.iload_n 3, 1) := by decide +kernel
theorem dX3_areSideBySide_24 : decode cX3_areSideBySide 24 = .ok (.iload 4, 2) := by decide +kernel
theorem dX3_areSideBySide_26 : decode cX3_areSideBySide 26 = .ok (.invokevirtual 33, 3) := by decide +kernel
theorem dX3_areSideBySide_29 : decode cX3_areSideBySide 29 = .ok (.ifCond .eq 7, 3) := by decide +kernel
theorem dX3_areSideBySide_32 : decode cX3_areSideBySide 32 = .ok (.iconst 1, 1) := by decide +kernel
theorem dX3_areSideBySide_33 : decode cX3_areSideBySide 33 = .ok (.goto 4, 3) := by decide +kernel
theorem dX3_areSideBySide_36 : decode cX3_areSideBySide 36 = .ok (.iconst 0, 1) := by decide +kernel
theorem dX3_areSideBySide_37 : decode cX3_areSideBySide 37 = .ok (.ireturn, 1) := by decide +kernel
theorem dX3_setBetween_0 : decode cX3_setBetween 0 = .ok (.iload_n 1, 1) := by decide +kernel
theorem dX3_setBetween_1 : decode cX3_setBetween 1 = .ok (.iload_n 2, 1) := by decide +kernel
theorem dX3_setBetween_2 : decode cX3_setBetween 2 = .ok (.invokestatic 24, 3) := by decide +kernel
theorem dX3_setBetween_5 : decode cX3_setBetween 5 = .ok (.istore 4, 2) := by decide +kernel
theorem dX3_setBetween_7 : decode cX3_setBetween 7 = .ok (.aload_n 0, 1) := by decide +kernel
theorem dX3_setBetween_8 : decode cX3_setBetween 8 = .ok (.iload 4, 2) := by decide +kernel
theorem dX3_setBetween_10 : decode cX3_setBetween 10 = .ok (.iload_n 1, 1) := by decide +kernel
theorem dX3_setBetween_11 : decode cX3_setBetween 11 = .ok (.iload_n 2, 1) := by decide +kernel
theorem dX3_setBetween_12 : decode cX3_setBetween 12 = .ok (.invokestatic 30, 3) := by decide +kernel
theorem dX3_setBetween_15 : decode cX3_setBetween 15 = .ok (.invokevirtual 33, 3) := by decide +kernel
theorem dX3_setBetween_18 : decode cX3_setBetween 18 = .ok (.ifCond .eq 10, 3) := by decide +kernel
theorem dX3_setBetween_21 : decode cX3_setBetween 21 = .ok (.aload_n 0, 1) := by decide +kernel
theorem dX3_setBetween_22 : decode cX3_setBetween 22 = .ok (.getfield 9, 3) := by decide +kernel
theorem dX3_setBetween_25 : decode cX3_setBetween 25 = .ok (.goto 7, 3) := by decide +kernel
theorem dX3_setBetween_28 : decode cX3_setBetween 28 = .ok (.aload_n 0, 1) := by decide +kernel
theorem dX3_setBetween_29 : decode cX3_setBetween 29 = .ok (.getfield 15, 3) := by decide +kernel
theorem dX3_setBetween_32 : decode cX3_setBetween 32 = .ok (.astore 5, 2) := by decide +kernel
theorem dX3_setBetween_34 : decode cX3_setBetween 34 = .ok (.aload 5, 2) := by decide +kernel
theorem dX3_setBetween_36 : decode cX3_setBetween 36 = .ok (.iload 4, 2) := by decide +kernel
theorem dX3_setBetween_38 : decode cX3_setBetween 38 = .ok (.iaload, 1) := by decide +kernel
theorem dX3_setBetween_39 : decode cX3_setBetween 39 = .ok (.istore 6, 2) := by decide +kernel
theorem dX3_setBetween_41 : decode cX3_setBetween 41 = .ok (.aload 5, 2) := by decide +kernel
theorem dX3_setBetween_43 : decode cX3_setBetween 43 = .ok (.iload 4, 2) := by decide +kernel
theorem dX3_setBetween_45 : decode cX3_setBetween 45 = .ok (.iload_n 3, 1) := by decide +kernel
theorem dX3_setBetween_46 : decode cX3_setBetween 46 = .ok (.iastore, 1) := by decide +kernel
theorem dX3_setBetween_47 : decode cX3_setBetween 47 = .ok (.iload 6, 2) := by decide +kernel
theorem dX3_setBetween_49 : decode cX3_setBetween 49 = .ok (.ireturn, 1) := by decide +kernel
theorem dX3_countWires_0 : decode cX3_countWires 0 = .ok (.iconst 0, 1) := by decide +kernel
theorem dX3_countWires_1 : decode cX3_countWires 1 = .ok (.istore_n 1, 1) := by decide +kernel
theorem dX3_countWires_2 : decode cX3_countWires 2 = .ok (.iconst 0, 1) := by decide +kernel
theorem dX3_countWires_3 : decode cX3_countWires 3 = .ok (.istore_n 2, 1) := by decide +kernel
theorem dX3_countWires_4 : decode cX3_countWires 4 = .ok (.iload_n 2, 1) := by decide +kernel
theorem dX3_countWires_5 : decode cX3_countWires 5 = .ok (.bipush 24, 2) := by decide +kernel
theorem dX3_countWires_7 : decode cX3_countWires 7 = .ok (.if_icmp .ge 35, 3) := by decide +kernel
theorem dX3_countWires_10 : decode cX3_countWires 10 = .ok (.aload_n 0, 1) := by decide +kernel
theorem dX3_countWires_11 : decode cX3_countWires 11 = .ok (.getfield 9, 3) := by decide +kernel
theorem dX3_countWires_14 : decode cX3_countWires 14 = .ok (.iload_n 2, 1) := by decide +kernel
theorem dX3_countWires_15 : decode cX3_countWires 15 = .ok (.iaload, 1) := by decide +kernel
theorem dX3_countWires_16 : decode cX3_countWires 16 = .ok (.iconst 2, 1) := by decide +kernel
theorem dX3_countWires_17 : decode cX3_countWires 17 = .ok (.if_icmp .ne 6, 3) := by decide +kernel
theorem dX3_countWires_20 : decode cX3_countWires 20 = .ok (.iinc 1 1, 3) := by decide +kernel
theorem dX3_countWires_23 : decode cX3_countWires 23 = .ok (.aload_n 0, 1) := by decide +kernel
theorem dX3_countWires_24 : decode cX3_countWires 24 = .ok (.getfield 15, 3) := by decide +kernel
theorem dX3_countWires_27 : decode cX3_countWires 27 = .ok (.iload_n 2, 1) := by decide +kernel
theorem dX3_countWires_28 : decode cX3_countWires 28 = .ok (.iaload, 1) := by decide +kernel
theorem dX3_countWires_29 : decode cX3_countWires 29 = .ok (.iconst 2, 1) := by decide +kernel
theorem dX3_countWires_30 : decode cX3_countWires 30 = .ok (.if_icmp .ne 6, 3) := by decide +kernel
theorem dX3_countWires_33 : decode cX3_countWires 33 = .ok (.iinc 1 1, 3) := by decide +kernel
theorem dX3_countWires_36 : decode cX3_countWires 36 = .ok (.iinc 2 1, 3) := by decide +kernel
theorem dX3_countWires_39 : decode cX3_countWires 39 = .ok (.goto (-35), 3) := by decide +kernel
theorem dX3_countWires_42 : decode cX3_countWires 42 = .ok (.iload_n 1, 1) := by decide +kernel
theorem dX3_countWires_43 : decode cX3_countWires 43 = .ok (.ireturn, 1) := by decide +kernel
theorem dX3_fewestNew_0 : decode cX3_fewestNew 0 = .ok (.aload_n 0, 1) := by decide +kernel
theorem dX3_fewestNew_1 : decode cX3_fewestNew 1 = .ok (.iload_n 1, 1) := by decide +kernel
theorem dX3_fewestNew_2 : decode cX3_fewestNew 2 = .ok (.invokevirtual 37, 3) := by decide +kernel
theorem dX3_fewestNew_5 : decode cX3_fewestNew 5 = .ok (.iconst 1, 1) := by decide +kernel
theorem dX3_fewestNew_6 : decode cX3_fewestNew 6 = .ok (.isub, 1) := by decide +kernel
theorem dX3_fewestNew_7 : decode cX3_fewestNew 7 = .ok (.istore_n 2, 1) := by decide +kernel
theorem dX3_fewestNew_8 : decode cX3_fewestNew 8 = .ok (.iload_n 2, 1) := by decide +kernel
theorem dX3_fewestNew_9 : decode cX3_fewestNew 9 = .ok (.iconst 1, 1) := by decide +kernel
theorem dX3_fewestNew_10 : decode cX3_fewestNew 10 = .ok (.if_icmp .ge 5, 3) := by decide +kernel
theorem dX3_fewestNew_13 : decode cX3_fewestNew 13 = .ok (.iconst 0, 1) := by decide +kernel
theorem dX3_fewestNew_14 : decode cX3_fewestNew 14 = .ok (.ireturn, 1) := by decide +kernel
theorem dX3_fewestNew_15 : decode cX3_fewestNew 15 = .ok (.iconst 1, 1) := by decide +kernel
theorem dX3_fewestNew_16 : decode cX3_fewestNew 16 = .ok (.iload_n 2, 1) := by decide +kernel
theorem dX3_fewestNew_17 : decode cX3_fewestNew 17 = .ok (.ishl, 1) := by decide +kernel
theorem dX3_fewestNew_18 : decode cX3_fewestNew 18 = .ok (.iconst 1, 1) := by decide +kernel
theorem dX3_fewestNew_19 : decode cX3_fewestNew 19 = .ok (.isub, 1) := by decide +kernel
theorem dX3_fewestNew_20 : decode cX3_fewestNew 20 = .ok (.istore_n 3, 1) := by decide +kernel
theorem dX3_fewestNew_21 : decode cX3_fewestNew 21 = .ok (.iconst 1, 1) := by decide +kernel
theorem dX3_fewestNew_22 : decode cX3_fewestNew 22 = .ok (.istore 4, 2) := by decide +kernel
theorem dX3_fewestNew_24 : decode cX3_fewestNew 24 = .ok (.iload 4, 2) := by decide +kernel
theorem dX3_fewestNew_26 : decode cX3_fewestNew 26 = .ok (.iload_n 3, 1) := by decide +kernel
theorem dX3_fewestNew_27 : decode cX3_fewestNew 27 = .ok (.if_icmp .gt 31, 3) := by decide +kernel
theorem dX3_fewestNew_30 : decode cX3_fewestNew 30 = .ok (.aload_n 0, 1) := by decide +kernel
theorem dX3_fewestNew_31 : decode cX3_fewestNew 31 = .ok (.iload 4, 2) := by decide +kernel
theorem dX3_fewestNew_33 : decode cX3_fewestNew 33 = .ok (.iload_n 2, 1) := by decide +kernel
theorem dX3_fewestNew_34 : decode cX3_fewestNew 34 = .ok (.invokevirtual 41, 3) := by decide +kernel
theorem dX3_fewestNew_37 : decode cX3_fewestNew 37 = .ok (.aload_n 0, 1) := by decide +kernel
theorem dX3_fewestNew_38 : decode cX3_fewestNew 38 = .ok (.iload 4, 2) := by decide +kernel
theorem dX3_fewestNew_40 : decode cX3_fewestNew 40 = .ok (.invokevirtual 45, 3) := by decide +kernel
theorem dX3_fewestNew_43 : decode cX3_fewestNew 43 = .ok (.aload_n 0, 1) := by decide +kernel
theorem dX3_fewestNew_44 : decode cX3_fewestNew 44 = .ok (.iload 4, 2) := by decide +kernel
theorem dX3_fewestNew_46 : decode cX3_fewestNew 46 = .ok (.bipush 24, 2) := by decide +kernel
theorem dX3_fewestNew_48 : decode cX3_fewestNew 48 = .ok (.imul, 1) := by decide +kernel
theorem dX3_fewestNew_49 : decode cX3_fewestNew 49 = .ok (.invokevirtual 49, 3) := by decide +kernel
theorem dX3_fewestNew_52 : decode cX3_fewestNew 52 = .ok (.iinc 4 1, 3) := by decide +kernel
theorem dX3_fewestNew_55 : decode cX3_fewestNew 55 = .ok (.goto (-31), 3) := by decide +kernel
theorem dX3_fewestNew_58 : decode cX3_fewestNew 58 = .ok (.aload_n 0, 1) := by decide +kernel
theorem dX3_fewestNew_59 : decode cX3_fewestNew 59 = .ok (.getfield 21, 3) := by decide +kernel
theorem dX3_fewestNew_62 : decode cX3_fewestNew 62 = .ok (.iload_n 3, 1) := by decide +kernel
theorem dX3_fewestNew_63 : decode cX3_fewestNew 63 = .ok (.bipush 24, 2) := by decide +kernel
theorem dX3_fewestNew_65 : decode cX3_fewestNew 65 = .ok (.imul, 1) := by decide +kernel
theorem dX3_fewestNew_66 : decode cX3_fewestNew 66 = .ok (.aload_n 0, 1) := by decide +kernel
theorem dX3_fewestNew_67 : decode cX3_fewestNew 67 = .ok (.getfield 18, 3) := by decide +kernel
theorem dX3_fewestNew_70 : decode cX3_fewestNew 70 = .ok (.iload_n 2, 1) := by decide +kernel
theorem dX3_fewestNew_71 : decode cX3_fewestNew 71 = .ok (.iaload, 1) := by decide +kernel
theorem dX3_fewestNew_72 : decode cX3_fewestNew 72 = .ok (.iadd, 1) := by decide +kernel
theorem dX3_fewestNew_73 : decode cX3_fewestNew 73 = .ok (.iaload, 1) := by decide +kernel
theorem dX3_fewestNew_74 : decode cX3_fewestNew 74 = .ok (.istore 4, 2) := by decide +kernel
theorem dX3_fewestNew_76 : decode cX3_fewestNew 76 = .ok (.iload 4, 2) := by decide +kernel
theorem dX3_fewestNew_78 : decode cX3_fewestNew 78 = .ok (.sipush 1000, 3) := by decide +kernel
theorem dX3_fewestNew_81 : decode cX3_fewestNew 81 = .ok (.if_icmp .ge 8, 3) := by decide +kernel
theorem dX3_fewestNew_84 : decode cX3_fewestNew 84 = .ok (.iload 4, 2) := by decide +kernel
theorem dX3_fewestNew_86 : decode cX3_fewestNew 86 = .ok (.goto 5, 3) := by decide +kernel
theorem dX3_fewestNew_89 : decode cX3_fewestNew 89 = .ok (.bipush (-4), 2) := by decide +kernel
theorem dX3_fewestNew_91 : decode cX3_fewestNew 91 = .ok (.ireturn, 1) := by decide +kernel
theorem dX3_isNextOnFloor_0 : decode cX3_isNextOnFloor 0 = .ok (.iload_n 2, 1) := by decide +kernel
theorem dX3_isNextOnFloor_1 : decode cX3_isNextOnFloor 1 = .ok (.iload_n 1, 1) := by decide +kernel
theorem dX3_isNextOnFloor_2 : decode cX3_isNextOnFloor 2 = .ok (.isub, 1) := by decide +kernel
theorem dX3_isNextOnFloor_3 : decode cX3_isNextOnFloor 3 = .ok (.iconst 1, 1) := by decide +kernel
theorem dX3_isNextOnFloor_4 : decode cX3_isNextOnFloor 4 = .ok (.if_icmp .ne 14, 3) := by decide +kernel
theorem dX3_isNextOnFloor_7 : decode cX3_isNextOnFloor 7 = .ok (.iload_n 2, 1) := by decide +kernel
theorem dX3_isNextOnFloor_8 : decode cX3_isNextOnFloor 8 = .ok (.bipush 6, 2) := by decide +kernel
theorem dX3_isNextOnFloor_10 : decode cX3_isNextOnFloor 10 = .ok (.irem, 1) := by decide +kernel
theorem dX3_isNextOnFloor_11 : decode cX3_isNextOnFloor 11 = .ok (.ifCond .eq 7, 3) := by decide +kernel
theorem dX3_isNextOnFloor_14 : decode cX3_isNextOnFloor 14 = .ok (.iconst 1, 1) := by decide +kernel
theorem dX3_isNextOnFloor_15 : decode cX3_isNextOnFloor 15 = .ok (.goto 4, 3) := by decide +kernel
theorem dX3_isNextOnFloor_18 : decode cX3_isNextOnFloor 18 = .ok (.iconst 0, 1) := by decide +kernel
theorem dX3_isNextOnFloor_19 : decode cX3_isNextOnFloor 19 = .ok (.ireturn, 1) := by decide +kernel
theorem dX3_gatherEnds_0 : decode cX3_gatherEnds 0 = .ok (.iconst 0, 1) := by decide +kernel
theorem dX3_gatherEnds_1 : decode cX3_gatherEnds 1 = .ok (.istore_n 2, 1) := by decide +kernel
theorem dX3_gatherEnds_2 : decode cX3_gatherEnds 2 = .ok (.iconst 0, 1) := by decide +kernel
theorem dX3_gatherEnds_3 : decode cX3_gatherEnds 3 = .ok (.istore_n 3, 1) := by decide +kernel
theorem dX3_gatherEnds_4 : decode cX3_gatherEnds 4 = .ok (.iload_n 3, 1) := by decide +kernel
theorem dX3_gatherEnds_5 : decode cX3_gatherEnds 5 = .ok (.bipush 24, 2) := by decide +kernel
theorem dX3_gatherEnds_7 : decode cX3_gatherEnds 7 = .ok (.if_icmp .ge 32, 3) := by decide +kernel
theorem dX3_gatherEnds_10 : decode cX3_gatherEnds 10 = .ok (.iload_n 1, 1) := by decide +kernel
theorem dX3_gatherEnds_11 : decode cX3_gatherEnds 11 = .ok (.iload_n 3, 1) := by decide +kernel
theorem dX3_gatherEnds_12 : decode cX3_gatherEnds 12 = .ok (.ishr, 1) := by decide +kernel
theorem dX3_gatherEnds_13 : decode cX3_gatherEnds 13 = .ok (.iconst 1, 1) := by decide +kernel
theorem dX3_gatherEnds_14 : decode cX3_gatherEnds 14 = .ok (.iand, 1) := by decide +kernel
theorem dX3_gatherEnds_15 : decode cX3_gatherEnds 15 = .ok (.ifCond .eq 18, 3) := by decide +kernel
theorem dX3_gatherEnds_18 : decode cX3_gatherEnds 18 = .ok (.iload_n 2, 1) := by decide +kernel
theorem dX3_gatherEnds_19 : decode cX3_gatherEnds 19 = .ok (.iconst 5, 1) := by decide +kernel
theorem dX3_gatherEnds_20 : decode cX3_gatherEnds 20 = .ok (.if_icmp .ge 13, 3) := by decide +kernel
theorem dX3_gatherEnds_23 : decode cX3_gatherEnds 23 = .ok (.aload_n 0, 1) := by decide +kernel
theorem dX3_gatherEnds_24 : decode cX3_gatherEnds 24 = .ok (.getfield 18, 3) := by decide +kernel
theorem dX3_gatherEnds_27 : decode cX3_gatherEnds 27 = .ok (.iload_n 2, 1) := by decide +kernel
theorem dX3_gatherEnds_28 : decode cX3_gatherEnds 28 = .ok (.iload_n 3, 1) := by decide +kernel
theorem dX3_gatherEnds_29 : decode cX3_gatherEnds 29 = .ok (.iastore, 1) := by decide +kernel
theorem dX3_gatherEnds_30 : decode cX3_gatherEnds 30 = .ok (.iinc 2 1, 3) := by decide +kernel
theorem dX3_gatherEnds_33 : decode cX3_gatherEnds 33 = .ok (.iinc 3 1, 3) := by decide +kernel
theorem dX3_gatherEnds_36 : decode cX3_gatherEnds 36 = .ok (.goto (-32), 3) := by decide +kernel
theorem dX3_gatherEnds_39 : decode cX3_gatherEnds 39 = .ok (.iload_n 2, 1) := by decide +kernel
theorem dX3_gatherEnds_40 : decode cX3_gatherEnds 40 = .ok (.ireturn, 1) := by decide +kernel
theorem dX3_startTrees_0 : decode cX3_startTrees 0 = .ok (.iload_n 1, 1) := by decide +kernel
theorem dX3_startTrees_1 : decode cX3_startTrees 1 = .ok (.bipush 24, 2) := by decide +kernel
theorem dX3_startTrees_3 : decode cX3_startTrees 3 = .ok (.imul, 1) := by decide +kernel
theorem dX3_startTrees_4 : decode cX3_startTrees 4 = .ok (.istore_n 3, 1) := by decide +kernel
theorem dX3_startTrees_5 : decode cX3_startTrees 5 = .ok (.iconst 0, 1) := by decide +kernel
theorem dX3_startTrees_6 : decode cX3_startTrees 6 = .ok (.istore 4, 2) := by decide +kernel
theorem dX3_startTrees_8 : decode cX3_startTrees 8 = .ok (.iload 4, 2) := by decide +kernel
theorem dX3_startTrees_10 : decode cX3_startTrees 10 = .ok (.bipush 24, 2) := by decide +kernel
theorem dX3_startTrees_12 : decode cX3_startTrees 12 = .ok (.if_icmp .ge 21, 3) := by decide +kernel
theorem dX3_startTrees_15 : decode cX3_startTrees 15 = .ok (.aload_n 0, 1) := by decide +kernel
theorem dX3_startTrees_16 : decode cX3_startTrees 16 = .ok (.getfield 21, 3) := by decide +kernel
theorem dX3_startTrees_19 : decode cX3_startTrees 19 = .ok (.iload_n 3, 1) := by decide +kernel
theorem dX3_startTrees_20 : decode cX3_startTrees 20 = .ok (.iload 4, 2) := by decide +kernel
theorem dX3_startTrees_22 : decode cX3_startTrees 22 = .ok (.iadd, 1) := by decide +kernel
theorem dX3_startTrees_23 : decode cX3_startTrees 23 = .ok (.sipush 1000, 3) := by decide +kernel
theorem dX3_startTrees_26 : decode cX3_startTrees 26 = .ok (.iastore, 1) := by decide +kernel
theorem dX3_startTrees_27 : decode cX3_startTrees 27 = .ok (.iinc 4 1, 3) := by decide +kernel
theorem dX3_startTrees_30 : decode cX3_startTrees 30 = .ok (.goto (-22), 3) := by decide +kernel
theorem dX3_startTrees_33 : decode cX3_startTrees 33 = .ok (.iconst 0, 1) := by decide +kernel
theorem dX3_startTrees_34 : decode cX3_startTrees 34 = .ok (.istore 4, 2) := by decide +kernel
theorem dX3_startTrees_36 : decode cX3_startTrees 36 = .ok (.iload 4, 2) := by decide +kernel
theorem dX3_startTrees_38 : decode cX3_startTrees 38 = .ok (.iload_n 2, 1) := by decide +kernel
theorem dX3_startTrees_39 : decode cX3_startTrees 39 = .ok (.if_icmp .ge 32, 3) := by decide +kernel
theorem dX3_startTrees_42 : decode cX3_startTrees 42 = .ok (.iload_n 1, 1) := by decide +kernel
theorem dX3_startTrees_43 : decode cX3_startTrees 43 = .ok (.iconst 1, 1) := by decide +kernel
theorem dX3_startTrees_44 : decode cX3_startTrees 44 = .ok (.iload 4, 2) := by decide +kernel
theorem dX3_startTrees_46 : decode cX3_startTrees 46 = .ok (.ishl, 1) := by decide +kernel
theorem dX3_startTrees_47 : decode cX3_startTrees 47 = .ok (.if_icmp .ne 18, 3) := by decide +kernel
theorem dX3_startTrees_50 : decode cX3_startTrees 50 = .ok (.aload_n 0, 1) := by decide +kernel
theorem dX3_startTrees_51 : decode cX3_startTrees 51 = .ok (.getfield 21, 3) := by decide +kernel
theorem dX3_startTrees_54 : decode cX3_startTrees 54 = .ok (.iload_n 3, 1) := by decide +kernel
theorem dX3_startTrees_55 : decode cX3_startTrees 55 = .ok (.aload_n 0, 1) := by decide +kernel
theorem dX3_startTrees_56 : decode cX3_startTrees 56 = .ok (.getfield 18, 3) := by decide +kernel
theorem dX3_startTrees_59 : decode cX3_startTrees 59 = .ok (.iload 4, 2) := by decide +kernel
theorem dX3_startTrees_61 : decode cX3_startTrees 61 = .ok (.iaload, 1) := by decide +kernel
theorem dX3_startTrees_62 : decode cX3_startTrees 62 = .ok (.iadd, 1) := by decide +kernel
theorem dX3_startTrees_63 : decode cX3_startTrees 63 = .ok (.iconst 0, 1) := by decide +kernel
theorem dX3_startTrees_64 : decode cX3_startTrees 64 = .ok (.iastore, 1) := by decide +kernel
theorem dX3_startTrees_65 : decode cX3_startTrees 65 = .ok (.iinc 4 1, 3) := by decide +kernel
theorem dX3_startTrees_68 : decode cX3_startTrees 68 = .ok (.goto (-32), 3) := by decide +kernel
theorem dX3_startTrees_71 : decode cX3_startTrees 71 = .ok (.return_, 1) := by decide +kernel
theorem dX3_joinTrees_0 : decode cX3_joinTrees 0 = .ok (.iconst 1, 1) := by decide +kernel
theorem dX3_joinTrees_1 : decode cX3_joinTrees 1 = .ok (.istore_n 2, 1) := by decide +kernel
theorem dX3_joinTrees_2 : decode cX3_joinTrees 2 = .ok (.iload_n 2, 1) := by decide +kernel
theorem dX3_joinTrees_3 : decode cX3_joinTrees 3 = .ok (.iload_n 1, 1) := by decide +kernel
theorem dX3_joinTrees_4 : decode cX3_joinTrees 4 = .ok (.if_icmp .ge 43, 3) := by decide +kernel
theorem dX3_joinTrees_7 : decode cX3_joinTrees 7 = .ok (.iload_n 1, 1) := by decide +kernel
theorem dX3_joinTrees_8 : decode cX3_joinTrees 8 = .ok (.iload_n 2, 1) := by decide +kernel
theorem dX3_joinTrees_9 : decode cX3_joinTrees 9 = .ok (.iconst (-1), 1) := by decide +kernel
theorem dX3_joinTrees_10 : decode cX3_joinTrees 10 = .ok (.ixor, 1) := by decide +kernel
theorem dX3_joinTrees_11 : decode cX3_joinTrees 11 = .ok (.iand, 1) := by decide +kernel
theorem dX3_joinTrees_12 : decode cX3_joinTrees 12 = .ok (.istore_n 3, 1) := by decide +kernel
theorem dX3_joinTrees_13 : decode cX3_joinTrees 13 = .ok (.iload_n 2, 1) := by decide +kernel
theorem dX3_joinTrees_14 : decode cX3_joinTrees 14 = .ok (.iload_n 1, 1) := by decide +kernel
theorem dX3_joinTrees_15 : decode cX3_joinTrees 15 = .ok (.iand, 1) := by decide +kernel
theorem dX3_joinTrees_16 : decode cX3_joinTrees 16 = .ok (.iload_n 2, 1) := by decide +kernel
theorem dX3_joinTrees_17 : decode cX3_joinTrees 17 = .ok (.if_icmp .ne 24, 3) := by decide +kernel
theorem dX3_joinTrees_20 : decode cX3_joinTrees 20 = .ok (.iload_n 2, 1) := by decide +kernel
theorem dX3_joinTrees_21 : decode cX3_joinTrees 21 = .ok (.iload_n 3, 1) := by decide +kernel
theorem dX3_joinTrees_22 : decode cX3_joinTrees 22 = .ok (.if_icmp .ge 19, 3) := by decide +kernel
theorem dX3_joinTrees_25 : decode cX3_joinTrees 25 = .ok (.aload_n 0, 1) := by decide +kernel
theorem dX3_joinTrees_26 : decode cX3_joinTrees 26 = .ok (.iload_n 1, 1) := by decide +kernel
theorem dX3_joinTrees_27 : decode cX3_joinTrees 27 = .ok (.bipush 24, 2) := by decide +kernel
theorem dX3_joinTrees_29 : decode cX3_joinTrees 29 = .ok (.imul, 1) := by decide +kernel
theorem dX3_joinTrees_30 : decode cX3_joinTrees 30 = .ok (.iload_n 2, 1) := by decide +kernel
theorem dX3_joinTrees_31 : decode cX3_joinTrees 31 = .ok (.bipush 24, 2) := by decide +kernel
theorem dX3_joinTrees_33 : decode cX3_joinTrees 33 = .ok (.imul, 1) := by decide +kernel
theorem dX3_joinTrees_34 : decode cX3_joinTrees 34 = .ok (.iload_n 3, 1) := by decide +kernel
theorem dX3_joinTrees_35 : decode cX3_joinTrees 35 = .ok (.bipush 24, 2) := by decide +kernel
theorem dX3_joinTrees_37 : decode cX3_joinTrees 37 = .ok (.imul, 1) := by decide +kernel
theorem dX3_joinTrees_38 : decode cX3_joinTrees 38 = .ok (.invokevirtual 52, 3) := by decide +kernel
theorem dX3_joinTrees_41 : decode cX3_joinTrees 41 = .ok (.iinc 2 1, 3) := by decide +kernel
theorem dX3_joinTrees_44 : decode cX3_joinTrees 44 = .ok (.goto (-42), 3) := by decide +kernel
theorem dX3_joinTrees_47 : decode cX3_joinTrees 47 = .ok (.return_, 1) := by decide +kernel
theorem dX3_joinTwo_0 : decode cX3_joinTwo 0 = .ok (.iconst 0, 1) := by decide +kernel
theorem dX3_joinTwo_1 : decode cX3_joinTwo 1 = .ok (.istore 4, 2) := by decide +kernel
theorem dX3_joinTwo_3 : decode cX3_joinTwo 3 = .ok (.iload 4, 2) := by decide +kernel
theorem dX3_joinTwo_5 : decode cX3_joinTwo 5 = .ok (.bipush 24, 2) := by decide +kernel
theorem dX3_joinTwo_7 : decode cX3_joinTwo 7 = .ok (.if_icmp .ge 53, 3) := by decide +kernel
theorem dX3_joinTwo_10 : decode cX3_joinTwo 10 = .ok (.aload_n 0, 1) := by decide +kernel
theorem dX3_joinTwo_11 : decode cX3_joinTwo 11 = .ok (.getfield 21, 3) := by decide +kernel
theorem dX3_joinTwo_14 : decode cX3_joinTwo 14 = .ok (.iload_n 2, 1) := by decide +kernel
theorem dX3_joinTwo_15 : decode cX3_joinTwo 15 = .ok (.iload 4, 2) := by decide +kernel
theorem dX3_joinTwo_17 : decode cX3_joinTwo 17 = .ok (.iadd, 1) := by decide +kernel
theorem dX3_joinTwo_18 : decode cX3_joinTwo 18 = .ok (.iaload, 1) := by decide +kernel
theorem dX3_joinTwo_19 : decode cX3_joinTwo 19 = .ok (.aload_n 0, 1) := by decide +kernel
theorem dX3_joinTwo_20 : decode cX3_joinTwo 20 = .ok (.getfield 21, 3) := by decide +kernel
theorem dX3_joinTwo_23 : decode cX3_joinTwo 23 = .ok (.iload_n 3, 1) := by decide +kernel
theorem dX3_joinTwo_24 : decode cX3_joinTwo 24 = .ok (.iload 4, 2) := by decide +kernel
theorem dX3_joinTwo_26 : decode cX3_joinTwo 26 = .ok (.iadd, 1) := by decide +kernel
theorem dX3_joinTwo_27 : decode cX3_joinTwo 27 = .ok (.iaload, 1) := by decide +kernel
theorem dX3_joinTwo_28 : decode cX3_joinTwo 28 = .ok (.iadd, 1) := by decide +kernel
theorem dX3_joinTwo_29 : decode cX3_joinTwo 29 = .ok (.istore 5, 2) := by decide +kernel
theorem dX3_joinTwo_31 : decode cX3_joinTwo 31 = .ok (.aload_n 0, 1) := by decide +kernel
theorem dX3_joinTwo_32 : decode cX3_joinTwo 32 = .ok (.getfield 21, 3) := by decide +kernel
theorem dX3_joinTwo_35 : decode cX3_joinTwo 35 = .ok (.iload_n 1, 1) := by decide +kernel
theorem dX3_joinTwo_36 : decode cX3_joinTwo 36 = .ok (.iload 4, 2) := by decide +kernel
theorem dX3_joinTwo_38 : decode cX3_joinTwo 38 = .ok (.iadd, 1) := by decide +kernel
theorem dX3_joinTwo_39 : decode cX3_joinTwo 39 = .ok (.aload_n 0, 1) := by decide +kernel
theorem dX3_joinTwo_40 : decode cX3_joinTwo 40 = .ok (.getfield 21, 3) := by decide +kernel
theorem dX3_joinTwo_43 : decode cX3_joinTwo 43 = .ok (.iload_n 1, 1) := by decide +kernel
theorem dX3_joinTwo_44 : decode cX3_joinTwo 44 = .ok (.iload 4, 2) := by decide +kernel
theorem dX3_joinTwo_46 : decode cX3_joinTwo 46 = .ok (.iadd, 1) := by decide +kernel
theorem dX3_joinTwo_47 : decode cX3_joinTwo 47 = .ok (.iaload, 1) := by decide +kernel
theorem dX3_joinTwo_48 : decode cX3_joinTwo 48 = .ok (.iload 5, 2) := by decide +kernel
theorem dX3_joinTwo_50 : decode cX3_joinTwo 50 = .ok (.invokestatic 24, 3) := by decide +kernel
theorem dX3_joinTwo_53 : decode cX3_joinTwo 53 = .ok (.iastore, 1) := by decide +kernel
theorem dX3_joinTwo_54 : decode cX3_joinTwo 54 = .ok (.iinc 4 1, 3) := by decide +kernel
theorem dX3_joinTwo_57 : decode cX3_joinTwo 57 = .ok (.goto (-54), 3) := by decide +kernel
theorem dX3_joinTwo_60 : decode cX3_joinTwo 60 = .ok (.return_, 1) := by decide +kernel
theorem dX3_spread_0 : decode cX3_spread 0 = .ok (.iconst 1, 1) := by decide +kernel
theorem dX3_spread_1 : decode cX3_spread 1 = .ok (.istore_n 2, 1) := by decide +kernel
theorem dX3_spread_2 : decode cX3_spread 2 = .ok (.iconst 0, 1) := by decide +kernel
theorem dX3_spread_3 : decode cX3_spread 3 = .ok (.istore_n 3, 1) := by decide +kernel
theorem dX3_spread_4 : decode cX3_spread 4 = .ok (.iload_n 3, 1) := by decide +kernel
theorem dX3_spread_5 : decode cX3_spread 5 = .ok (.bipush 24, 2) := by decide +kernel
theorem dX3_spread_7 : decode cX3_spread 7 = .ok (.if_icmp .ge 103, 3) := by decide +kernel
theorem dX3_spread_10 : decode cX3_spread 10 = .ok (.iload_n 2, 1) := by decide +kernel
theorem dX3_spread_11 : decode cX3_spread 11 = .ok (.ifCond .eq 99, 3) := by decide +kernel
theorem dX3_spread_14 : decode cX3_spread 14 = .ok (.iconst 0, 1) := by decide +kernel
theorem dX3_spread_15 : decode cX3_spread 15 = .ok (.istore_n 2, 1) := by decide +kernel
theorem dX3_spread_16 : decode cX3_spread 16 = .ok (.iconst 0, 1) := by decide +kernel
theorem dX3_spread_17 : decode cX3_spread 17 = .ok (.istore 4, 2) := by decide +kernel
theorem dX3_spread_19 : decode cX3_spread 19 = .ok (.iload 4, 2) := by decide +kernel
theorem dX3_spread_21 : decode cX3_spread 21 = .ok (.bipush 24, 2) := by decide +kernel
theorem dX3_spread_23 : decode cX3_spread 23 = .ok (.if_icmp .ge 81, 3) := by decide +kernel
theorem dX3_spread_26 : decode cX3_spread 26 = .ok (.iload 4, 2) := by decide +kernel
theorem dX3_spread_28 : decode cX3_spread 28 = .ok (.bipush 6, 2) := by decide +kernel
theorem dX3_spread_30 : decode cX3_spread 30 = .ok (.irem, 1) := by decide +kernel
theorem dX3_spread_31 : decode cX3_spread 31 = .ok (.iconst 5, 1) := by decide +kernel
theorem dX3_spread_32 : decode cX3_spread 32 = .ok (.if_icmp .eq 29, 3) := by decide +kernel
theorem dX3_spread_35 : decode cX3_spread 35 = .ok (.aload_n 0, 1) := by decide +kernel
theorem dX3_spread_36 : decode cX3_spread 36 = .ok (.iload_n 1, 1) := by decide +kernel
theorem dX3_spread_37 : decode cX3_spread 37 = .ok (.iload 4, 2) := by decide +kernel
theorem dX3_spread_39 : decode cX3_spread 39 = .ok (.iadd, 1) := by decide +kernel
theorem dX3_spread_40 : decode cX3_spread 40 = .ok (.iload_n 1, 1) := by decide +kernel
theorem dX3_spread_41 : decode cX3_spread 41 = .ok (.iload 4, 2) := by decide +kernel
theorem dX3_spread_43 : decode cX3_spread 43 = .ok (.iadd, 1) := by decide +kernel
theorem dX3_spread_44 : decode cX3_spread 44 = .ok (.iconst 1, 1) := by decide +kernel
theorem dX3_spread_45 : decode cX3_spread 45 = .ok (.iadd, 1) := by decide +kernel
theorem dX3_spread_46 : decode cX3_spread 46 = .ok (.aload_n 0, 1) := by decide +kernel
theorem dX3_spread_47 : decode cX3_spread 47 = .ok (.getfield 9, 3) := by decide +kernel
theorem dX3_spread_50 : decode cX3_spread 50 = .ok (.iload 4, 2) := by decide +kernel
theorem dX3_spread_52 : decode cX3_spread 52 = .ok (.iaload, 1) := by decide +kernel
theorem dX3_spread_53 : decode cX3_spread 53 = .ok (.invokevirtual 56, 3) := by decide +kernel
theorem dX3_spread_56 : decode cX3_spread 56 = .ok (.ifCond .eq 5, 3) := by decide +kernel
theorem dX3_spread_59 : decode cX3_spread 59 = .ok (.iconst 1, 1) := by decide +kernel
theorem dX3_spread_60 : decode cX3_spread 60 = .ok (.istore_n 2, 1) := by decide +kernel
theorem dX3_spread_61 : decode cX3_spread 61 = .ok (.iload 4, 2) := by decide +kernel
theorem dX3_spread_63 : decode cX3_spread 63 = .ok (.bipush 6, 2) := by decide +kernel
theorem dX3_spread_65 : decode cX3_spread 65 = .ok (.iadd, 1) := by decide +kernel
theorem dX3_spread_66 : decode cX3_spread 66 = .ok (.bipush 24, 2) := by decide +kernel
theorem dX3_spread_68 : decode cX3_spread 68 = .ok (.if_icmp .ge 30, 3) := by decide +kernel
theorem dX3_spread_71 : decode cX3_spread 71 = .ok (.aload_n 0, 1) := by decide +kernel
theorem dX3_spread_72 : decode cX3_spread 72 = .ok (.iload_n 1, 1) := by decide +kernel
theorem dX3_spread_73 : decode cX3_spread 73 = .ok (.iload 4, 2) := by decide +kernel
theorem dX3_spread_75 : decode cX3_spread 75 = .ok (.iadd, 1) := by decide +kernel
theorem dX3_spread_76 : decode cX3_spread 76 = .ok (.iload_n 1, 1) := by decide +kernel
theorem dX3_spread_77 : decode cX3_spread 77 = .ok (.iload 4, 2) := by decide +kernel
theorem dX3_spread_79 : decode cX3_spread 79 = .ok (.iadd, 1) := by decide +kernel
theorem dX3_spread_80 : decode cX3_spread 80 = .ok (.bipush 6, 2) := by decide +kernel
theorem dX3_spread_82 : decode cX3_spread 82 = .ok (.iadd, 1) := by decide +kernel
theorem dX3_spread_83 : decode cX3_spread 83 = .ok (.aload_n 0, 1) := by decide +kernel
theorem dX3_spread_84 : decode cX3_spread 84 = .ok (.getfield 15, 3) := by decide +kernel
theorem dX3_spread_87 : decode cX3_spread 87 = .ok (.iload 4, 2) := by decide +kernel
theorem dX3_spread_89 : decode cX3_spread 89 = .ok (.iaload, 1) := by decide +kernel
theorem dX3_spread_90 : decode cX3_spread 90 = .ok (.invokevirtual 56, 3) := by decide +kernel
theorem dX3_spread_93 : decode cX3_spread 93 = .ok (.ifCond .eq 5, 3) := by decide +kernel
theorem dX3_spread_96 : decode cX3_spread 96 = .ok (.iconst 1, 1) := by decide +kernel
theorem dX3_spread_97 : decode cX3_spread 97 = .ok (.istore_n 2, 1) := by decide +kernel
theorem dX3_spread_98 : decode cX3_spread 98 = .ok (.iinc 4 1, 3) := by decide +kernel
theorem dX3_spread_101 : decode cX3_spread 101 = .ok (.goto (-82), 3) := by decide +kernel
theorem dX3_spread_104 : decode cX3_spread 104 = .ok (.iinc 3 1, 3) := by decide +kernel
theorem dX3_spread_107 : decode cX3_spread 107 = .ok (.goto (-103), 3) := by decide +kernel
theorem dX3_spread_110 : decode cX3_spread 110 = .ok (.return_, 1) := by decide +kernel
theorem dX3_even_0 : decode cX3_even 0 = .ok (.iload_n 3, 1) := by decide +kernel
theorem dX3_even_1 : decode cX3_even 1 = .ok (.iconst 1, 1) := by decide +kernel
theorem dX3_even_2 : decode cX3_even 2 = .ok (.if_icmp .ne 5, 3) := by decide +kernel
theorem dX3_even_5 : decode cX3_even 5 = .ok (.iconst 0, 1) := by decide +kernel
theorem dX3_even_6 : decode cX3_even 6 = .ok (.ireturn, 1) := by decide +kernel
theorem dX3_even_7 : decode cX3_even 7 = .ok (.iload_n 3, 1) := by decide +kernel
theorem dX3_even_8 : decode cX3_even 8 = .ok (.iconst 2, 1) := by decide +kernel
theorem dX3_even_9 : decode cX3_even 9 = .ok (.if_icmp .ne 7, 3) := by decide +kernel
theorem dX3_even_12 : decode cX3_even 12 = .ok (.iconst 0, 1) := by decide +kernel
theorem dX3_even_13 : decode cX3_even 13 = .ok (.goto 4, 3) := by decide +kernel
theorem dX3_even_16 : decode cX3_even 16 = .ok (.iconst 1, 1) := by decide +kernel
theorem dX3_even_17 : decode cX3_even 17 = .ok (.istore 4, 2) := by decide +kernel
theorem dX3_even_19 : decode cX3_even 19 = .ok (.aload_n 0, 1) := by decide +kernel
theorem dX3_even_20 : decode cX3_even 20 = .ok (.getfield 21, 3) := by decide +kernel
theorem dX3_even_23 : decode cX3_even 23 = .ok (.iload_n 1, 1) := by decide +kernel
theorem dX3_even_24 : decode cX3_even 24 = .ok (.iaload, 1) := by decide +kernel
theorem dX3_even_25 : decode cX3_even 25 = .ok (.iload 4, 2) := by decide +kernel
theorem dX3_even_27 : decode cX3_even 27 = .ok (.iadd, 1) := by decide +kernel
theorem dX3_even_28 : decode cX3_even 28 = .ok (.aload_n 0, 1) := by decide +kernel
theorem dX3_even_29 : decode cX3_even 29 = .ok (.getfield 21, 3) := by decide +kernel
theorem dX3_even_32 : decode cX3_even 32 = .ok (.iload_n 2, 1) := by decide +kernel
theorem dX3_even_33 : decode cX3_even 33 = .ok (.iaload, 1) := by decide +kernel
theorem dX3_even_34 : decode cX3_even 34 = .ok (.if_icmp .ge 20, 3) := by decide +kernel
theorem dX3_even_37 : decode cX3_even 37 = .ok (.aload_n 0, 1) := by decide +kernel
theorem dX3_even_38 : decode cX3_even 38 = .ok (.getfield 21, 3) := by decide +kernel
theorem dX3_even_41 : decode cX3_even 41 = .ok (.iload_n 2, 1) := by decide +kernel
theorem dX3_even_42 : decode cX3_even 42 = .ok (.aload_n 0, 1) := by decide +kernel
theorem dX3_even_43 : decode cX3_even 43 = .ok (.getfield 21, 3) := by decide +kernel
theorem dX3_even_46 : decode cX3_even 46 = .ok (.iload_n 1, 1) := by decide +kernel
theorem dX3_even_47 : decode cX3_even 47 = .ok (.iaload, 1) := by decide +kernel
theorem dX3_even_48 : decode cX3_even 48 = .ok (.iload 4, 2) := by decide +kernel
theorem dX3_even_50 : decode cX3_even 50 = .ok (.iadd, 1) := by decide +kernel
theorem dX3_even_51 : decode cX3_even 51 = .ok (.iastore, 1) := by decide +kernel
theorem dX3_even_52 : decode cX3_even 52 = .ok (.iconst 1, 1) := by decide +kernel
theorem dX3_even_53 : decode cX3_even 53 = .ok (.ireturn, 1) := by decide +kernel
theorem dX3_even_54 : decode cX3_even 54 = .ok (.aload_n 0, 1) := by decide +kernel
theorem dX3_even_55 : decode cX3_even 55 = .ok (.getfield 21, 3) := by decide +kernel
theorem dX3_even_58 : decode cX3_even 58 = .ok (.iload_n 2, 1) := by decide +kernel
theorem dX3_even_59 : decode cX3_even 59 = .ok (.iaload, 1) := by decide +kernel
theorem dX3_even_60 : decode cX3_even 60 = .ok (.iload 4, 2) := by decide +kernel
theorem dX3_even_62 : decode cX3_even 62 = .ok (.iadd, 1) := by decide +kernel
theorem dX3_even_63 : decode cX3_even 63 = .ok (.aload_n 0, 1) := by decide +kernel
theorem dX3_even_64 : decode cX3_even 64 = .ok (.getfield 21, 3) := by decide +kernel
theorem dX3_even_67 : decode cX3_even 67 = .ok (.iload_n 1, 1) := by decide +kernel
theorem dX3_even_68 : decode cX3_even 68 = .ok (.iaload, 1) := by decide +kernel
theorem dX3_even_69 : decode cX3_even 69 = .ok (.if_icmp .ge 20, 3) := by decide +kernel
theorem dX3_even_72 : decode cX3_even 72 = .ok (.aload_n 0, 1) := by decide +kernel
theorem dX3_even_73 : decode cX3_even 73 = .ok (.getfield 21, 3) := by decide +kernel
theorem dX3_even_76 : decode cX3_even 76 = .ok (.iload_n 1, 1) := by decide +kernel
theorem dX3_even_77 : decode cX3_even 77 = .ok (.aload_n 0, 1) := by decide +kernel
theorem dX3_even_78 : decode cX3_even 78 = .ok (.getfield 21, 3) := by decide +kernel
theorem dX3_even_81 : decode cX3_even 81 = .ok (.iload_n 2, 1) := by decide +kernel
theorem dX3_even_82 : decode cX3_even 82 = .ok (.iaload, 1) := by decide +kernel
theorem dX3_even_83 : decode cX3_even 83 = .ok (.iload 4, 2) := by decide +kernel
theorem dX3_even_85 : decode cX3_even 85 = .ok (.iadd, 1) := by decide +kernel
theorem dX3_even_86 : decode cX3_even 86 = .ok (.iastore, 1) := by decide +kernel
theorem dX3_even_87 : decode cX3_even 87 = .ok (.iconst 1, 1) := by decide +kernel
theorem dX3_even_88 : decode cX3_even 88 = .ok (.ireturn, 1) := by decide +kernel
theorem dX3_even_89 : decode cX3_even 89 = .ok (.iconst 0, 1) := by decide +kernel
theorem dX3_even_90 : decode cX3_even 90 = .ok (.ireturn, 1) := by decide +kernel
theorem dX4_init_0 : decode cX4_init 0 = .ok (.aload_n 0, 1) := by decide +kernel
theorem dX4_init_1 : decode cX4_init 1 = .ok (.invokespecial 3, 3) := by decide +kernel
theorem dX4_init_4 : decode cX4_init 4 = .ok (.aload_n 0, 1) := by decide +kernel
theorem dX4_init_5 : decode cX4_init 5 = .ok (.bipush 12, 2) := by decide +kernel
theorem dX4_init_7 : decode cX4_init 7 = .ok (.newarray .int, 2) := by decide +kernel
theorem dX4_init_9 : decode cX4_init 9 = .ok (.putfield 9, 3) := by decide +kernel
theorem dX4_init_12 : decode cX4_init 12 = .ok (.aload_n 0, 1) := by decide +kernel
theorem dX4_init_13 : decode cX4_init 13 = .ok (.bipush 12, 2) := by decide +kernel
theorem dX4_init_15 : decode cX4_init 15 = .ok (.newarray .int, 2) := by decide +kernel
theorem dX4_init_17 : decode cX4_init 17 = .ok (.putfield 15, 3) := by decide +kernel
theorem dX4_init_20 : decode cX4_init 20 = .ok (.aload_n 0, 1) := by decide +kernel
theorem dX4_init_21 : decode cX4_init 21 = .ok (.bipush 12, 2) := by decide +kernel
theorem dX4_init_23 : decode cX4_init 23 = .ok (.newarray .int, 2) := by decide +kernel
theorem dX4_init_25 : decode cX4_init 25 = .ok (.putfield 18, 3) := by decide +kernel
theorem dX4_init_28 : decode cX4_init 28 = .ok (.aload_n 0, 1) := by decide +kernel
theorem dX4_init_29 : decode cX4_init 29 = .ok (.bipush 12, 2) := by decide +kernel
theorem dX4_init_31 : decode cX4_init 31 = .ok (.newarray .int, 2) := by decide +kernel
theorem dX4_init_33 : decode cX4_init 33 = .ok (.putfield 21, 3) := by decide +kernel
theorem dX4_init_36 : decode cX4_init 36 = .ok (.aload_n 0, 1) := by decide +kernel
theorem dX4_init_37 : decode cX4_init 37 = .ok (.bipush 12, 2) := by decide +kernel
theorem dX4_init_39 : decode cX4_init 39 = .ok (.newarray .int, 2) := by decide +kernel
theorem dX4_init_41 : decode cX4_init 41 = .ok (.putfield 24, 3) := by decide +kernel
theorem dX4_init_44 : decode cX4_init 44 = .ok (.return_, 1) := by decide +kernel
theorem dX4_has_0 : decode cX4_has 0 = .ok (.iload_n 1, 1) := by decide +kernel
theorem dX4_has_1 : decode cX4_has 1 = .ok (.aload_n 0, 1) := by decide +kernel
theorem dX4_has_2 : decode cX4_has 2 = .ok (.getfield 27, 3) := by decide +kernel
theorem dX4_has_5 : decode cX4_has 5 = .ok (.invokestatic 31, 3) := by decide +kernel
theorem dX4_has_8 : decode cX4_has 8 = .ok (.ireturn, 1) := by decide +kernel
theorem dX4_add_0 : decode cX4_add 0 = .ok (.aload_n 0, 1) := by decide +kernel
theorem dX4_add_1 : decode cX4_add 1 = .ok (.getfield 27, 3) := by decide +kernel
theorem dX4_add_4 : decode cX4_add 4 = .ok (.istore 6, 2) := by decide +kernel
theorem dX4_add_6 : decode cX4_add 6 = .ok (.aload_n 0, 1) := by decide +kernel
theorem dX4_add_7 : decode cX4_add 7 = .ok (.getfield 9, 3) := by decide +kernel
theorem dX4_add_10 : decode cX4_add 10 = .ok (.iload 6, 2) := by decide +kernel
theorem dX4_add_12 : decode cX4_add 12 = .ok (.iload_n 1, 1) := by decide +kernel
theorem dX4_add_13 : decode cX4_add 13 = .ok (.iastore, 1) := by decide +kernel
theorem dX4_add_14 : decode cX4_add 14 = .ok (.aload_n 0, 1) := by decide +kernel
theorem dX4_add_15 : decode cX4_add 15 = .ok (.getfield 15, 3) := by decide +kernel
theorem dX4_add_18 : decode cX4_add 18 = .ok (.iload 6, 2) := by decide +kernel
theorem dX4_add_20 : decode cX4_add 20 = .ok (.iload_n 2, 1) := by decide +kernel
theorem dX4_add_21 : decode cX4_add 21 = .ok (.iastore, 1) := by decide +kernel
theorem dX4_add_22 : decode cX4_add 22 = .ok (.aload_n 0, 1) := by decide +kernel
theorem dX4_add_23 : decode cX4_add 23 = .ok (.getfield 18, 3) := by decide +kernel
theorem dX4_add_26 : decode cX4_add 26 = .ok (.iload 6, 2) := by decide +kernel
theorem dX4_add_28 : decode cX4_add 28 = .ok (.iload_n 3, 1) := by decide +kernel
theorem dX4_add_29 : decode cX4_add 29 = .ok (.iastore, 1) := by decide +kernel
theorem dX4_add_30 : decode cX4_add 30 = .ok (.aload_n 0, 1) := by decide +kernel
theorem dX4_add_31 : decode cX4_add 31 = .ok (.getfield 21, 3) := by decide +kernel
theorem dX4_add_34 : decode cX4_add 34 = .ok (.iload 6, 2) := by decide +kernel
theorem dX4_add_36 : decode cX4_add 36 = .ok (.iload 4, 2) := by decide +kernel
theorem dX4_add_38 : decode cX4_add 38 = .ok (.iastore, 1) := by decide +kernel
theorem dX4_add_39 : decode cX4_add 39 = .ok (.aload_n 0, 1) := by decide +kernel
theorem dX4_add_40 : decode cX4_add 40 = .ok (.getfield 24, 3) := by decide +kernel
theorem dX4_add_43 : decode cX4_add 43 = .ok (.iload 6, 2) := by decide +kernel
theorem dX4_add_45 : decode cX4_add 45 = .ok (.iload 5, 2) := by decide +kernel
theorem dX4_add_47 : decode cX4_add 47 = .ok (.iastore, 1) := by decide +kernel
theorem dX4_add_48 : decode cX4_add 48 = .ok (.aload_n 0, 1) := by decide +kernel
theorem dX4_add_49 : decode cX4_add 49 = .ok (.dup, 1) := by decide +kernel
theorem dX4_add_50 : decode cX4_add 50 = .ok (.getfield 27, 3) := by decide +kernel
theorem dX4_add_53 : decode cX4_add 53 = .ok (.iconst 1, 1) := by decide +kernel
theorem dX4_add_54 : decode cX4_add 54 = .ok (.iadd, 1) := by decide +kernel
theorem dX4_add_55 : decode cX4_add 55 = .ok (.putfield 27, 3) := by decide +kernel
theorem dX4_add_58 : decode cX4_add 58 = .ok (.iload 6, 2) := by decide +kernel
theorem dX4_add_60 : decode cX4_add 60 = .ok (.ireturn, 1) := by decide +kernel
theorem dX4_forceInHeat_0 : decode cX4_forceInHeat 0 = .ok (.bipush 10, 2) := by decide +kernel
theorem dX4_forceInHeat_2 : decode cX4_forceInHeat 2 = .ok (.iload_n 2, 1) := by decide +kernel
theorem dX4_forceInHeat_3 : decode cX4_forceInHeat 3 = .ok (.aload_n 0, 1) := by decide +kernel
theorem dX4_forceInHeat_4 : decode cX4_forceInHeat 4 = .ok (.getfield 24, 3) := by decide +kernel
theorem dX4_forceInHeat_7 : decode cX4_forceInHeat 7 = .ok (.iload_n 1, 1) := by decide +kernel
theorem dX4_forceInHeat_8 : decode cX4_forceInHeat 8 = .ok (.iaload, 1) := by decide +kernel
theorem dX4_forceInHeat_9 : decode cX4_forceInHeat 9 = .ok (.invokestatic 35, 3) := by decide +kernel
theorem dX4_forceInHeat_12 : decode cX4_forceInHeat 12 = .ok (.imul, 1) := by decide +kernel
theorem dX4_forceInHeat_13 : decode cX4_forceInHeat 13 = .ok (.bipush 20, 2) := by decide +kernel
theorem dX4_forceInHeat_15 : decode cX4_forceInHeat 15 = .ok (.idiv, 1) := by decide +kernel
theorem dX4_forceInHeat_16 : decode cX4_forceInHeat 16 = .ok (.isub, 1) := by decide +kernel
theorem dX4_forceInHeat_17 : decode cX4_forceInHeat 17 = .ok (.ireturn, 1) := by decide +kernel
theorem dX5_init_0 : decode cX5_init 0 = .ok (.aload_n 0, 1) := by decide +kernel
theorem dX5_init_1 : decode cX5_init 1 = .ok (.invokespecial 3, 3) := by decide +kernel
theorem dX5_init_4 : decode cX5_init 4 = .ok (.aload_n 0, 1) := by decide +kernel
theorem dX5_init_5 : decode cX5_init 5 = .ok (.iconst 5, 1) := by decide +kernel
theorem dX5_init_6 : decode cX5_init 6 = .ok (.newarray .int, 2) := by decide +kernel
theorem dX5_init_8 : decode cX5_init 8 = .ok (.putfield 9, 3) := by decide +kernel
theorem dX5_init_11 : decode cX5_init 11 = .ok (.aload_n 0, 1) := by decide +kernel
theorem dX5_init_12 : decode cX5_init 12 = .ok (.iconst 5, 1) := by decide +kernel
theorem dX5_init_13 : decode cX5_init 13 = .ok (.newarray .int, 2) := by decide +kernel
theorem dX5_init_15 : decode cX5_init 15 = .ok (.putfield 15, 3) := by decide +kernel
theorem dX5_init_18 : decode cX5_init 18 = .ok (.aload_n 0, 1) := by decide +kernel
theorem dX5_init_19 : decode cX5_init 19 = .ok (.iconst 5, 1) := by decide +kernel
theorem dX5_init_20 : decode cX5_init 20 = .ok (.newarray .int, 2) := by decide +kernel
theorem dX5_init_22 : decode cX5_init 22 = .ok (.putfield 18, 3) := by decide +kernel
theorem dX5_init_25 : decode cX5_init 25 = .ok (.aload_n 0, 1) := by decide +kernel
theorem dX5_init_26 : decode cX5_init 26 = .ok (.iconst 5, 1) := by decide +kernel
theorem dX5_init_27 : decode cX5_init 27 = .ok (.newarray .int, 2) := by decide +kernel
theorem dX5_init_29 : decode cX5_init 29 = .ok (.putfield 21, 3) := by decide +kernel
theorem dX5_init_32 : decode cX5_init 32 = .ok (.aload_n 0, 1) := by decide +kernel
theorem dX5_init_33 : decode cX5_init 33 = .ok (.iconst 5, 1) := by decide +kernel
theorem dX5_init_34 : decode cX5_init 34 = .ok (.newarray .int, 2) := by decide +kernel
theorem dX5_init_36 : decode cX5_init 36 = .ok (.putfield 24, 3) := by decide +kernel
theorem dX5_init_39 : decode cX5_init 39 = .ok (.aload_n 0, 1) := by decide +kernel
theorem dX5_init_40 : decode cX5_init 40 = .ok (.iconst 5, 1) := by decide +kernel
theorem dX5_init_41 : decode cX5_init 41 = .ok (.newarray .int, 2) := by decide +kernel
theorem dX5_init_43 : decode cX5_init 43 = .ok (.putfield 27, 3) := by decide +kernel
theorem dX5_init_46 : decode cX5_init 46 = .ok (.return_, 1) := by decide +kernel
theorem dX5_add_0 : decode cX5_add 0 = .ok (.aload_n 0, 1) := by decide +kernel
theorem dX5_add_1 : decode cX5_add 1 = .ok (.getfield 30, 3) := by decide +kernel
theorem dX5_add_4 : decode cX5_add 4 = .ok (.istore 4, 2) := by decide +kernel
theorem dX5_add_6 : decode cX5_add 6 = .ok (.aload_n 0, 1) := by decide +kernel
theorem dX5_add_7 : decode cX5_add 7 = .ok (.getfield 9, 3) := by decide +kernel
theorem dX5_add_10 : decode cX5_add 10 = .ok (.iload 4, 2) := by decide +kernel
theorem dX5_add_12 : decode cX5_add 12 = .ok (.iload_n 1, 1) := by decide +kernel
theorem dX5_add_13 : decode cX5_add 13 = .ok (.iastore, 1) := by decide +kernel
theorem dX5_add_14 : decode cX5_add 14 = .ok (.aload_n 0, 1) := by decide +kernel
theorem dX5_add_15 : decode cX5_add 15 = .ok (.getfield 15, 3) := by decide +kernel
theorem dX5_add_18 : decode cX5_add 18 = .ok (.iload 4, 2) := by decide +kernel
theorem dX5_add_20 : decode cX5_add 20 = .ok (.iload_n 2, 1) := by decide +kernel
theorem dX5_add_21 : decode cX5_add 21 = .ok (.iastore, 1) := by decide +kernel
theorem dX5_add_22 : decode cX5_add 22 = .ok (.aload_n 0, 1) := by decide +kernel
theorem dX5_add_23 : decode cX5_add 23 = .ok (.getfield 18, 3) := by decide +kernel
theorem dX5_add_26 : decode cX5_add 26 = .ok (.iload 4, 2) := by decide +kernel
theorem dX5_add_28 : decode cX5_add 28 = .ok (.iload_n 3, 1) := by decide +kernel
theorem dX5_add_29 : decode cX5_add 29 = .ok (.iastore, 1) := by decide +kernel
theorem dX5_add_30 : decode cX5_add 30 = .ok (.aload_n 0, 1) := by decide +kernel
theorem dX5_add_31 : decode cX5_add 31 = .ok (.getfield 21, 3) := by decide +kernel
theorem dX5_add_34 : decode cX5_add 34 = .ok (.iload 4, 2) := by decide +kernel
theorem dX5_add_36 : decode cX5_add 36 = .ok (.bipush (-4), 2) := by decide +kernel
theorem dX5_add_38 : decode cX5_add 38 = .ok (.iastore, 1) := by decide +kernel
theorem dX5_add_39 : decode cX5_add 39 = .ok (.aload_n 0, 1) := by decide +kernel
theorem dX5_add_40 : decode cX5_add 40 = .ok (.dup, 1) := by decide +kernel
theorem dX5_add_41 : decode cX5_add 41 = .ok (.getfield 30, 3) := by decide +kernel
theorem dX5_add_44 : decode cX5_add 44 = .ok (.iconst 1, 1) := by decide +kernel
theorem dX5_add_45 : decode cX5_add 45 = .ok (.iadd, 1) := by decide +kernel
theorem dX5_add_46 : decode cX5_add 46 = .ok (.putfield 30, 3) := by decide +kernel
theorem dX5_add_49 : decode cX5_add 49 = .ok (.iload 4, 2) := by decide +kernel
theorem dX5_add_51 : decode cX5_add 51 = .ok (.ireturn, 1) := by decide +kernel
theorem dX5_isFree_0 : decode cX5_isFree 0 = .ok (.aload_n 0, 1) := by decide +kernel
theorem dX5_isFree_1 : decode cX5_isFree 1 = .ok (.getfield 21, 3) := by decide +kernel
theorem dX5_isFree_4 : decode cX5_isFree 4 = .ok (.iload_n 1, 1) := by decide +kernel
theorem dX5_isFree_5 : decode cX5_isFree 5 = .ok (.iaload, 1) := by decide +kernel
theorem dX5_isFree_6 : decode cX5_isFree 6 = .ok (.bipush (-4), 2) := by decide +kernel
theorem dX5_isFree_8 : decode cX5_isFree 8 = .ok (.if_icmp .ne 7, 3) := by decide +kernel
theorem dX5_isFree_11 : decode cX5_isFree 11 = .ok (.iconst 1, 1) := by decide +kernel
theorem dX5_isFree_12 : decode cX5_isFree 12 = .ok (.goto 4, 3) := by decide +kernel
theorem dX5_isFree_15 : decode cX5_isFree 15 = .ok (.iconst 0, 1) := by decide +kernel
theorem dX5_isFree_16 : decode cX5_isFree 16 = .ok (.ireturn, 1) := by decide +kernel
theorem dX5_mayGo_0 : decode cX5_mayGo 0 = .ok (.aload_n 0, 1) := by decide +kernel
theorem dX5_mayGo_1 : decode cX5_mayGo 1 = .ok (.iload_n 1, 1) := by decide +kernel
theorem dX5_mayGo_2 : decode cX5_mayGo 2 = .ok (.invokevirtual 34, 3) := by decide +kernel
theorem dX5_mayGo_5 : decode cX5_mayGo 5 = .ok (.ifCond .eq 20, 3) := by decide +kernel
theorem dX5_mayGo_8 : decode cX5_mayGo 8 = .ok (.aload_n 0, 1) := by decide +kernel
theorem dX5_mayGo_9 : decode cX5_mayGo 9 = .ok (.getfield 18, 3) := by decide +kernel
theorem dX5_mayGo_12 : decode cX5_mayGo 12 = .ok (.iload_n 1, 1) := by decide +kernel
theorem dX5_mayGo_13 : decode cX5_mayGo 13 = .ok (.iaload, 1) := by decide +kernel
theorem dX5_mayGo_14 : decode cX5_mayGo 14 = .ok (.iload_n 2, 1) := by decide +kernel
theorem dX5_mayGo_15 : decode cX5_mayGo 15 = .ok (.ishr, 1) := by decide +kernel
theorem dX5_mayGo_16 : decode cX5_mayGo 16 = .ok (.iconst 1, 1) := by decide +kernel
theorem dX5_mayGo_17 : decode cX5_mayGo 17 = .ok (.iand, 1) := by decide +kernel
theorem dX5_mayGo_18 : decode cX5_mayGo 18 = .ok (.ifCond .eq 7, 3) := by decide +kernel
theorem dX5_mayGo_21 : decode cX5_mayGo 21 = .ok (.iconst 1, 1) := by decide +kernel
theorem dX5_mayGo_22 : decode cX5_mayGo 22 = .ok (.goto 4, 3) := by decide +kernel
theorem dX5_mayGo_25 : decode cX5_mayGo 25 = .ok (.iconst 0, 1) := by decide +kernel
theorem dX5_mayGo_26 : decode cX5_mayGo 26 = .ok (.ireturn, 1) := by decide +kernel
theorem dX5_wayTo_0 : decode cX5_wayTo 0 = .ok (.aload_n 0, 1) := by decide +kernel
theorem dX5_wayTo_1 : decode cX5_wayTo 1 = .ok (.getfield 9, 3) := by decide +kernel
theorem dX5_wayTo_4 : decode cX5_wayTo 4 = .ok (.iload_n 1, 1) := by decide +kernel
theorem dX5_wayTo_5 : decode cX5_wayTo 5 = .ok (.iaload, 1) := by decide +kernel
theorem dX5_wayTo_6 : decode cX5_wayTo 6 = .ok (.iload_n 2, 1) := by decide +kernel
theorem dX5_wayTo_7 : decode cX5_wayTo 7 = .ok (.isub, 1) := by decide +kernel
theorem dX5_wayTo_8 : decode cX5_wayTo 8 = .ok (.invokestatic 38, 3) := by decide +kernel
theorem dX5_wayTo_11 : decode cX5_wayTo 11 = .ok (.istore 4, 2) := by decide +kernel
theorem dX5_wayTo_13 : decode cX5_wayTo 13 = .ok (.iload 4, 2) := by decide +kernel
theorem dX5_wayTo_15 : decode cX5_wayTo 15 = .ok (.ifCond .ne 15, 3) := by decide +kernel
theorem dX5_wayTo_18 : decode cX5_wayTo 18 = .ok (.aload_n 0, 1) := by decide +kernel
theorem dX5_wayTo_19 : decode cX5_wayTo 19 = .ok (.getfield 15, 3) := by decide +kernel
theorem dX5_wayTo_22 : decode cX5_wayTo 22 = .ok (.iload_n 1, 1) := by decide +kernel
theorem dX5_wayTo_23 : decode cX5_wayTo 23 = .ok (.iaload, 1) := by decide +kernel
theorem dX5_wayTo_24 : decode cX5_wayTo 24 = .ok (.iload_n 3, 1) := by decide +kernel
theorem dX5_wayTo_25 : decode cX5_wayTo 25 = .ok (.isub, 1) := by decide +kernel
theorem dX5_wayTo_26 : decode cX5_wayTo 26 = .ok (.invokestatic 38, 3) := by decide +kernel
theorem dX5_wayTo_29 : decode cX5_wayTo 29 = .ok (.ireturn, 1) := by decide +kernel
theorem dX5_wayTo_30 : decode cX5_wayTo 30 = .ok (.aload_n 0, 1) := by decide +kernel
theorem dX5_wayTo_31 : decode cX5_wayTo 31 = .ok (.getfield 15, 3) := by decide +kernel
theorem dX5_wayTo_34 : decode cX5_wayTo 34 = .ok (.iload_n 1, 1) := by decide +kernel
theorem dX5_wayTo_35 : decode cX5_wayTo 35 = .ok (.iaload, 1) := by decide +kernel
theorem dX5_wayTo_36 : decode cX5_wayTo 36 = .ok (.bipush 15, 2) := by decide +kernel
theorem dX5_wayTo_38 : decode cX5_wayTo 38 = .ok (.isub, 1) := by decide +kernel
theorem dX5_wayTo_39 : decode cX5_wayTo 39 = .ok (.invokestatic 38, 3) := by decide +kernel
theorem dX5_wayTo_42 : decode cX5_wayTo 42 = .ok (.bipush 6, 2) := by decide +kernel
theorem dX5_wayTo_44 : decode cX5_wayTo 44 = .ok (.iload 4, 2) := by decide +kernel
theorem dX5_wayTo_46 : decode cX5_wayTo 46 = .ok (.imul, 1) := by decide +kernel
theorem dX5_wayTo_47 : decode cX5_wayTo 47 = .ok (.iadd, 1) := by decide +kernel
theorem dX5_wayTo_48 : decode cX5_wayTo 48 = .ok (.bipush 15, 2) := by decide +kernel
theorem dX5_wayTo_50 : decode cX5_wayTo 50 = .ok (.iload_n 3, 1) := by decide +kernel
theorem dX5_wayTo_51 : decode cX5_wayTo 51 = .ok (.isub, 1) := by decide +kernel
theorem dX5_wayTo_52 : decode cX5_wayTo 52 = .ok (.invokestatic 38, 3) := by decide +kernel
theorem dX5_wayTo_55 : decode cX5_wayTo 55 = .ok (.iadd, 1) := by decide +kernel
theorem dX5_wayTo_56 : decode cX5_wayTo 56 = .ok (.ireturn, 1) := by decide +kernel
theorem dX6_init_0 : decode cX6_init 0 = .ok (.aload_n 0, 1) := by decide +kernel
theorem dX6_init_1 : decode cX6_init 1 = .ok (.invokespecial 3, 3) := by decide +kernel
theorem dX6_init_4 : decode cX6_init 4 = .ok (.aload_n 0, 1) := by decide +kernel
theorem dX6_init_5 : decode cX6_init 5 = .ok (.aload_n 1, 1) := by decide +kernel
theorem dX6_init_6 : decode cX6_init 6 = .ok (.putfield 9, 3) := by decide +kernel
theorem dX6_init_9 : decode cX6_init 9 = .ok (.aload_n 0, 1) := by decide +kernel
theorem dX6_init_10 : decode cX6_init 10 = .ok (.aload_n 2, 1) := by decide +kernel
theorem dX6_init_11 : decode cX6_init 11 = .ok (.putfield 15, 3) := by decide +kernel
theorem dX6_init_14 : decode cX6_init 14 = .ok (.aload_n 0, 1) := by decide +kernel
theorem dX6_init_15 : decode cX6_init 15 = .ok (.aload_n 3, 1) := by decide +kernel
theorem dX6_init_16 : decode cX6_init 16 = .ok (.putfield 19, 3) := by decide +kernel
theorem dX6_init_19 : decode cX6_init 19 = .ok (.return_, 1) := by decide +kernel
theorem dX6_sendWhileAnyCan_0 : decode cX6_sendWhileAnyCan 0 = .ok (.iconst 0, 1) := by decide +kernel
theorem dX6_sendWhileAnyCan_1 : decode cX6_sendWhileAnyCan 1 = .ok (.istore_n 1, 1) := by decide +kernel
theorem dX6_sendWhileAnyCan_2 : decode cX6_sendWhileAnyCan 2 = .ok (.iload_n 1, 1) := by decide +kernel
theorem dX6_sendWhileAnyCan_3 : decode cX6_sendWhileAnyCan 3 = .ok (.aload_n 0, 1) := by decide +kernel
theorem dX6_sendWhileAnyCan_4 : decode cX6_sendWhileAnyCan 4 = .ok (.getfield 15, 3) := by decide +kernel
theorem dX6_sendWhileAnyCan_7 : decode cX6_sendWhileAnyCan 7 = .ok (.getfield 23, 3) := by decide +kernel
theorem dX6_sendWhileAnyCan_10 : decode cX6_sendWhileAnyCan 10 = .ok (.if_icmp .ge 30, 3) := by decide +kernel
theorem dX6_sendWhileAnyCan_13 : decode cX6_sendWhileAnyCan 13 = .ok (.aload_n 0, 1) := by decide +kernel
theorem dX6_sendWhileAnyCan_14 : decode cX6_sendWhileAnyCan 14 = .ok (.invokevirtual 29, 3) := by decide +kernel
theorem dX6_sendWhileAnyCan_17 : decode cX6_sendWhileAnyCan 17 = .ok (.istore_n 2, 1) := by decide +kernel
theorem dX6_sendWhileAnyCan_18 : decode cX6_sendWhileAnyCan 18 = .ok (.iload_n 2, 1) := by decide +kernel
theorem dX6_sendWhileAnyCan_19 : decode cX6_sendWhileAnyCan 19 = .ok (.iconst (-1), 1) := by decide +kernel
theorem dX6_sendWhileAnyCan_20 : decode cX6_sendWhileAnyCan 20 = .ok (.if_icmp .ne 4, 3) := by decide +kernel
theorem dX6_sendWhileAnyCan_23 : decode cX6_sendWhileAnyCan 23 = .ok (.return_, 1) := by decide +kernel
theorem dX6_sendWhileAnyCan_24 : decode cX6_sendWhileAnyCan 24 = .ok (.aload_n 0, 1) := by decide +kernel
theorem dX6_sendWhileAnyCan_25 : decode cX6_sendWhileAnyCan 25 = .ok (.aload_n 0, 1) := by decide +kernel
theorem dX6_sendWhileAnyCan_26 : decode cX6_sendWhileAnyCan 26 = .ok (.iload_n 2, 1) := by decide +kernel
theorem dX6_sendWhileAnyCan_27 : decode cX6_sendWhileAnyCan 27 = .ok (.invokevirtual 33, 3) := by decide +kernel
theorem dX6_sendWhileAnyCan_30 : decode cX6_sendWhileAnyCan 30 = .ok (.iload_n 2, 1) := by decide +kernel
theorem dX6_sendWhileAnyCan_31 : decode cX6_sendWhileAnyCan 31 = .ok (.invokevirtual 37, 3) := by decide +kernel
theorem dX6_sendWhileAnyCan_34 : decode cX6_sendWhileAnyCan 34 = .ok (.iinc 1 1, 3) := by decide +kernel
theorem dX6_sendWhileAnyCan_37 : decode cX6_sendWhileAnyCan 37 = .ok (.goto (-35), 3) := by decide +kernel
theorem dX6_sendWhileAnyCan_40 : decode cX6_sendWhileAnyCan 40 = .ok (.return_, 1) := by decide +kernel
theorem dX6_sendOne_0 : decode cX6_sendOne 0 = .ok (.iload_n 1, 1) := by decide +kernel
theorem dX6_sendOne_1 : decode cX6_sendOne 1 = .ok (.aload_n 0, 1) := by decide +kernel
theorem dX6_sendOne_2 : decode cX6_sendOne 2 = .ok (.getfield 15, 3) := by decide +kernel
theorem dX6_sendOne_5 : decode cX6_sendOne 5 = .ok (.getfield 23, 3) := by decide +kernel
theorem dX6_sendOne_8 : decode cX6_sendOne 8 = .ok (.invokestatic 41, 3) := by decide +kernel
theorem dX6_sendOne_11 : decode cX6_sendOne 11 = .ok (.ifCond .eq 14, 3) := by decide +kernel
theorem dX6_sendOne_14 : decode cX6_sendOne 14 = .ok (.aload_n 0, 1) := by decide +kernel
theorem dX6_sendOne_15 : decode cX6_sendOne 15 = .ok (.getfield 9, 3) := by decide +kernel
theorem dX6_sendOne_18 : decode cX6_sendOne 18 = .ok (.iload_n 2, 1) := by decide +kernel
theorem dX6_sendOne_19 : decode cX6_sendOne 19 = .ok (.invokevirtual 45, 3) := by decide +kernel
theorem dX6_sendOne_22 : decode cX6_sendOne 22 = .ok (.ifCond .ne 4, 3) := by decide +kernel
theorem dX6_sendOne_25 : decode cX6_sendOne 25 = .ok (.return_, 1) := by decide +kernel
theorem dX6_sendOne_26 : decode cX6_sendOne 26 = .ok (.aload_n 0, 1) := by decide +kernel
theorem dX6_sendOne_27 : decode cX6_sendOne 27 = .ok (.getfield 15, 3) := by decide +kernel
theorem dX6_sendOne_30 : decode cX6_sendOne 30 = .ok (.iload_n 1, 1) := by decide +kernel
theorem dX6_sendOne_31 : decode cX6_sendOne 31 = .ok (.aload_n 0, 1) := by decide +kernel
theorem dX6_sendOne_32 : decode cX6_sendOne 32 = .ok (.getfield 9, 3) := by decide +kernel
theorem dX6_sendOne_35 : decode cX6_sendOne 35 = .ok (.getfield 51, 3) := by decide +kernel
theorem dX6_sendOne_38 : decode cX6_sendOne 38 = .ok (.iload_n 2, 1) := by decide +kernel
theorem dX6_sendOne_39 : decode cX6_sendOne 39 = .ok (.iaload, 1) := by decide +kernel
theorem dX6_sendOne_40 : decode cX6_sendOne 40 = .ok (.aload_n 0, 1) := by decide +kernel
theorem dX6_sendOne_41 : decode cX6_sendOne 41 = .ok (.getfield 9, 3) := by decide +kernel
theorem dX6_sendOne_44 : decode cX6_sendOne 44 = .ok (.getfield 55, 3) := by decide +kernel
theorem dX6_sendOne_47 : decode cX6_sendOne 47 = .ok (.iload_n 2, 1) := by decide +kernel
theorem dX6_sendOne_48 : decode cX6_sendOne 48 = .ok (.iaload, 1) := by decide +kernel
theorem dX6_sendOne_49 : decode cX6_sendOne 49 = .ok (.invokevirtual 58, 3) := by decide +kernel
theorem dX6_sendOne_52 : decode cX6_sendOne 52 = .ok (.istore_n 3, 1) := by decide +kernel
theorem dX6_sendOne_53 : decode cX6_sendOne 53 = .ok (.aload_n 0, 1) := by decide +kernel
theorem dX6_sendOne_54 : decode cX6_sendOne 54 = .ok (.getfield 15, 3) := by decide +kernel
theorem dX6_sendOne_57 : decode cX6_sendOne 57 = .ok (.getfield 62, 3) := by decide +kernel
theorem dX6_sendOne_60 : decode cX6_sendOne 60 = .ok (.iload_n 1, 1) := by decide +kernel
theorem dX6_sendOne_61 : decode cX6_sendOne 61 = .ok (.iload_n 2, 1) := by decide +kernel
theorem dX6_sendOne_62 : decode cX6_sendOne 62 = .ok (.iastore, 1) := by decide +kernel
theorem dX6_sendOne_63 : decode cX6_sendOne 63 = .ok (.aload_n 0, 1) := by decide +kernel
theorem dX6_sendOne_64 : decode cX6_sendOne 64 = .ok (.getfield 15, 3) := by decide +kernel
theorem dX6_sendOne_67 : decode cX6_sendOne 67 = .ok (.getfield 65, 3) := by decide +kernel
theorem dX6_sendOne_70 : decode cX6_sendOne 70 = .ok (.iload_n 1, 1) := by decide +kernel
theorem dX6_sendOne_71 : decode cX6_sendOne 71 = .ok (.aload_n 0, 1) := by decide +kernel
theorem dX6_sendOne_72 : decode cX6_sendOne 72 = .ok (.getfield 68, 3) := by decide +kernel
theorem dX6_sendOne_75 : decode cX6_sendOne 75 = .ok (.iload_n 3, 1) := by decide +kernel
theorem dX6_sendOne_76 : decode cX6_sendOne 76 = .ok (.iadd, 1) := by decide +kernel
theorem dX6_sendOne_77 : decode cX6_sendOne 77 = .ok (.iconst 3, 1) := by decide +kernel
theorem dX6_sendOne_78 : decode cX6_sendOne 78 = .ok (.iadd, 1) := by decide +kernel
theorem dX6_sendOne_79 : decode cX6_sendOne 79 = .ok (.iastore, 1) := by decide +kernel
theorem dX6_sendOne_80 : decode cX6_sendOne 80 = .ok (.aload_n 0, 1) := by decide +kernel
theorem dX6_sendOne_81 : decode cX6_sendOne 81 = .ok (.getfield 15, 3) := by decide +kernel
theorem dX6_sendOne_84 : decode cX6_sendOne 84 = .ok (.getfield 71, 3) := by decide +kernel
theorem dX6_sendOne_87 : decode cX6_sendOne 87 = .ok (.iload_n 1, 1) := by decide +kernel
theorem dX6_sendOne_88 : decode cX6_sendOne 88 = .ok (.dup2, 1) := by decide +kernel
theorem dX6_sendOne_89 : decode cX6_sendOne 89 = .ok (.iaload, 1) := by decide +kernel
theorem dX6_sendOne_90 : decode cX6_sendOne 90 = .ok (.iconst 1, 1) := by decide +kernel
theorem dX6_sendOne_91 : decode cX6_sendOne 91 = .ok (.iadd, 1) := by decide +kernel
theorem dX6_sendOne_92 : decode cX6_sendOne 92 = .ok (.iastore, 1) := by decide +kernel
theorem dX6_sendOne_93 : decode cX6_sendOne 93 = .ok (.aload_n 0, 1) := by decide +kernel
theorem dX6_sendOne_94 : decode cX6_sendOne 94 = .ok (.getfield 19, 3) := by decide +kernel
theorem dX6_sendOne_97 : decode cX6_sendOne 97 = .ok (.iload_n 2, 1) := by decide +kernel
theorem dX6_sendOne_98 : decode cX6_sendOne 98 = .ok (.aload_n 0, 1) := by decide +kernel
theorem dX6_sendOne_99 : decode cX6_sendOne 99 = .ok (.getfield 68, 3) := by decide +kernel
theorem dX6_sendOne_102 : decode cX6_sendOne 102 = .ok (.aload_n 0, 1) := by decide +kernel
theorem dX6_sendOne_103 : decode cX6_sendOne 103 = .ok (.getfield 19, 3) := by decide +kernel
theorem dX6_sendOne_106 : decode cX6_sendOne 106 = .ok (.getfield 74, 3) := by decide +kernel
theorem dX6_sendOne_109 : decode cX6_sendOne 109 = .ok (.iload_n 2, 1) := by decide +kernel
theorem dX6_sendOne_110 : decode cX6_sendOne 110 = .ok (.iaload, 1) := by decide +kernel
theorem dX6_sendOne_111 : decode cX6_sendOne 111 = .ok (.isub, 1) := by decide +kernel
theorem dX6_sendOne_112 : decode cX6_sendOne 112 = .ok (.iload_n 3, 1) := by decide +kernel
theorem dX6_sendOne_113 : decode cX6_sendOne 113 = .ok (.iadd, 1) := by decide +kernel
theorem dX6_sendOne_114 : decode cX6_sendOne 114 = .ok (.invokevirtual 79, 3) := by decide +kernel
theorem dX6_sendOne_117 : decode cX6_sendOne 117 = .ok (.return_, 1) := by decide +kernel
theorem dX6_nextTick_0 : decode cX6_nextTick 0 = .ok (.aload_n 0, 1) := by decide +kernel
theorem dX6_nextTick_1 : decode cX6_nextTick 1 = .ok (.dup, 1) := by decide +kernel
theorem dX6_nextTick_2 : decode cX6_nextTick 2 = .ok (.getfield 68, 3) := by decide +kernel
theorem dX6_nextTick_5 : decode cX6_nextTick 5 = .ok (.iconst 1, 1) := by decide +kernel
theorem dX6_nextTick_6 : decode cX6_nextTick 6 = .ok (.iadd, 1) := by decide +kernel
theorem dX6_nextTick_7 : decode cX6_nextTick 7 = .ok (.putfield 68, 3) := by decide +kernel
theorem dX6_nextTick_10 : decode cX6_nextTick 10 = .ok (.iconst 0, 1) := by decide +kernel
theorem dX6_nextTick_11 : decode cX6_nextTick 11 = .ok (.istore_n 1, 1) := by decide +kernel
theorem dX6_nextTick_12 : decode cX6_nextTick 12 = .ok (.iload_n 1, 1) := by decide +kernel
theorem dX6_nextTick_13 : decode cX6_nextTick 13 = .ok (.aload_n 0, 1) := by decide +kernel
theorem dX6_nextTick_14 : decode cX6_nextTick 14 = .ok (.getfield 15, 3) := by decide +kernel
theorem dX6_nextTick_17 : decode cX6_nextTick 17 = .ok (.getfield 23, 3) := by decide +kernel
theorem dX6_nextTick_20 : decode cX6_nextTick 20 = .ok (.if_icmp .ge 41, 3) := by decide +kernel
theorem dX6_nextTick_23 : decode cX6_nextTick 23 = .ok (.aload_n 0, 1) := by decide +kernel
theorem dX6_nextTick_24 : decode cX6_nextTick 24 = .ok (.getfield 15, 3) := by decide +kernel
theorem dX6_nextTick_27 : decode cX6_nextTick 27 = .ok (.iload_n 1, 1) := by decide +kernel
theorem dX6_nextTick_28 : decode cX6_nextTick 28 = .ok (.invokevirtual 82, 3) := by decide +kernel
theorem dX6_nextTick_31 : decode cX6_nextTick 31 = .ok (.ifCond .ne 24, 3) := by decide +kernel
theorem dX6_nextTick_34 : decode cX6_nextTick 34 = .ok (.aload_n 0, 1) := by decide +kernel
theorem dX6_nextTick_35 : decode cX6_nextTick 35 = .ok (.getfield 15, 3) := by decide +kernel
theorem dX6_nextTick_38 : decode cX6_nextTick 38 = .ok (.getfield 65, 3) := by decide +kernel
theorem dX6_nextTick_41 : decode cX6_nextTick 41 = .ok (.iload_n 1, 1) := by decide +kernel
theorem dX6_nextTick_42 : decode cX6_nextTick 42 = .ok (.iaload, 1) := by decide +kernel
theorem dX6_nextTick_43 : decode cX6_nextTick 43 = .ok (.aload_n 0, 1) := by decide +kernel
theorem dX6_nextTick_44 : decode cX6_nextTick 44 = .ok (.getfield 68, 3) := by decide +kernel
theorem dX6_nextTick_47 : decode cX6_nextTick 47 = .ok (.if_icmp .gt 8, 3) := by decide +kernel
theorem dX6_nextTick_50 : decode cX6_nextTick 50 = .ok (.aload_n 0, 1) := by decide +kernel
theorem dX6_nextTick_51 : decode cX6_nextTick 51 = .ok (.iload_n 1, 1) := by decide +kernel
theorem dX6_nextTick_52 : decode cX6_nextTick 52 = .ok (.invokevirtual 85, 3) := by decide +kernel
theorem dX6_nextTick_55 : decode cX6_nextTick 55 = .ok (.iinc 1 1, 3) := by decide +kernel
theorem dX6_nextTick_58 : decode cX6_nextTick 58 = .ok (.goto (-46), 3) := by decide +kernel
theorem dX6_nextTick_61 : decode cX6_nextTick 61 = .ok (.return_, 1) := by decide +kernel
theorem dX6_endErrand_0 : decode cX6_endErrand 0 = .ok (.aload_n 0, 1) := by decide +kernel
theorem dX6_endErrand_1 : decode cX6_endErrand 1 = .ok (.getfield 15, 3) := by decide +kernel
theorem dX6_endErrand_4 : decode cX6_endErrand 4 = .ok (.getfield 62, 3) := by decide +kernel
theorem dX6_endErrand_7 : decode cX6_endErrand 7 = .ok (.iload_n 1, 1) := by decide +kernel
theorem dX6_endErrand_8 : decode cX6_endErrand 8 = .ok (.iaload, 1) := by decide +kernel
theorem dX6_endErrand_9 : decode cX6_endErrand 9 = .ok (.istore_n 2, 1) := by decide +kernel
theorem dX6_endErrand_10 : decode cX6_endErrand 10 = .ok (.aload_n 0, 1) := by decide +kernel
theorem dX6_endErrand_11 : decode cX6_endErrand 11 = .ok (.getfield 9, 3) := by decide +kernel
theorem dX6_endErrand_14 : decode cX6_endErrand 14 = .ok (.iload_n 2, 1) := by decide +kernel
theorem dX6_endErrand_15 : decode cX6_endErrand 15 = .ok (.invokevirtual 45, 3) := by decide +kernel
theorem dX6_endErrand_18 : decode cX6_endErrand 18 = .ok (.ifCond .ne 4, 3) := by decide +kernel
theorem dX6_endErrand_21 : decode cX6_endErrand 21 = .ok (.return_, 1) := by decide +kernel
theorem dX6_endErrand_22 : decode cX6_endErrand 22 = .ok (.aload_n 0, 1) := by decide +kernel
theorem dX6_endErrand_23 : decode cX6_endErrand 23 = .ok (.getfield 15, 3) := by decide +kernel
theorem dX6_endErrand_26 : decode cX6_endErrand 26 = .ok (.getfield 62, 3) := by decide +kernel
theorem dX6_endErrand_29 : decode cX6_endErrand 29 = .ok (.iload_n 1, 1) := by decide +kernel
theorem dX6_endErrand_30 : decode cX6_endErrand 30 = .ok (.bipush (-4), 2) := by decide +kernel
theorem dX6_endErrand_32 : decode cX6_endErrand 32 = .ok (.iastore, 1) := by decide +kernel
theorem dX6_endErrand_33 : decode cX6_endErrand 33 = .ok (.aload_n 0, 1) := by decide +kernel
theorem dX6_endErrand_34 : decode cX6_endErrand 34 = .ok (.getfield 15, 3) := by decide +kernel
theorem dX6_endErrand_37 : decode cX6_endErrand 37 = .ok (.getfield 89, 3) := by decide +kernel
theorem dX6_endErrand_40 : decode cX6_endErrand 40 = .ok (.iload_n 1, 1) := by decide +kernel
theorem dX6_endErrand_41 : decode cX6_endErrand 41 = .ok (.aload_n 0, 1) := by decide +kernel
theorem dX6_endErrand_42 : decode cX6_endErrand 42 = .ok (.getfield 9, 3) := by decide +kernel
theorem dX6_endErrand_45 : decode cX6_endErrand 45 = .ok (.getfield 51, 3) := by decide +kernel
theorem dX6_endErrand_48 : decode cX6_endErrand 48 = .ok (.iload_n 2, 1) := by decide +kernel
theorem dX6_endErrand_49 : decode cX6_endErrand 49 = .ok (.iaload, 1) := by decide +kernel
theorem dX6_endErrand_50 : decode cX6_endErrand 50 = .ok (.iastore, 1) := by decide +kernel
theorem dX6_endErrand_51 : decode cX6_endErrand 51 = .ok (.aload_n 0, 1) := by decide +kernel
theorem dX6_endErrand_52 : decode cX6_endErrand 52 = .ok (.getfield 15, 3) := by decide +kernel
theorem dX6_endErrand_55 : decode cX6_endErrand 55 = .ok (.getfield 90, 3) := by decide +kernel
theorem dX6_endErrand_58 : decode cX6_endErrand 58 = .ok (.iload_n 1, 1) := by decide +kernel
theorem dX6_endErrand_59 : decode cX6_endErrand 59 = .ok (.aload_n 0, 1) := by decide +kernel
theorem dX6_endErrand_60 : decode cX6_endErrand 60 = .ok (.getfield 9, 3) := by decide +kernel
theorem dX6_endErrand_63 : decode cX6_endErrand 63 = .ok (.getfield 55, 3) := by decide +kernel
theorem dX6_endErrand_66 : decode cX6_endErrand 66 = .ok (.iload_n 2, 1) := by decide +kernel
theorem dX6_endErrand_67 : decode cX6_endErrand 67 = .ok (.iaload, 1) := by decide +kernel
theorem dX6_endErrand_68 : decode cX6_endErrand 68 = .ok (.iastore, 1) := by decide +kernel
theorem dX6_endErrand_69 : decode cX6_endErrand 69 = .ok (.aload_n 0, 1) := by decide +kernel
theorem dX6_endErrand_70 : decode cX6_endErrand 70 = .ok (.getfield 19, 3) := by decide +kernel
theorem dX6_endErrand_73 : decode cX6_endErrand 73 = .ok (.iload_n 2, 1) := by decide +kernel
theorem dX6_endErrand_74 : decode cX6_endErrand 74 = .ok (.invokevirtual 91, 3) := by decide +kernel
theorem dX6_endErrand_77 : decode cX6_endErrand 77 = .ok (.return_, 1) := by decide +kernel
theorem dX6_firstThatCanBeServed_0 : decode cX6_firstThatCanBeServed 0 = .ok (.iconst (-1), 1) := by decide +kernel
theorem dX6_firstThatCanBeServed_1 : decode cX6_firstThatCanBeServed 1 = .ok (.istore_n 1, 1) := by decide +kernel
theorem dX6_firstThatCanBeServed_2 : decode cX6_firstThatCanBeServed 2 = .ok (.iconst 0, 1) := by decide +kernel
theorem dX6_firstThatCanBeServed_3 : decode cX6_firstThatCanBeServed 3 = .ok (.istore_n 2, 1) := by decide +kernel
theorem dX6_firstThatCanBeServed_4 : decode cX6_firstThatCanBeServed 4 = .ok (.iload_n 2, 1) := by decide +kernel
theorem dX6_firstThatCanBeServed_5 : decode cX6_firstThatCanBeServed 5 = .ok (.aload_n 0, 1) := by decide +kernel
theorem dX6_firstThatCanBeServed_6 : decode cX6_firstThatCanBeServed 6 = .ok (.getfield 9, 3) := by decide +kernel
theorem dX6_firstThatCanBeServed_9 : decode cX6_firstThatCanBeServed 9 = .ok (.getfield 92, 3) := by decide +kernel
theorem dX6_firstThatCanBeServed_12 : decode cX6_firstThatCanBeServed 12 = .ok (.if_icmp .ge 45, 3) := by decide +kernel
theorem dX6_firstThatCanBeServed_15 : decode cX6_firstThatCanBeServed 15 = .ok (.aload_n 0, 1) := by decide +kernel
theorem dX6_firstThatCanBeServed_16 : decode cX6_firstThatCanBeServed 16 = .ok (.getfield 19, 3) := by decide +kernel
theorem dX6_firstThatCanBeServed_19 : decode cX6_firstThatCanBeServed 19 = .ok (.iload_n 2, 1) := by decide +kernel
theorem dX6_firstThatCanBeServed_20 : decode cX6_firstThatCanBeServed 20 = .ok (.invokevirtual 93, 3) := by decide +kernel
theorem dX6_firstThatCanBeServed_23 : decode cX6_firstThatCanBeServed 23 = .ok (.ifCond .eq 28, 3) := by decide +kernel
theorem dX6_firstThatCanBeServed_26 : decode cX6_firstThatCanBeServed 26 = .ok (.iload_n 1, 1) := by decide +kernel
theorem dX6_firstThatCanBeServed_27 : decode cX6_firstThatCanBeServed 27 = .ok (.iconst (-1), 1) := by decide +kernel
theorem dX6_firstThatCanBeServed_28 : decode cX6_firstThatCanBeServed 28 = .ok (.if_icmp .eq 12, 3) := by decide +kernel
theorem dX6_firstThatCanBeServed_31 : decode cX6_firstThatCanBeServed 31 = .ok (.aload_n 0, 1) := by decide +kernel
theorem dX6_firstThatCanBeServed_32 : decode cX6_firstThatCanBeServed 32 = .ok (.iload_n 2, 1) := by decide +kernel
theorem dX6_firstThatCanBeServed_33 : decode cX6_firstThatCanBeServed 33 = .ok (.iload_n 1, 1) := by decide +kernel
theorem dX6_firstThatCanBeServed_34 : decode cX6_firstThatCanBeServed 34 = .ok (.invokevirtual 96, 3) := by decide +kernel
theorem dX6_firstThatCanBeServed_37 : decode cX6_firstThatCanBeServed 37 = .ok (.ifCond .eq 14, 3) := by decide +kernel
theorem dX6_firstThatCanBeServed_40 : decode cX6_firstThatCanBeServed 40 = .ok (.aload_n 0, 1) := by decide +kernel
theorem dX6_firstThatCanBeServed_41 : decode cX6_firstThatCanBeServed 41 = .ok (.iload_n 2, 1) := by decide +kernel
theorem dX6_firstThatCanBeServed_42 : decode cX6_firstThatCanBeServed 42 = .ok (.invokevirtual 33, 3) := by decide +kernel
theorem dX6_firstThatCanBeServed_45 : decode cX6_firstThatCanBeServed 45 = .ok (.iconst (-1), 1) := by decide +kernel
theorem dX6_firstThatCanBeServed_46 : decode cX6_firstThatCanBeServed 46 = .ok (.if_icmp .eq 5, 3) := by decide +kernel
theorem dX6_firstThatCanBeServed_49 : decode cX6_firstThatCanBeServed 49 = .ok (.iload_n 2, 1) := by decide +kernel
theorem dX6_firstThatCanBeServed_50 : decode cX6_firstThatCanBeServed 50 = .ok (.istore_n 1, 1) := by decide +kernel
theorem dX6_firstThatCanBeServed_51 : decode cX6_firstThatCanBeServed 51 = .ok (.iinc 2 1, 3) := by decide +kernel
theorem dX6_firstThatCanBeServed_54 : decode cX6_firstThatCanBeServed 54 = .ok (.goto (-50), 3) := by decide +kernel
theorem dX6_firstThatCanBeServed_57 : decode cX6_firstThatCanBeServed 57 = .ok (.iload_n 1, 1) := by decide +kernel
theorem dX6_firstThatCanBeServed_58 : decode cX6_firstThatCanBeServed 58 = .ok (.ireturn, 1) := by decide +kernel
theorem dX6_goesBefore_0 : decode cX6_goesBefore 0 = .ok (.aload_n 0, 1) := by decide +kernel
theorem dX6_goesBefore_1 : decode cX6_goesBefore 1 = .ok (.getfield 9, 3) := by decide +kernel
theorem dX6_goesBefore_4 : decode cX6_goesBefore 4 = .ok (.getfield 99, 3) := by decide +kernel
theorem dX6_goesBefore_7 : decode cX6_goesBefore 7 = .ok (.iload_n 1, 1) := by decide +kernel
theorem dX6_goesBefore_8 : decode cX6_goesBefore 8 = .ok (.iaload, 1) := by decide +kernel
theorem dX6_goesBefore_9 : decode cX6_goesBefore 9 = .ok (.aload_n 0, 1) := by decide +kernel
theorem dX6_goesBefore_10 : decode cX6_goesBefore 10 = .ok (.getfield 9, 3) := by decide +kernel
theorem dX6_goesBefore_13 : decode cX6_goesBefore 13 = .ok (.getfield 99, 3) := by decide +kernel
theorem dX6_goesBefore_16 : decode cX6_goesBefore 16 = .ok (.iload_n 2, 1) := by decide +kernel
theorem dX6_goesBefore_17 : decode cX6_goesBefore 17 = .ok (.iaload, 1) := by decide +kernel
theorem dX6_goesBefore_18 : decode cX6_goesBefore 18 = .ok (.if_icmp .eq 30, 3) := by decide +kernel
theorem dX6_goesBefore_21 : decode cX6_goesBefore 21 = .ok (.aload_n 0, 1) := by decide +kernel
theorem dX6_goesBefore_22 : decode cX6_goesBefore 22 = .ok (.getfield 9, 3) := by decide +kernel
theorem dX6_goesBefore_25 : decode cX6_goesBefore 25 = .ok (.getfield 99, 3) := by decide +kernel
theorem dX6_goesBefore_28 : decode cX6_goesBefore 28 = .ok (.iload_n 1, 1) := by decide +kernel
theorem dX6_goesBefore_29 : decode cX6_goesBefore 29 = .ok (.iaload, 1) := by decide +kernel
theorem dX6_goesBefore_30 : decode cX6_goesBefore 30 = .ok (.aload_n 0, 1) := by decide +kernel
theorem dX6_goesBefore_31 : decode cX6_goesBefore 31 = .ok (.getfield 9, 3) := by decide +kernel
theorem dX6_goesBefore_34 : decode cX6_goesBefore 34 = .ok (.getfield 99, 3) := by decide +kernel
theorem dX6_goesBefore_37 : decode cX6_goesBefore 37 = .ok (.iload_n 2, 1) := by decide +kernel
theorem dX6_goesBefore_38 : decode cX6_goesBefore 38 = .ok (.iaload, 1) := by decide +kernel
theorem dX6_goesBefore_39 : decode cX6_goesBefore 39 = .ok (.if_icmp .le 7, 3) := by decide +kernel
theorem dX6_goesBefore_42 : decode cX6_goesBefore 42 = .ok (.iconst 1, 1) := by decide +kernel
theorem dX6_goesBefore_43 : decode cX6_goesBefore 43 = .ok (.goto 4, 3) := by decide +kernel
theorem dX6_goesBefore_46 : decode cX6_goesBefore 46 = .ok (.iconst 0, 1) := by decide +kernel
theorem dX6_goesBefore_47 : decode cX6_goesBefore 47 = .ok (.ireturn, 1) := by decide +kernel
theorem dX6_goesBefore_48 : decode cX6_goesBefore 48 = .ok (.aload_n 0, 1) := by decide +kernel
theorem dX6_goesBefore_49 : decode cX6_goesBefore 49 = .ok (.getfield 19, 3) := by decide +kernel
theorem dX6_goesBefore_52 : decode cX6_goesBefore 52 = .ok (.getfield 74, 3) := by decide +kernel
theorem dX6_goesBefore_55 : decode cX6_goesBefore 55 = .ok (.iload_n 1, 1) := by decide +kernel
theorem dX6_goesBefore_56 : decode cX6_goesBefore 56 = .ok (.iaload, 1) := by decide +kernel
theorem dX6_goesBefore_57 : decode cX6_goesBefore 57 = .ok (.aload_n 0, 1) := by decide +kernel
theorem dX6_goesBefore_58 : decode cX6_goesBefore 58 = .ok (.getfield 19, 3) := by decide +kernel
theorem dX6_goesBefore_61 : decode cX6_goesBefore 61 = .ok (.getfield 74, 3) := by decide +kernel
theorem dX6_goesBefore_64 : decode cX6_goesBefore 64 = .ok (.iload_n 2, 1) := by decide +kernel
theorem dX6_goesBefore_65 : decode cX6_goesBefore 65 = .ok (.iaload, 1) := by decide +kernel
theorem dX6_goesBefore_66 : decode cX6_goesBefore 66 = .ok (.if_icmp .ge 7, 3) := by decide +kernel
theorem dX6_goesBefore_69 : decode cX6_goesBefore 69 = .ok (.iconst 1, 1) := by decide +kernel
theorem dX6_goesBefore_70 : decode cX6_goesBefore 70 = .ok (.goto 4, 3) := by decide +kernel
theorem dX6_goesBefore_73 : decode cX6_goesBefore 73 = .ok (.iconst 0, 1) := by decide +kernel
theorem dX6_goesBefore_74 : decode cX6_goesBefore 74 = .ok (.ireturn, 1) := by decide +kernel
theorem dX6_nearestServant_0 : decode cX6_nearestServant 0 = .ok (.iconst (-1), 1) := by decide +kernel
theorem dX6_nearestServant_1 : decode cX6_nearestServant 1 = .ok (.istore_n 2, 1) := by decide +kernel
theorem dX6_nearestServant_2 : decode cX6_nearestServant 2 = .ok (.iconst 0, 1) := by decide +kernel
theorem dX6_nearestServant_3 : decode cX6_nearestServant 3 = .ok (.istore_n 3, 1) := by decide +kernel
theorem dX6_nearestServant_4 : decode cX6_nearestServant 4 = .ok (.iconst 0, 1) := by decide +kernel
theorem dX6_nearestServant_5 : decode cX6_nearestServant 5 = .ok (.istore 4, 2) := by decide +kernel
theorem dX6_nearestServant_7 : decode cX6_nearestServant 7 = .ok (.iload 4, 2) := by decide +kernel
theorem dX6_nearestServant_9 : decode cX6_nearestServant 9 = .ok (.aload_n 0, 1) := by decide +kernel
theorem dX6_nearestServant_10 : decode cX6_nearestServant 10 = .ok (.getfield 15, 3) := by decide +kernel
theorem dX6_nearestServant_13 : decode cX6_nearestServant 13 = .ok (.getfield 23, 3) := by decide +kernel
theorem dX6_nearestServant_16 : decode cX6_nearestServant 16 = .ok (.if_icmp .ge 76, 3) := by decide +kernel
theorem dX6_nearestServant_19 : decode cX6_nearestServant 19 = .ok (.aload_n 0, 1) := by decide +kernel
theorem dX6_nearestServant_20 : decode cX6_nearestServant 20 = .ok (.getfield 15, 3) := by decide +kernel
theorem dX6_nearestServant_23 : decode cX6_nearestServant 23 = .ok (.iload 4, 2) := by decide +kernel
theorem dX6_nearestServant_25 : decode cX6_nearestServant 25 = .ok (.aload_n 0, 1) := by decide +kernel
theorem dX6_nearestServant_26 : decode cX6_nearestServant 26 = .ok (.getfield 9, 3) := by decide +kernel
theorem dX6_nearestServant_29 : decode cX6_nearestServant 29 = .ok (.getfield 99, 3) := by decide +kernel
theorem dX6_nearestServant_32 : decode cX6_nearestServant 32 = .ok (.iload_n 1, 1) := by decide +kernel
theorem dX6_nearestServant_33 : decode cX6_nearestServant 33 = .ok (.iaload, 1) := by decide +kernel
theorem dX6_nearestServant_34 : decode cX6_nearestServant 34 = .ok (.invokevirtual 102, 3) := by decide +kernel
theorem dX6_nearestServant_37 : decode cX6_nearestServant 37 = .ok (.ifCond .eq 49, 3) := by decide +kernel
theorem dX6_nearestServant_40 : decode cX6_nearestServant 40 = .ok (.aload_n 0, 1) := by decide +kernel
theorem dX6_nearestServant_41 : decode cX6_nearestServant 41 = .ok (.getfield 15, 3) := by decide +kernel
theorem dX6_nearestServant_44 : decode cX6_nearestServant 44 = .ok (.iload 4, 2) := by decide +kernel
theorem dX6_nearestServant_46 : decode cX6_nearestServant 46 = .ok (.aload_n 0, 1) := by decide +kernel
theorem dX6_nearestServant_47 : decode cX6_nearestServant 47 = .ok (.getfield 9, 3) := by decide +kernel
theorem dX6_nearestServant_50 : decode cX6_nearestServant 50 = .ok (.getfield 51, 3) := by decide +kernel
theorem dX6_nearestServant_53 : decode cX6_nearestServant 53 = .ok (.iload_n 1, 1) := by decide +kernel
theorem dX6_nearestServant_54 : decode cX6_nearestServant 54 = .ok (.iaload, 1) := by decide +kernel
theorem dX6_nearestServant_55 : decode cX6_nearestServant 55 = .ok (.aload_n 0, 1) := by decide +kernel
theorem dX6_nearestServant_56 : decode cX6_nearestServant 56 = .ok (.getfield 9, 3) := by decide +kernel
theorem dX6_nearestServant_59 : decode cX6_nearestServant 59 = .ok (.getfield 55, 3) := by decide +kernel
theorem dX6_nearestServant_62 : decode cX6_nearestServant 62 = .ok (.iload_n 1, 1) := by decide +kernel
theorem dX6_nearestServant_63 : decode cX6_nearestServant 63 = .ok (.iaload, 1) := by decide +kernel
theorem dX6_nearestServant_64 : decode cX6_nearestServant 64 = .ok (.invokevirtual 58, 3) := by decide +kernel
theorem dX6_nearestServant_67 : decode cX6_nearestServant 67 = .ok (.istore 5, 2) := by decide +kernel
theorem dX6_nearestServant_69 : decode cX6_nearestServant 69 = .ok (.iload_n 2, 1) := by decide +kernel
theorem dX6_nearestServant_70 : decode cX6_nearestServant 70 = .ok (.iconst (-1), 1) := by decide +kernel
theorem dX6_nearestServant_71 : decode cX6_nearestServant 71 = .ok (.if_icmp .eq 9, 3) := by decide +kernel
theorem dX6_nearestServant_74 : decode cX6_nearestServant 74 = .ok (.iload 5, 2) := by decide +kernel
theorem dX6_nearestServant_76 : decode cX6_nearestServant 76 = .ok (.iload_n 3, 1) := by decide +kernel
theorem dX6_nearestServant_77 : decode cX6_nearestServant 77 = .ok (.if_icmp .ge 9, 3) := by decide +kernel
theorem dX6_nearestServant_80 : decode cX6_nearestServant 80 = .ok (.iload 4, 2) := by decide +kernel
theorem dX6_nearestServant_82 : decode cX6_nearestServant 82 = .ok (.istore_n 2, 1) := by decide +kernel
theorem dX6_nearestServant_83 : decode cX6_nearestServant 83 = .ok (.iload 5, 2) := by decide +kernel
theorem dX6_nearestServant_85 : decode cX6_nearestServant 85 = .ok (.istore_n 3, 1) := by decide +kernel
theorem dX6_nearestServant_86 : decode cX6_nearestServant 86 = .ok (.iinc 4 1, 3) := by decide +kernel
theorem dX6_nearestServant_89 : decode cX6_nearestServant 89 = .ok (.goto (-82), 3) := by decide +kernel
theorem dX6_nearestServant_92 : decode cX6_nearestServant 92 = .ok (.iload_n 2, 1) := by decide +kernel
theorem dX6_nearestServant_93 : decode cX6_nearestServant 93 = .ok (.ireturn, 1) := by decide +kernel
theorem dX7_init_0 : decode cX7_init 0 = .ok (.aload_n 0, 1) := by decide +kernel
theorem dX7_init_1 : decode cX7_init 1 = .ok (.invokespecial 3, 3) := by decide +kernel
theorem dX7_init_4 : decode cX7_init 4 = .ok (.aload_n 0, 1) := by decide +kernel
theorem dX7_init_5 : decode cX7_init 5 = .ok (.iconst 4, 1) := by decide +kernel
theorem dX7_init_6 : decode cX7_init 6 = .ok (.newarray .int, 2) := by decide +kernel
theorem dX7_init_8 : decode cX7_init 8 = .ok (.putfield 9, 3) := by decide +kernel
theorem dX7_init_11 : decode cX7_init 11 = .ok (.aload_n 0, 1) := by decide +kernel
theorem dX7_init_12 : decode cX7_init 12 = .ok (.iconst 4, 1) := by decide +kernel
theorem dX7_init_13 : decode cX7_init 13 = .ok (.newarray .int, 2) := by decide +kernel
theorem dX7_init_15 : decode cX7_init 15 = .ok (.putfield 15, 3) := by decide +kernel
theorem dX7_init_18 : decode cX7_init 18 = .ok (.aload_n 0, 1) := by decide +kernel
theorem dX7_init_19 : decode cX7_init 19 = .ok (.iconst 4, 1) := by decide +kernel
theorem dX7_init_20 : decode cX7_init 20 = .ok (.newarray .int, 2) := by decide +kernel
theorem dX7_init_22 : decode cX7_init 22 = .ok (.putfield 18, 3) := by decide +kernel
theorem dX7_init_25 : decode cX7_init 25 = .ok (.aload_n 0, 1) := by decide +kernel
theorem dX7_init_26 : decode cX7_init 26 = .ok (.aload_n 1, 1) := by decide +kernel
theorem dX7_init_27 : decode cX7_init 27 = .ok (.putfield 21, 3) := by decide +kernel
theorem dX7_init_30 : decode cX7_init 30 = .ok (.aload_n 0, 1) := by decide +kernel
theorem dX7_init_31 : decode cX7_init 31 = .ok (.aload_n 2, 1) := by decide +kernel
theorem dX7_init_32 : decode cX7_init 32 = .ok (.putfield 25, 3) := by decide +kernel
theorem dX7_init_35 : decode cX7_init 35 = .ok (.aload_n 0, 1) := by decide +kernel
theorem dX7_init_36 : decode cX7_init 36 = .ok (.aload_n 3, 1) := by decide +kernel
theorem dX7_init_37 : decode cX7_init 37 = .ok (.putfield 29, 3) := by decide +kernel
theorem dX7_init_40 : decode cX7_init 40 = .ok (.return_, 1) := by decide +kernel
theorem dX7_findBest_0 : decode cX7_findBest 0 = .ok (.aload_n 0, 1) := by decide +kernel
theorem dX7_findBest_1 : decode cX7_findBest 1 = .ok (.iconst 0, 1) := by decide +kernel
theorem dX7_findBest_2 : decode cX7_findBest 2 = .ok (.putfield 33, 3) := by decide +kernel
theorem dX7_findBest_5 : decode cX7_findBest 5 = .ok (.iconst 0, 1) := by decide +kernel
theorem dX7_findBest_6 : decode cX7_findBest 6 = .ok (.istore_n 1, 1) := by decide +kernel
theorem dX7_findBest_7 : decode cX7_findBest 7 = .ok (.iload_n 1, 1) := by decide +kernel
theorem dX7_findBest_8 : decode cX7_findBest 8 = .ok (.aload_n 0, 1) := by decide +kernel
theorem dX7_findBest_9 : decode cX7_findBest 9 = .ok (.getfield 21, 3) := by decide +kernel
theorem dX7_findBest_12 : decode cX7_findBest 12 = .ok (.getfield 37, 3) := by decide +kernel
theorem dX7_findBest_15 : decode cX7_findBest 15 = .ok (.if_icmp .ge 48, 3) := by decide +kernel
theorem dX7_findBest_18 : decode cX7_findBest 18 = .ok (.aload_n 0, 1) := by decide +kernel
theorem dX7_findBest_19 : decode cX7_findBest 19 = .ok (.getfield 29, 3) := by decide +kernel
theorem dX7_findBest_22 : decode cX7_findBest 22 = .ok (.iload_n 1, 1) := by decide +kernel
theorem dX7_findBest_23 : decode cX7_findBest 23 = .ok (.invokevirtual 40, 3) := by decide +kernel
theorem dX7_findBest_26 : decode cX7_findBest 26 = .ok (.ifCond .eq 31, 3) := by decide +kernel
theorem dX7_findBest_29 : decode cX7_findBest 29 = .ok (.aload_n 0, 1) := by decide +kernel
theorem dX7_findBest_30 : decode cX7_findBest 30 = .ok (.getfield 33, 3) := by decide +kernel
theorem dX7_findBest_33 : decode cX7_findBest 33 = .ok (.iconst 4, 1) := by decide +kernel
theorem dX7_findBest_34 : decode cX7_findBest 34 = .ok (.if_icmp .ge 23, 3) := by decide +kernel
theorem dX7_findBest_37 : decode cX7_findBest 37 = .ok (.aload_n 0, 1) := by decide +kernel
theorem dX7_findBest_38 : decode cX7_findBest 38 = .ok (.getfield 9, 3) := by decide +kernel
theorem dX7_findBest_41 : decode cX7_findBest 41 = .ok (.aload_n 0, 1) := by decide +kernel
theorem dX7_findBest_42 : decode cX7_findBest 42 = .ok (.getfield 33, 3) := by decide +kernel
theorem dX7_findBest_45 : decode cX7_findBest 45 = .ok (.iload_n 1, 1) := by decide +kernel
theorem dX7_findBest_46 : decode cX7_findBest 46 = .ok (.iastore, 1) := by decide +kernel
theorem dX7_findBest_47 : decode cX7_findBest 47 = .ok (.aload_n 0, 1) := by decide +kernel
theorem dX7_findBest_48 : decode cX7_findBest 48 = .ok (.dup, 1) := by decide +kernel
theorem dX7_findBest_49 : decode cX7_findBest 49 = .ok (.getfield 33, 3) := by decide +kernel
theorem dX7_findBest_52 : decode cX7_findBest 52 = .ok (.iconst 1, 1) := by decide +kernel
theorem dX7_findBest_53 : decode cX7_findBest 53 = .ok (.iadd, 1) := by decide +kernel
theorem dX7_findBest_54 : decode cX7_findBest 54 = .ok (.putfield 33, 3) := by decide +kernel
theorem dX7_findBest_57 : decode cX7_findBest 57 = .ok (.iinc 1 1, 3) := by decide +kernel
theorem dX7_findBest_60 : decode cX7_findBest 60 = .ok (.goto (-53), 3) := by decide +kernel
theorem dX7_findBest_63 : decode cX7_findBest 63 = .ok (.aload_n 0, 1) := by decide +kernel
theorem dX7_findBest_64 : decode cX7_findBest 64 = .ok (.ldc 48, 2) := by decide +kernel
theorem dX7_findBest_66 : decode cX7_findBest 66 = .ok (.putfield 49, 3) := by decide +kernel
theorem dX7_findBest_69 : decode cX7_findBest 69 = .ok (.aload_n 0, 1) := by decide +kernel
theorem dX7_findBest_70 : decode cX7_findBest 70 = .ok (.iconst 0, 1) := by decide +kernel
theorem dX7_findBest_71 : decode cX7_findBest 71 = .ok (.iconst 0, 1) := by decide +kernel
theorem dX7_findBest_72 : decode cX7_findBest 72 = .ok (.iconst 0, 1) := by decide +kernel
theorem dX7_findBest_73 : decode cX7_findBest 73 = .ok (.invokestatic 52, 3) := by decide +kernel
theorem dX7_findBest_76 : decode cX7_findBest 76 = .ok (.return_, 1) := by decide +kernel
theorem dX7_servantFor_0 : decode cX7_servantFor 0 = .ok (.iconst 0, 1) := by decide +kernel
theorem dX7_servantFor_1 : decode cX7_servantFor 1 = .ok (.istore_n 2, 1) := by decide +kernel
theorem dX7_servantFor_2 : decode cX7_servantFor 2 = .ok (.iload_n 2, 1) := by decide +kernel
theorem dX7_servantFor_3 : decode cX7_servantFor 3 = .ok (.aload_n 0, 1) := by decide +kernel
theorem dX7_servantFor_4 : decode cX7_servantFor 4 = .ok (.getfield 33, 3) := by decide +kernel
theorem dX7_servantFor_7 : decode cX7_servantFor 7 = .ok (.if_icmp .ge 36, 3) := by decide +kernel
theorem dX7_servantFor_10 : decode cX7_servantFor 10 = .ok (.aload_n 0, 1) := by decide +kernel
theorem dX7_servantFor_11 : decode cX7_servantFor 11 = .ok (.getfield 9, 3) := by decide +kernel
theorem dX7_servantFor_14 : decode cX7_servantFor 14 = .ok (.iload_n 2, 1) := by decide +kernel
theorem dX7_servantFor_15 : decode cX7_servantFor 15 = .ok (.iaload, 1) := by decide +kernel
theorem dX7_servantFor_16 : decode cX7_servantFor 16 = .ok (.iload_n 1, 1) := by decide +kernel
theorem dX7_servantFor_17 : decode cX7_servantFor 17 = .ok (.if_icmp .ne 20, 3) := by decide +kernel
theorem dX7_servantFor_20 : decode cX7_servantFor 20 = .ok (.aload_n 0, 1) := by decide +kernel
theorem dX7_servantFor_21 : decode cX7_servantFor 21 = .ok (.getfield 15, 3) := by decide +kernel
theorem dX7_servantFor_24 : decode cX7_servantFor 24 = .ok (.iload_n 2, 1) := by decide +kernel
theorem dX7_servantFor_25 : decode cX7_servantFor 25 = .ok (.iaload, 1) := by decide +kernel
theorem dX7_servantFor_26 : decode cX7_servantFor 26 = .ok (.iconst 5, 1) := by decide +kernel
theorem dX7_servantFor_27 : decode cX7_servantFor 27 = .ok (.if_icmp .eq 10, 3) := by decide +kernel
theorem dX7_servantFor_30 : decode cX7_servantFor 30 = .ok (.aload_n 0, 1) := by decide +kernel
theorem dX7_servantFor_31 : decode cX7_servantFor 31 = .ok (.getfield 15, 3) := by decide +kernel
theorem dX7_servantFor_34 : decode cX7_servantFor 34 = .ok (.iload_n 2, 1) := by decide +kernel
theorem dX7_servantFor_35 : decode cX7_servantFor 35 = .ok (.iaload, 1) := by decide +kernel
theorem dX7_servantFor_36 : decode cX7_servantFor 36 = .ok (.ireturn, 1) := by decide +kernel
theorem dX7_servantFor_37 : decode cX7_servantFor 37 = .ok (.iinc 2 1, 3) := by decide +kernel
theorem dX7_servantFor_40 : decode cX7_servantFor 40 = .ok (.goto (-38), 3) := by decide +kernel
theorem dX7_servantFor_43 : decode cX7_servantFor 43 = .ok (.bipush (-4), 2) := by decide +kernel
theorem dX7_servantFor_45 : decode cX7_servantFor 45 = .ok (.ireturn, 1) := by decide +kernel
theorem dX7_tryFrom_0 : decode cX7_tryFrom 0 = .ok (.iload_n 3, 1) := by decide +kernel
theorem dX7_tryFrom_1 : decode cX7_tryFrom 1 = .ok (.aload_n 0, 1) := by decide +kernel
theorem dX7_tryFrom_2 : decode cX7_tryFrom 2 = .ok (.getfield 49, 3) := by decide +kernel
theorem dX7_tryFrom_5 : decode cX7_tryFrom 5 = .ok (.if_icmp .lt 4, 3) := by decide +kernel
theorem dX7_tryFrom_8 : decode cX7_tryFrom 8 = .ok (.return_, 1) := by decide +kernel
theorem dX7_tryFrom_9 : decode cX7_tryFrom 9 = .ok (.iload_n 1, 1) := by decide +kernel
theorem dX7_tryFrom_10 : decode cX7_tryFrom 10 = .ok (.aload_n 0, 1) := by decide +kernel
theorem dX7_tryFrom_11 : decode cX7_tryFrom 11 = .ok (.getfield 33, 3) := by decide +kernel
theorem dX7_tryFrom_14 : decode cX7_tryFrom 14 = .ok (.if_icmp .ge 8, 3) := by decide +kernel
theorem dX7_tryFrom_17 : decode cX7_tryFrom 17 = .ok (.iload_n 1, 1) := by decide +kernel
theorem dX7_tryFrom_18 : decode cX7_tryFrom 18 = .ok (.iconst 4, 1) := by decide +kernel
theorem dX7_tryFrom_19 : decode cX7_tryFrom 19 = .ok (.if_icmp .lt 9, 3) := by decide +kernel
theorem dX7_tryFrom_22 : decode cX7_tryFrom 22 = .ok (.aload_n 0, 1) := by decide +kernel
theorem dX7_tryFrom_23 : decode cX7_tryFrom 23 = .ok (.iload_n 3, 1) := by decide +kernel
theorem dX7_tryFrom_24 : decode cX7_tryFrom 24 = .ok (.invokevirtual 56, 3) := by decide +kernel
theorem dX7_tryFrom_27 : decode cX7_tryFrom 27 = .ok (.return_, 1) := by decide +kernel
theorem dX7_tryFrom_28 : decode cX7_tryFrom 28 = .ok (.aload_n 0, 1) := by decide +kernel
theorem dX7_tryFrom_29 : decode cX7_tryFrom 29 = .ok (.getfield 9, 3) := by decide +kernel
theorem dX7_tryFrom_32 : decode cX7_tryFrom 32 = .ok (.iload_n 1, 1) := by decide +kernel
theorem dX7_tryFrom_33 : decode cX7_tryFrom 33 = .ok (.iaload, 1) := by decide +kernel
theorem dX7_tryFrom_34 : decode cX7_tryFrom 34 = .ok (.istore 4, 2) := by decide +kernel
theorem dX7_tryFrom_36 : decode cX7_tryFrom 36 = .ok (.aload_n 0, 1) := by decide +kernel
theorem dX7_tryFrom_37 : decode cX7_tryFrom 37 = .ok (.getfield 21, 3) := by decide +kernel
theorem dX7_tryFrom_40 : decode cX7_tryFrom 40 = .ok (.getfield 60, 3) := by decide +kernel
theorem dX7_tryFrom_43 : decode cX7_tryFrom 43 = .ok (.iload 4, 2) := by decide +kernel
theorem dX7_tryFrom_45 : decode cX7_tryFrom 45 = .ok (.iaload, 1) := by decide +kernel
theorem dX7_tryFrom_46 : decode cX7_tryFrom 46 = .ok (.iconst 1, 1) := by decide +kernel
theorem dX7_tryFrom_47 : decode cX7_tryFrom 47 = .ok (.iadd, 1) := by decide +kernel
theorem dX7_tryFrom_48 : decode cX7_tryFrom 48 = .ok (.istore 5, 2) := by decide +kernel
theorem dX7_tryFrom_50 : decode cX7_tryFrom 50 = .ok (.iconst 0, 1) := by decide +kernel
theorem dX7_tryFrom_51 : decode cX7_tryFrom 51 = .ok (.istore 6, 2) := by decide +kernel
theorem dX7_tryFrom_53 : decode cX7_tryFrom 53 = .ok (.iload 6, 2) := by decide +kernel
theorem dX7_tryFrom_55 : decode cX7_tryFrom 55 = .ok (.aload_n 0, 1) := by decide +kernel
theorem dX7_tryFrom_56 : decode cX7_tryFrom 56 = .ok (.getfield 25, 3) := by decide +kernel
theorem dX7_tryFrom_59 : decode cX7_tryFrom 59 = .ok (.getfield 63, 3) := by decide +kernel
theorem dX7_tryFrom_62 : decode cX7_tryFrom 62 = .ok (.if_icmp .ge 67, 3) := by decide +kernel
theorem dX7_tryFrom_65 : decode cX7_tryFrom 65 = .ok (.iload_n 2, 1) := by decide +kernel
theorem dX7_tryFrom_66 : decode cX7_tryFrom 66 = .ok (.iload 6, 2) := by decide +kernel
theorem dX7_tryFrom_68 : decode cX7_tryFrom 68 = .ok (.ishr, 1) := by decide +kernel
theorem dX7_tryFrom_69 : decode cX7_tryFrom 69 = .ok (.iconst 1, 1) := by decide +kernel
theorem dX7_tryFrom_70 : decode cX7_tryFrom 70 = .ok (.iand, 1) := by decide +kernel
theorem dX7_tryFrom_71 : decode cX7_tryFrom 71 = .ok (.ifCond .ne 52, 3) := by decide +kernel
theorem dX7_tryFrom_74 : decode cX7_tryFrom 74 = .ok (.aload_n 0, 1) := by decide +kernel
theorem dX7_tryFrom_75 : decode cX7_tryFrom 75 = .ok (.iload 6, 2) := by decide +kernel
theorem dX7_tryFrom_77 : decode cX7_tryFrom 77 = .ok (.iload 4, 2) := by decide +kernel
theorem dX7_tryFrom_79 : decode cX7_tryFrom 79 = .ok (.invokevirtual 66, 3) := by decide +kernel
theorem dX7_tryFrom_82 : decode cX7_tryFrom 82 = .ok (.ifCond .eq 41, 3) := by decide +kernel
theorem dX7_tryFrom_85 : decode cX7_tryFrom 85 = .ok (.aload_n 0, 1) := by decide +kernel
theorem dX7_tryFrom_86 : decode cX7_tryFrom 86 = .ok (.getfield 18, 3) := by decide +kernel
theorem dX7_tryFrom_89 : decode cX7_tryFrom 89 = .ok (.iload_n 1, 1) := by decide +kernel
theorem dX7_tryFrom_90 : decode cX7_tryFrom 90 = .ok (.iload 6, 2) := by decide +kernel
theorem dX7_tryFrom_92 : decode cX7_tryFrom 92 = .ok (.iastore, 1) := by decide +kernel
theorem dX7_tryFrom_93 : decode cX7_tryFrom 93 = .ok (.iload 5, 2) := by decide +kernel
theorem dX7_tryFrom_95 : decode cX7_tryFrom 95 = .ok (.aload_n 0, 1) := by decide +kernel
theorem dX7_tryFrom_96 : decode cX7_tryFrom 96 = .ok (.iload 6, 2) := by decide +kernel
theorem dX7_tryFrom_98 : decode cX7_tryFrom 98 = .ok (.iload 4, 2) := by decide +kernel
theorem dX7_tryFrom_100 : decode cX7_tryFrom 100 = .ok (.invokevirtual 70, 3) := by decide +kernel
theorem dX7_tryFrom_103 : decode cX7_tryFrom 103 = .ok (.imul, 1) := by decide +kernel
theorem dX7_tryFrom_104 : decode cX7_tryFrom 104 = .ok (.istore 7, 2) := by decide +kernel
theorem dX7_tryFrom_106 : decode cX7_tryFrom 106 = .ok (.aload_n 0, 1) := by decide +kernel
theorem dX7_tryFrom_107 : decode cX7_tryFrom 107 = .ok (.iload_n 1, 1) := by decide +kernel
theorem dX7_tryFrom_108 : decode cX7_tryFrom 108 = .ok (.iconst 1, 1) := by decide +kernel
theorem dX7_tryFrom_109 : decode cX7_tryFrom 109 = .ok (.iadd, 1) := by decide +kernel
theorem dX7_tryFrom_110 : decode cX7_tryFrom 110 = .ok (.iload_n 2, 1) := by decide +kernel
theorem dX7_tryFrom_111 : decode cX7_tryFrom 111 = .ok (.iconst 1, 1) := by decide +kernel
theorem dX7_tryFrom_112 : decode cX7_tryFrom 112 = .ok (.iload 6, 2) := by decide +kernel
theorem dX7_tryFrom_114 : decode cX7_tryFrom 114 = .ok (.ishl, 1) := by decide +kernel
theorem dX7_tryFrom_115 : decode cX7_tryFrom 115 = .ok (.ior, 1) := by decide +kernel
theorem dX7_tryFrom_116 : decode cX7_tryFrom 116 = .ok (.iload_n 3, 1) := by decide +kernel
theorem dX7_tryFrom_117 : decode cX7_tryFrom 117 = .ok (.iload 7, 2) := by decide +kernel
theorem dX7_tryFrom_119 : decode cX7_tryFrom 119 = .ok (.iadd, 1) := by decide +kernel
theorem dX7_tryFrom_120 : decode cX7_tryFrom 120 = .ok (.invokestatic 52, 3) := by decide +kernel
theorem dX7_tryFrom_123 : decode cX7_tryFrom 123 = .ok (.iinc 6 1, 3) := by decide +kernel
theorem dX7_tryFrom_126 : decode cX7_tryFrom 126 = .ok (.goto (-73), 3) := by decide +kernel
theorem dX7_tryFrom_129 : decode cX7_tryFrom 129 = .ok (.aload_n 0, 1) := by decide +kernel
theorem dX7_tryFrom_130 : decode cX7_tryFrom 130 = .ok (.getfield 18, 3) := by decide +kernel
theorem dX7_tryFrom_133 : decode cX7_tryFrom 133 = .ok (.iload_n 1, 1) := by decide +kernel
theorem dX7_tryFrom_134 : decode cX7_tryFrom 134 = .ok (.iconst 5, 1) := by decide +kernel
theorem dX7_tryFrom_135 : decode cX7_tryFrom 135 = .ok (.iastore, 1) := by decide +kernel
theorem dX7_tryFrom_136 : decode cX7_tryFrom 136 = .ok (.aload_n 0, 1) := by decide +kernel
theorem dX7_tryFrom_137 : decode cX7_tryFrom 137 = .ok (.iload_n 1, 1) := by decide +kernel
theorem dX7_tryFrom_138 : decode cX7_tryFrom 138 = .ok (.iconst 1, 1) := by decide +kernel
theorem dX7_tryFrom_139 : decode cX7_tryFrom 139 = .ok (.iadd, 1) := by decide +kernel
theorem dX7_tryFrom_140 : decode cX7_tryFrom 140 = .ok (.iload_n 2, 1) := by decide +kernel
theorem dX7_tryFrom_141 : decode cX7_tryFrom 141 = .ok (.iload_n 3, 1) := by decide +kernel
theorem dX7_tryFrom_142 : decode cX7_tryFrom 142 = .ok (.iload 5, 2) := by decide +kernel
theorem dX7_tryFrom_144 : decode cX7_tryFrom 144 = .ok (.bipush 100, 2) := by decide +kernel
theorem dX7_tryFrom_146 : decode cX7_tryFrom 146 = .ok (.imul, 1) := by decide +kernel
theorem dX7_tryFrom_147 : decode cX7_tryFrom 147 = .ok (.iadd, 1) := by decide +kernel
theorem dX7_tryFrom_148 : decode cX7_tryFrom 148 = .ok (.invokestatic 52, 3) := by decide +kernel
theorem dX7_tryFrom_151 : decode cX7_tryFrom 151 = .ok (.return_, 1) := by decide +kernel
theorem dX7_mayTake_0 : decode cX7_mayTake 0 = .ok (.aload_n 0, 1) := by decide +kernel
theorem dX7_mayTake_1 : decode cX7_mayTake 1 = .ok (.getfield 25, 3) := by decide +kernel
theorem dX7_mayTake_4 : decode cX7_mayTake 4 = .ok (.iload_n 1, 1) := by decide +kernel
theorem dX7_mayTake_5 : decode cX7_mayTake 5 = .ok (.aload_n 0, 1) := by decide +kernel
theorem dX7_mayTake_6 : decode cX7_mayTake 6 = .ok (.getfield 21, 3) := by decide +kernel
theorem dX7_mayTake_9 : decode cX7_mayTake 9 = .ok (.getfield 60, 3) := by decide +kernel
theorem dX7_mayTake_12 : decode cX7_mayTake 12 = .ok (.iload_n 2, 1) := by decide +kernel
theorem dX7_mayTake_13 : decode cX7_mayTake 13 = .ok (.iaload, 1) := by decide +kernel
theorem dX7_mayTake_14 : decode cX7_mayTake 14 = .ok (.invokevirtual 74, 3) := by decide +kernel
theorem dX7_mayTake_17 : decode cX7_mayTake 17 = .ok (.ireturn, 1) := by decide +kernel
theorem dX7_far_0 : decode cX7_far 0 = .ok (.aload_n 0, 1) := by decide +kernel
theorem dX7_far_1 : decode cX7_far 1 = .ok (.getfield 25, 3) := by decide +kernel
theorem dX7_far_4 : decode cX7_far 4 = .ok (.iload_n 1, 1) := by decide +kernel
theorem dX7_far_5 : decode cX7_far 5 = .ok (.aload_n 0, 1) := by decide +kernel
theorem dX7_far_6 : decode cX7_far 6 = .ok (.getfield 21, 3) := by decide +kernel
theorem dX7_far_9 : decode cX7_far 9 = .ok (.getfield 77, 3) := by decide +kernel
theorem dX7_far_12 : decode cX7_far 12 = .ok (.iload_n 2, 1) := by decide +kernel
theorem dX7_far_13 : decode cX7_far 13 = .ok (.iaload, 1) := by decide +kernel
theorem dX7_far_14 : decode cX7_far 14 = .ok (.aload_n 0, 1) := by decide +kernel
theorem dX7_far_15 : decode cX7_far 15 = .ok (.getfield 21, 3) := by decide +kernel
theorem dX7_far_18 : decode cX7_far 18 = .ok (.getfield 80, 3) := by decide +kernel
theorem dX7_far_21 : decode cX7_far 21 = .ok (.iload_n 2, 1) := by decide +kernel
theorem dX7_far_22 : decode cX7_far 22 = .ok (.iaload, 1) := by decide +kernel
theorem dX7_far_23 : decode cX7_far 23 = .ok (.invokevirtual 83, 3) := by decide +kernel
theorem dX7_far_26 : decode cX7_far 26 = .ok (.ireturn, 1) := by decide +kernel
theorem dX7_keep_0 : decode cX7_keep 0 = .ok (.aload_n 0, 1) := by decide +kernel
theorem dX7_keep_1 : decode cX7_keep 1 = .ok (.iload_n 1, 1) := by decide +kernel
theorem dX7_keep_2 : decode cX7_keep 2 = .ok (.putfield 49, 3) := by decide +kernel
theorem dX7_keep_5 : decode cX7_keep 5 = .ok (.iconst 0, 1) := by decide +kernel
theorem dX7_keep_6 : decode cX7_keep 6 = .ok (.istore_n 2, 1) := by decide +kernel
theorem dX7_keep_7 : decode cX7_keep 7 = .ok (.iload_n 2, 1) := by decide +kernel
theorem dX7_keep_8 : decode cX7_keep 8 = .ok (.aload_n 0, 1) := by decide +kernel
theorem dX7_keep_9 : decode cX7_keep 9 = .ok (.getfield 33, 3) := by decide +kernel
theorem dX7_keep_12 : decode cX7_keep 12 = .ok (.if_icmp .ge 21, 3) := by decide +kernel
theorem dX7_keep_15 : decode cX7_keep 15 = .ok (.aload_n 0, 1) := by decide +kernel
theorem dX7_keep_16 : decode cX7_keep 16 = .ok (.getfield 15, 3) := by decide +kernel
theorem dX7_keep_19 : decode cX7_keep 19 = .ok (.iload_n 2, 1) := by decide +kernel
theorem dX7_keep_20 : decode cX7_keep 20 = .ok (.aload_n 0, 1) := by decide +kernel
theorem dX7_keep_21 : decode cX7_keep 21 = .ok (.getfield 18, 3) := by decide +kernel
theorem dX7_keep_24 : decode cX7_keep 24 = .ok (.iload_n 2, 1) := by decide +kernel
theorem dX7_keep_25 : decode cX7_keep 25 = .ok (.iaload, 1) := by decide +kernel
theorem dX7_keep_26 : decode cX7_keep 26 = .ok (.iastore, 1) := by decide +kernel
theorem dX7_keep_27 : decode cX7_keep 27 = .ok (.iinc 2 1, 3) := by decide +kernel
theorem dX7_keep_30 : decode cX7_keep 30 = .ok (.goto (-23), 3) := by decide +kernel
theorem dX7_keep_33 : decode cX7_keep 33 = .ok (.return_, 1) := by decide +kernel
theorem dX8_init_0 : decode cX8_init 0 = .ok (.aload_n 0, 1) := by decide +kernel
theorem dX8_init_1 : decode cX8_init 1 = .ok (.invokespecial 3, 3) := by decide +kernel
theorem dX8_init_4 : decode cX8_init 4 = .ok (.aload_n 0, 1) := by decide +kernel
theorem dX8_init_5 : decode cX8_init 5 = .ok (.bipush 16, 2) := by decide +kernel
theorem dX8_init_7 : decode cX8_init 7 = .ok (.newarray .int, 2) := by decide +kernel
theorem dX8_init_9 : decode cX8_init 9 = .ok (.putfield 9, 3) := by decide +kernel
theorem dX8_init_12 : decode cX8_init 12 = .ok (.aload_n 0, 1) := by decide +kernel
theorem dX8_init_13 : decode cX8_init 13 = .ok (.bipush 16, 2) := by decide +kernel
theorem dX8_init_15 : decode cX8_init 15 = .ok (.newarray .int, 2) := by decide +kernel
theorem dX8_init_17 : decode cX8_init 17 = .ok (.putfield 15, 3) := by decide +kernel
theorem dX8_init_20 : decode cX8_init 20 = .ok (.aload_n 0, 1) := by decide +kernel
theorem dX8_init_21 : decode cX8_init 21 = .ok (.aload_n 1, 1) := by decide +kernel
theorem dX8_init_22 : decode cX8_init 22 = .ok (.putfield 18, 3) := by decide +kernel
theorem dX8_init_25 : decode cX8_init 25 = .ok (.aload_n 0, 1) := by decide +kernel
theorem dX8_init_26 : decode cX8_init 26 = .ok (.aload_n 2, 1) := by decide +kernel
theorem dX8_init_27 : decode cX8_init 27 = .ok (.putfield 22, 3) := by decide +kernel
theorem dX8_init_30 : decode cX8_init 30 = .ok (.return_, 1) := by decide +kernel
theorem dX8_setCrank_0 : decode cX8_setCrank 0 = .ok (.aload_n 0, 1) := by decide +kernel
theorem dX8_setCrank_1 : decode cX8_setCrank 1 = .ok (.getfield 9, 3) := by decide +kernel
theorem dX8_setCrank_4 : decode cX8_setCrank 4 = .ok (.iload_n 1, 1) := by decide +kernel
theorem dX8_setCrank_5 : decode cX8_setCrank 5 = .ok (.iaload, 1) := by decide +kernel
theorem dX8_setCrank_6 : decode cX8_setCrank 6 = .ok (.istore_n 3, 1) := by decide +kernel
theorem dX8_setCrank_7 : decode cX8_setCrank 7 = .ok (.aload_n 0, 1) := by decide +kernel
theorem dX8_setCrank_8 : decode cX8_setCrank 8 = .ok (.getfield 9, 3) := by decide +kernel
theorem dX8_setCrank_11 : decode cX8_setCrank 11 = .ok (.iload_n 1, 1) := by decide +kernel
theorem dX8_setCrank_12 : decode cX8_setCrank 12 = .ok (.iload_n 2, 1) := by decide +kernel
theorem dX8_setCrank_13 : decode cX8_setCrank 13 = .ok (.iastore, 1) := by decide +kernel
theorem dX8_setCrank_14 : decode cX8_setCrank 14 = .ok (.iconst 1, 1) := by decide +kernel
theorem dX8_setCrank_15 : decode cX8_setCrank 15 = .ok (.iload_n 1, 1) := by decide +kernel
theorem dX8_setCrank_16 : decode cX8_setCrank 16 = .ok (.ishl, 1) := by decide +kernel
theorem dX8_setCrank_17 : decode cX8_setCrank 17 = .ok (.istore 4, 2) := by decide +kernel
theorem dX8_setCrank_19 : decode cX8_setCrank 19 = .ok (.aload_n 0, 1) := by decide +kernel
theorem dX8_setCrank_20 : decode cX8_setCrank 20 = .ok (.iload_n 2, 1) := by decide +kernel
theorem dX8_setCrank_21 : decode cX8_setCrank 21 = .ok (.bipush 10, 2) := by decide +kernel
theorem dX8_setCrank_23 : decode cX8_setCrank 23 = .ok (.if_icmp .ne 13, 3) := by decide +kernel
theorem dX8_setCrank_26 : decode cX8_setCrank 26 = .ok (.aload_n 0, 1) := by decide +kernel
theorem dX8_setCrank_27 : decode cX8_setCrank 27 = .ok (.getfield 26, 3) := by decide +kernel
theorem dX8_setCrank_30 : decode cX8_setCrank 30 = .ok (.iload 4, 2) := by decide +kernel
theorem dX8_setCrank_32 : decode cX8_setCrank 32 = .ok (.ior, 1) := by decide +kernel
theorem dX8_setCrank_33 : decode cX8_setCrank 33 = .ok (.goto 12, 3) := by decide +kernel
theorem dX8_setCrank_36 : decode cX8_setCrank 36 = .ok (.aload_n 0, 1) := by decide +kernel
theorem dX8_setCrank_37 : decode cX8_setCrank 37 = .ok (.getfield 26, 3) := by decide +kernel
theorem dX8_setCrank_40 : decode cX8_setCrank 40 = .ok (.iload 4, 2) := by decide +kernel
theorem dX8_setCrank_42 : decode cX8_setCrank 42 = .ok (.iconst (-1), 1) := by decide +kernel
theorem dX8_setCrank_43 : decode cX8_setCrank 43 = .ok (.ixor, 1) := by decide +kernel
theorem dX8_setCrank_44 : decode cX8_setCrank 44 = .ok (.iand, 1) := by decide +kernel
theorem dX8_setCrank_45 : decode cX8_setCrank 45 = .ok (.putfield 26, 3) := by decide +kernel
theorem dX8_setCrank_48 : decode cX8_setCrank 48 = .ok (.iload_n 3, 1) := by decide +kernel
theorem dX8_setCrank_49 : decode cX8_setCrank 49 = .ok (.ireturn, 1) := by decide +kernel
theorem dX8_areCrossed_0 : decode cX8_areCrossed 0 = .ok (.aload_n 0, 1) := by decide +kernel
theorem dX8_areCrossed_1 : decode cX8_areCrossed 1 = .ok (.getfield 15, 3) := by decide +kernel
theorem dX8_areCrossed_4 : decode cX8_areCrossed 4 = .ok (.iload_n 1, 1) := by decide +kernel
theorem dX8_areCrossed_5 : decode cX8_areCrossed 5 = .ok (.iaload, 1) := by decide +kernel
theorem dX8_areCrossed_6 : decode cX8_areCrossed 6 = .ok (.iload_n 2, 1) := by decide +kernel
theorem dX8_areCrossed_7 : decode cX8_areCrossed 7 = .ok (.ishr, 1) := by decide +kernel
theorem dX8_areCrossed_8 : decode cX8_areCrossed 8 = .ok (.iconst 1, 1) := by decide +kernel
theorem dX8_areCrossed_9 : decode cX8_areCrossed 9 = .ok (.iand, 1) := by decide +kernel
theorem dX8_areCrossed_10 : decode cX8_areCrossed 10 = .ok (.ifCond .eq 7, 3) := by decide +kernel
theorem dX8_areCrossed_13 : decode cX8_areCrossed 13 = .ok (.iconst 1, 1) := by decide +kernel
theorem dX8_areCrossed_14 : decode cX8_areCrossed 14 = .ok (.goto 4, 3) := by decide +kernel
theorem dX8_areCrossed_17 : decode cX8_areCrossed 17 = .ok (.iconst 0, 1) := by decide +kernel
theorem dX8_areCrossed_18 : decode cX8_areCrossed 18 = .ok (.ireturn, 1) := by decide +kernel
theorem dX8_addPair_0 : decode cX8_addPair 0 = .ok (.aload_n 0, 1) := by decide +kernel
theorem dX8_addPair_1 : decode cX8_addPair 1 = .ok (.getfield 15, 3) := by decide +kernel
theorem dX8_addPair_4 : decode cX8_addPair 4 = .ok (.iload_n 1, 1) := by decide +kernel
theorem dX8_addPair_5 : decode cX8_addPair 5 = .ok (.dup2, 1) := by decide +kernel
theorem dX8_addPair_6 : decode cX8_addPair 6 = .ok (.iaload, 1) := by decide +kernel
theorem dX8_addPair_7 : decode cX8_addPair 7 = .ok (.iconst 1, 1) := by decide +kernel
theorem dX8_addPair_8 : decode cX8_addPair 8 = .ok (.iload_n 2, 1) := by decide +kernel
theorem dX8_addPair_9 : decode cX8_addPair 9 = .ok (.ishl, 1) := by decide +kernel
theorem dX8_addPair_10 : decode cX8_addPair 10 = .ok (.ior, 1) := by decide +kernel
theorem dX8_addPair_11 : decode cX8_addPair 11 = .ok (.iastore, 1) := by decide +kernel
theorem dX8_addPair_12 : decode cX8_addPair 12 = .ok (.aload_n 0, 1) := by decide +kernel
theorem dX8_addPair_13 : decode cX8_addPair 13 = .ok (.getfield 15, 3) := by decide +kernel
theorem dX8_addPair_16 : decode cX8_addPair 16 = .ok (.iload_n 2, 1) := by decide +kernel
theorem dX8_addPair_17 : decode cX8_addPair 17 = .ok (.dup2, 1) := by decide +kernel
theorem dX8_addPair_18 : decode cX8_addPair 18 = .ok (.iaload, 1) := by decide +kernel
theorem dX8_addPair_19 : decode cX8_addPair 19 = .ok (.iconst 1, 1) := by decide +kernel
theorem dX8_addPair_20 : decode cX8_addPair 20 = .ok (.iload_n 1, 1) := by decide +kernel
theorem dX8_addPair_21 : decode cX8_addPair 21 = .ok (.ishl, 1) := by decide +kernel
theorem dX8_addPair_22 : decode cX8_addPair 22 = .ok (.ior, 1) := by decide +kernel
theorem dX8_addPair_23 : decode cX8_addPair 23 = .ok (.iastore, 1) := by decide +kernel
theorem dX8_addPair_24 : decode cX8_addPair 24 = .ok (.aload_n 0, 1) := by decide +kernel
theorem dX8_addPair_25 : decode cX8_addPair 25 = .ok (.dup, 1) := by decide +kernel
theorem dX8_addPair_26 : decode cX8_addPair 26 = .ok (.getfield 30, 3) := by decide +kernel
theorem dX8_addPair_29 : decode cX8_addPair 29 = .ok (.iconst 1, 1) := by decide +kernel
theorem dX8_addPair_30 : decode cX8_addPair 30 = .ok (.iadd, 1) := by decide +kernel
theorem dX8_addPair_31 : decode cX8_addPair 31 = .ok (.putfield 30, 3) := by decide +kernel
theorem dX8_addPair_34 : decode cX8_addPair 34 = .ok (.aload_n 0, 1) := by decide +kernel
theorem dX8_addPair_35 : decode cX8_addPair 35 = .ok (.getfield 30, 3) := by decide +kernel
theorem dX8_addPair_38 : decode cX8_addPair 38 = .ok (.ireturn, 1) := by decide +kernel
theorem dX8_dropPairs_0 : decode cX8_dropPairs 0 = .ok (.aload_n 0, 1) := by decide +kernel
theorem dX8_dropPairs_1 : decode cX8_dropPairs 1 = .ok (.getfield 30, 3) := by decide +kernel
theorem dX8_dropPairs_4 : decode cX8_dropPairs 4 = .ok (.istore_n 1, 1) := by decide +kernel
theorem dX8_dropPairs_5 : decode cX8_dropPairs 5 = .ok (.iconst 0, 1) := by decide +kernel
theorem dX8_dropPairs_6 : decode cX8_dropPairs 6 = .ok (.istore_n 2, 1) := by decide +kernel
theorem dX8_dropPairs_7 : decode cX8_dropPairs 7 = .ok (.iload_n 2, 1) := by decide +kernel
theorem dX8_dropPairs_8 : decode cX8_dropPairs 8 = .ok (.bipush 16, 2) := by decide +kernel
theorem dX8_dropPairs_10 : decode cX8_dropPairs 10 = .ok (.if_icmp .ge 16, 3) := by decide +kernel
theorem dX8_dropPairs_13 : decode cX8_dropPairs 13 = .ok (.aload_n 0, 1) := by decide +kernel
theorem dX8_dropPairs_14 : decode cX8_dropPairs 14 = .ok (.getfield 15, 3) := by decide +kernel
theorem dX8_dropPairs_17 : decode cX8_dropPairs 17 = .ok (.iload_n 2, 1) := by decide +kernel
theorem dX8_dropPairs_18 : decode cX8_dropPairs 18 = .ok (.iconst 0, 1) := by decide +kernel
theorem dX8_dropPairs_19 : decode cX8_dropPairs 19 = .ok (.iastore, 1) := by decide +kernel
theorem dX8_dropPairs_20 : decode cX8_dropPairs 20 = .ok (.iinc 2 1, 3) := by decide +kernel
theorem dX8_dropPairs_23 : decode cX8_dropPairs 23 = .ok (.goto (-16), 3) := by decide +kernel
theorem dX8_dropPairs_26 : decode cX8_dropPairs 26 = .ok (.aload_n 0, 1) := by decide +kernel
theorem dX8_dropPairs_27 : decode cX8_dropPairs 27 = .ok (.iconst 0, 1) := by decide +kernel
theorem dX8_dropPairs_28 : decode cX8_dropPairs 28 = .ok (.putfield 30, 3) := by decide +kernel
theorem dX8_dropPairs_31 : decode cX8_dropPairs 31 = .ok (.iload_n 1, 1) := by decide +kernel
theorem dX8_dropPairs_32 : decode cX8_dropPairs 32 = .ok (.ireturn, 1) := by decide +kernel
theorem dX8_forceOf_0 : decode cX8_forceOf 0 = .ok (.aload_n 0, 1) := by decide +kernel
theorem dX8_forceOf_1 : decode cX8_forceOf 1 = .ok (.iload_n 1, 1) := by decide +kernel
theorem dX8_forceOf_2 : decode cX8_forceOf 2 = .ok (.invokevirtual 33, 3) := by decide +kernel
theorem dX8_forceOf_5 : decode cX8_forceOf 5 = .ok (.ifCond .eq 5, 3) := by decide +kernel
theorem dX8_forceOf_8 : decode cX8_forceOf 8 = .ok (.iconst 0, 1) := by decide +kernel
theorem dX8_forceOf_9 : decode cX8_forceOf 9 = .ok (.ireturn, 1) := by decide +kernel
theorem dX8_forceOf_10 : decode cX8_forceOf 10 = .ok (.aload_n 0, 1) := by decide +kernel
theorem dX8_forceOf_11 : decode cX8_forceOf 11 = .ok (.getfield 18, 3) := by decide +kernel
theorem dX8_forceOf_14 : decode cX8_forceOf 14 = .ok (.iload_n 1, 1) := by decide +kernel
theorem dX8_forceOf_15 : decode cX8_forceOf 15 = .ok (.aload_n 0, 1) := by decide +kernel
theorem dX8_forceOf_16 : decode cX8_forceOf 16 = .ok (.getfield 37, 3) := by decide +kernel
theorem dX8_forceOf_19 : decode cX8_forceOf 19 = .ok (.invokevirtual 40, 3) := by decide +kernel
theorem dX8_forceOf_22 : decode cX8_forceOf 22 = .ok (.istore_n 2, 1) := by decide +kernel
theorem dX8_forceOf_23 : decode cX8_forceOf 23 = .ok (.aload_n 0, 1) := by decide +kernel
theorem dX8_forceOf_24 : decode cX8_forceOf 24 = .ok (.getfield 18, 3) := by decide +kernel
theorem dX8_forceOf_27 : decode cX8_forceOf 27 = .ok (.getfield 46, 3) := by decide +kernel
theorem dX8_forceOf_30 : decode cX8_forceOf 30 = .ok (.iload_n 1, 1) := by decide +kernel
theorem dX8_forceOf_31 : decode cX8_forceOf 31 = .ok (.iaload, 1) := by decide +kernel
theorem dX8_forceOf_32 : decode cX8_forceOf 32 = .ok (.istore_n 3, 1) := by decide +kernel
theorem dX8_forceOf_33 : decode cX8_forceOf 33 = .ok (.iconst 0, 1) := by decide +kernel
theorem dX8_forceOf_34 : decode cX8_forceOf 34 = .ok (.istore 4, 2) := by decide +kernel
theorem dX8_forceOf_36 : decode cX8_forceOf 36 = .ok (.iload 4, 2) := by decide +kernel
theorem dX8_forceOf_38 : decode cX8_forceOf 38 = .ok (.bipush 16, 2) := by decide +kernel
theorem dX8_forceOf_40 : decode cX8_forceOf 40 = .ok (.if_icmp .ge 28, 3) := by decide +kernel
theorem dX8_forceOf_43 : decode cX8_forceOf 43 = .ok (.iload_n 3, 1) := by decide +kernel
theorem dX8_forceOf_44 : decode cX8_forceOf 44 = .ok (.iload 4, 2) := by decide +kernel
theorem dX8_forceOf_46 : decode cX8_forceOf 46 = .ok (.ishr, 1) := by decide +kernel
theorem dX8_forceOf_47 : decode cX8_forceOf 47 = .ok (.iconst 1, 1) := by decide +kernel
theorem dX8_forceOf_48 : decode cX8_forceOf 48 = .ok (.iand, 1) := by decide +kernel
theorem dX8_forceOf_49 : decode cX8_forceOf 49 = .ok (.ifCond .eq 13, 3) := by decide +kernel
theorem dX8_forceOf_52 : decode cX8_forceOf 52 = .ok (.iload_n 2, 1) := by decide +kernel
theorem dX8_forceOf_53 : decode cX8_forceOf 53 = .ok (.aload_n 0, 1) := by decide +kernel
theorem dX8_forceOf_54 : decode cX8_forceOf 54 = .ok (.getfield 9, 3) := by decide +kernel
theorem dX8_forceOf_57 : decode cX8_forceOf 57 = .ok (.iload 4, 2) := by decide +kernel
theorem dX8_forceOf_59 : decode cX8_forceOf 59 = .ok (.iaload, 1) := by decide +kernel
theorem dX8_forceOf_60 : decode cX8_forceOf 60 = .ok (.isub, 1) := by decide +kernel
theorem dX8_forceOf_61 : decode cX8_forceOf 61 = .ok (.istore_n 2, 1) := by decide +kernel
theorem dX8_forceOf_62 : decode cX8_forceOf 62 = .ok (.iinc 4 1, 3) := by decide +kernel
theorem dX8_forceOf_65 : decode cX8_forceOf 65 = .ok (.goto (-29), 3) := by decide +kernel
theorem dX8_forceOf_68 : decode cX8_forceOf 68 = .ok (.iload_n 2, 1) := by decide +kernel
theorem dX8_forceOf_69 : decode cX8_forceOf 69 = .ok (.iconst 0, 1) := by decide +kernel
theorem dX8_forceOf_70 : decode cX8_forceOf 70 = .ok (.invokestatic 49, 3) := by decide +kernel
theorem dX8_forceOf_73 : decode cX8_forceOf 73 = .ok (.ireturn, 1) := by decide +kernel
theorem dX8_loudBells_0 : decode cX8_loudBells 0 = .ok (.aload_n 0, 1) := by decide +kernel
theorem dX8_loudBells_1 : decode cX8_loudBells 1 = .ok (.iload_n 1, 1) := by decide +kernel
theorem dX8_loudBells_2 : decode cX8_loudBells 2 = .ok (.invokevirtual 54, 3) := by decide +kernel
theorem dX8_loudBells_5 : decode cX8_loudBells 5 = .ok (.bipush 6, 2) := by decide +kernel
theorem dX8_loudBells_7 : decode cX8_loudBells 7 = .ok (.if_icmp .lt 11, 3) := by decide +kernel
theorem dX8_loudBells_10 : decode cX8_loudBells 10 = .ok (.aload_n 0, 1) := by decide +kernel
theorem dX8_loudBells_11 : decode cX8_loudBells 11 = .ok (.iload_n 1, 1) := by decide +kernel
theorem dX8_loudBells_12 : decode cX8_loudBells 12 = .ok (.invokevirtual 58, 3) := by decide +kernel
theorem dX8_loudBells_15 : decode cX8_loudBells 15 = .ok (.goto 4, 3) := by decide +kernel
theorem dX8_loudBells_18 : decode cX8_loudBells 18 = .ok (.iconst 0, 1) := by decide +kernel
theorem dX8_loudBells_19 : decode cX8_loudBells 19 = .ok (.ireturn, 1) := by decide +kernel
theorem dX8_weakBells_0 : decode cX8_weakBells 0 = .ok (.aload_n 0, 1) := by decide +kernel
theorem dX8_weakBells_1 : decode cX8_weakBells 1 = .ok (.iload_n 1, 1) := by decide +kernel
theorem dX8_weakBells_2 : decode cX8_weakBells 2 = .ok (.invokevirtual 54, 3) := by decide +kernel
theorem dX8_weakBells_5 : decode cX8_weakBells 5 = .ok (.istore_n 2, 1) := by decide +kernel
theorem dX8_weakBells_6 : decode cX8_weakBells 6 = .ok (.iload_n 2, 1) := by decide +kernel
theorem dX8_weakBells_7 : decode cX8_weakBells 7 = .ok (.bipush 6, 2) := by decide +kernel
theorem dX8_weakBells_9 : decode cX8_weakBells 9 = .ok (.if_icmp .lt 9, 3) := by decide +kernel
theorem dX8_weakBells_12 : decode cX8_weakBells 12 = .ok (.aload_n 0, 1) := by decide +kernel
theorem dX8_weakBells_13 : decode cX8_weakBells 13 = .ok (.iload_n 1, 1) := by decide +kernel
theorem dX8_weakBells_14 : decode cX8_weakBells 14 = .ok (.invokevirtual 61, 3) := by decide +kernel
theorem dX8_weakBells_17 : decode cX8_weakBells 17 = .ok (.ireturn, 1) := by decide +kernel
theorem dX8_weakBells_18 : decode cX8_weakBells 18 = .ok (.iload_n 2, 1) := by decide +kernel
theorem dX8_weakBells_19 : decode cX8_weakBells 19 = .ok (.ifCond .le 11, 3) := by decide +kernel
theorem dX8_weakBells_22 : decode cX8_weakBells 22 = .ok (.aload_n 0, 1) := by decide +kernel
theorem dX8_weakBells_23 : decode cX8_weakBells 23 = .ok (.iload_n 1, 1) := by decide +kernel
theorem dX8_weakBells_24 : decode cX8_weakBells 24 = .ok (.invokevirtual 58, 3) := by decide +kernel
theorem dX8_weakBells_27 : decode cX8_weakBells 27 = .ok (.goto 4, 3) := by decide +kernel
theorem dX8_weakBells_30 : decode cX8_weakBells 30 = .ok (.iconst 0, 1) := by decide +kernel
theorem dX8_weakBells_31 : decode cX8_weakBells 31 = .ok (.ireturn, 1) := by decide +kernel
theorem dX8_pullsThatRing_0 : decode cX8_pullsThatRing 0 = .ok (.iconst 0, 1) := by decide +kernel
theorem dX8_pullsThatRing_1 : decode cX8_pullsThatRing 1 = .ok (.istore_n 3, 1) := by decide +kernel
theorem dX8_pullsThatRing_2 : decode cX8_pullsThatRing 2 = .ok (.iconst 0, 1) := by decide +kernel
theorem dX8_pullsThatRing_3 : decode cX8_pullsThatRing 3 = .ok (.istore 4, 2) := by decide +kernel
theorem dX8_pullsThatRing_5 : decode cX8_pullsThatRing 5 = .ok (.iload 4, 2) := by decide +kernel
theorem dX8_pullsThatRing_7 : decode cX8_pullsThatRing 7 = .ok (.aload_n 0, 1) := by decide +kernel
theorem dX8_pullsThatRing_8 : decode cX8_pullsThatRing 8 = .ok (.getfield 18, 3) := by decide +kernel
theorem dX8_pullsThatRing_11 : decode cX8_pullsThatRing 11 = .ok (.getfield 64, 3) := by decide +kernel
theorem dX8_pullsThatRing_14 : decode cX8_pullsThatRing 14 = .ok (.if_icmp .ge 58, 3) := by decide +kernel
theorem dX8_pullsThatRing_17 : decode cX8_pullsThatRing 17 = .ok (.iconst 0, 1) := by decide +kernel
theorem dX8_pullsThatRing_18 : decode cX8_pullsThatRing 18 = .ok (.istore 5, 2) := by decide +kernel
theorem dX8_pullsThatRing_20 : decode cX8_pullsThatRing 20 = .ok (.iload_n 2, 1) := by decide +kernel
theorem dX8_pullsThatRing_21 : decode cX8_pullsThatRing 21 = .ok (.iconst 1, 1) := by decide +kernel
theorem dX8_pullsThatRing_22 : decode cX8_pullsThatRing 22 = .ok (.if_icmp .eq 14, 3) := by decide +kernel
theorem dX8_pullsThatRing_25 : decode cX8_pullsThatRing 25 = .ok (.iload 5, 2) := by decide +kernel
theorem dX8_pullsThatRing_27 : decode cX8_pullsThatRing 27 = .ok (.aload_n 0, 1) := by decide +kernel
theorem dX8_pullsThatRing_28 : decode cX8_pullsThatRing 28 = .ok (.iload 4, 2) := by decide +kernel
theorem dX8_pullsThatRing_30 : decode cX8_pullsThatRing 30 = .ok (.invokevirtual 67, 3) := by decide +kernel
theorem dX8_pullsThatRing_33 : decode cX8_pullsThatRing 33 = .ok (.ior, 1) := by decide +kernel
theorem dX8_pullsThatRing_34 : decode cX8_pullsThatRing 34 = .ok (.istore 5, 2) := by decide +kernel
theorem dX8_pullsThatRing_36 : decode cX8_pullsThatRing 36 = .ok (.iload_n 2, 1) := by decide +kernel
theorem dX8_pullsThatRing_37 : decode cX8_pullsThatRing 37 = .ok (.iconst 2, 1) := by decide +kernel
theorem dX8_pullsThatRing_38 : decode cX8_pullsThatRing 38 = .ok (.if_icmp .eq 14, 3) := by decide +kernel
theorem dX8_pullsThatRing_41 : decode cX8_pullsThatRing 41 = .ok (.iload 5, 2) := by decide +kernel
theorem dX8_pullsThatRing_43 : decode cX8_pullsThatRing 43 = .ok (.aload_n 0, 1) := by decide +kernel
theorem dX8_pullsThatRing_44 : decode cX8_pullsThatRing 44 = .ok (.iload 4, 2) := by decide +kernel
theorem dX8_pullsThatRing_46 : decode cX8_pullsThatRing 46 = .ok (.invokevirtual 70, 3) := by decide +kernel
theorem dX8_pullsThatRing_49 : decode cX8_pullsThatRing 49 = .ok (.ior, 1) := by decide +kernel
theorem dX8_pullsThatRing_50 : decode cX8_pullsThatRing 50 = .ok (.istore 5, 2) := by decide +kernel
theorem dX8_pullsThatRing_52 : decode cX8_pullsThatRing 52 = .ok (.iload 5, 2) := by decide +kernel
theorem dX8_pullsThatRing_54 : decode cX8_pullsThatRing 54 = .ok (.iload_n 1, 1) := by decide +kernel
theorem dX8_pullsThatRing_55 : decode cX8_pullsThatRing 55 = .ok (.iand, 1) := by decide +kernel
theorem dX8_pullsThatRing_56 : decode cX8_pullsThatRing 56 = .ok (.ifCond .eq 10, 3) := by decide +kernel
theorem dX8_pullsThatRing_59 : decode cX8_pullsThatRing 59 = .ok (.iload_n 3, 1) := by decide +kernel
theorem dX8_pullsThatRing_60 : decode cX8_pullsThatRing 60 = .ok (.iconst 1, 1) := by decide +kernel
theorem dX8_pullsThatRing_61 : decode cX8_pullsThatRing 61 = .ok (.iload 4, 2) := by decide +kernel
theorem dX8_pullsThatRing_63 : decode cX8_pullsThatRing 63 = .ok (.ishl, 1) := by decide +kernel
theorem dX8_pullsThatRing_64 : decode cX8_pullsThatRing 64 = .ok (.ior, 1) := by decide +kernel
theorem dX8_pullsThatRing_65 : decode cX8_pullsThatRing 65 = .ok (.istore_n 3, 1) := by decide +kernel
theorem dX8_pullsThatRing_66 : decode cX8_pullsThatRing 66 = .ok (.iinc 4 1, 3) := by decide +kernel
theorem dX8_pullsThatRing_69 : decode cX8_pullsThatRing 69 = .ok (.goto (-64), 3) := by decide +kernel
theorem dX8_pullsThatRing_72 : decode cX8_pullsThatRing 72 = .ok (.iload_n 3, 1) := by decide +kernel
theorem dX8_pullsThatRing_73 : decode cX8_pullsThatRing 73 = .ok (.ireturn, 1) := by decide +kernel
theorem dX8_hasDead_0 : decode cX8_hasDead 0 = .ok (.aload_n 0, 1) := by decide +kernel
theorem dX8_hasDead_1 : decode cX8_hasDead 1 = .ok (.getfield 18, 3) := by decide +kernel
theorem dX8_hasDead_4 : decode cX8_hasDead 4 = .ok (.getfield 46, 3) := by decide +kernel
theorem dX8_hasDead_7 : decode cX8_hasDead 7 = .ok (.iload_n 1, 1) := by decide +kernel
theorem dX8_hasDead_8 : decode cX8_hasDead 8 = .ok (.iaload, 1) := by decide +kernel
theorem dX8_hasDead_9 : decode cX8_hasDead 9 = .ok (.aload_n 0, 1) := by decide +kernel
theorem dX8_hasDead_10 : decode cX8_hasDead 10 = .ok (.getfield 26, 3) := by decide +kernel
theorem dX8_hasDead_13 : decode cX8_hasDead 13 = .ok (.iand, 1) := by decide +kernel
theorem dX8_hasDead_14 : decode cX8_hasDead 14 = .ok (.ifCond .eq 7, 3) := by decide +kernel
theorem dX8_hasDead_17 : decode cX8_hasDead 17 = .ok (.iconst 1, 1) := by decide +kernel
theorem dX8_hasDead_18 : decode cX8_hasDead 18 = .ok (.goto 4, 3) := by decide +kernel
theorem dX8_hasDead_21 : decode cX8_hasDead 21 = .ok (.iconst 0, 1) := by decide +kernel
theorem dX8_hasDead_22 : decode cX8_hasDead 22 = .ok (.ireturn, 1) := by decide +kernel
theorem dX8_soundingBell_0 : decode cX8_soundingBell 0 = .ok (.iconst 1, 1) := by decide +kernel
theorem dX8_soundingBell_1 : decode cX8_soundingBell 1 = .ok (.aload_n 0, 1) := by decide +kernel
theorem dX8_soundingBell_2 : decode cX8_soundingBell 2 = .ok (.getfield 18, 3) := by decide +kernel
theorem dX8_soundingBell_5 : decode cX8_soundingBell 5 = .ok (.getfield 73, 3) := by decide +kernel
theorem dX8_soundingBell_8 : decode cX8_soundingBell 8 = .ok (.iload_n 1, 1) := by decide +kernel
theorem dX8_soundingBell_9 : decode cX8_soundingBell 9 = .ok (.iaload, 1) := by decide +kernel
theorem dX8_soundingBell_10 : decode cX8_soundingBell 10 = .ok (.ishl, 1) := by decide +kernel
theorem dX8_soundingBell_11 : decode cX8_soundingBell 11 = .ok (.aload_n 0, 1) := by decide +kernel
theorem dX8_soundingBell_12 : decode cX8_soundingBell 12 = .ok (.getfield 22, 3) := by decide +kernel
theorem dX8_soundingBell_15 : decode cX8_soundingBell 15 = .ok (.getfield 76, 3) := by decide +kernel
theorem dX8_soundingBell_18 : decode cX8_soundingBell 18 = .ok (.iconst (-1), 1) := by decide +kernel
theorem dX8_soundingBell_19 : decode cX8_soundingBell 19 = .ok (.ixor, 1) := by decide +kernel
theorem dX8_soundingBell_20 : decode cX8_soundingBell 20 = .ok (.iand, 1) := by decide +kernel
theorem dX8_soundingBell_21 : decode cX8_soundingBell 21 = .ok (.ireturn, 1) := by decide +kernel
theorem dX8_bellsPulledAlong_0 : decode cX8_bellsPulledAlong 0 = .ok (.aload_n 0, 1) := by decide +kernel
theorem dX8_bellsPulledAlong_1 : decode cX8_bellsPulledAlong 1 = .ok (.aload_n 0, 1) := by decide +kernel
theorem dX8_bellsPulledAlong_2 : decode cX8_bellsPulledAlong 2 = .ok (.getfield 18, 3) := by decide +kernel
theorem dX8_bellsPulledAlong_5 : decode cX8_bellsPulledAlong 5 = .ok (.getfield 46, 3) := by decide +kernel
theorem dX8_bellsPulledAlong_8 : decode cX8_bellsPulledAlong 8 = .ok (.iload_n 1, 1) := by decide +kernel
theorem dX8_bellsPulledAlong_9 : decode cX8_bellsPulledAlong 9 = .ok (.iaload, 1) := by decide +kernel
theorem dX8_bellsPulledAlong_10 : decode cX8_bellsPulledAlong 10 = .ok (.invokevirtual 81, 3) := by decide +kernel
theorem dX8_bellsPulledAlong_13 : decode cX8_bellsPulledAlong 13 = .ok (.istore_n 2, 1) := by decide +kernel
theorem dX8_bellsPulledAlong_14 : decode cX8_bellsPulledAlong 14 = .ok (.iload_n 2, 1) := by decide +kernel
theorem dX8_bellsPulledAlong_15 : decode cX8_bellsPulledAlong 15 = .ok (.ifCond .ne 5, 3) := by decide +kernel
theorem dX8_bellsPulledAlong_18 : decode cX8_bellsPulledAlong 18 = .ok (.iconst 0, 1) := by decide +kernel
theorem dX8_bellsPulledAlong_19 : decode cX8_bellsPulledAlong 19 = .ok (.ireturn, 1) := by decide +kernel
theorem dX8_bellsPulledAlong_20 : decode cX8_bellsPulledAlong 20 = .ok (.iconst 0, 1) := by decide +kernel
theorem dX8_bellsPulledAlong_21 : decode cX8_bellsPulledAlong 21 = .ok (.istore_n 3, 1) := by decide +kernel
theorem dX8_bellsPulledAlong_22 : decode cX8_bellsPulledAlong 22 = .ok (.iconst 0, 1) := by decide +kernel
theorem dX8_bellsPulledAlong_23 : decode cX8_bellsPulledAlong 23 = .ok (.istore 4, 2) := by decide +kernel
theorem dX8_bellsPulledAlong_25 : decode cX8_bellsPulledAlong 25 = .ok (.iload 4, 2) := by decide +kernel
theorem dX8_bellsPulledAlong_27 : decode cX8_bellsPulledAlong 27 = .ok (.aload_n 0, 1) := by decide +kernel
theorem dX8_bellsPulledAlong_28 : decode cX8_bellsPulledAlong 28 = .ok (.getfield 18, 3) := by decide +kernel
theorem dX8_bellsPulledAlong_31 : decode cX8_bellsPulledAlong 31 = .ok (.getfield 64, 3) := by decide +kernel
theorem dX8_bellsPulledAlong_34 : decode cX8_bellsPulledAlong 34 = .ok (.if_icmp .ge 48, 3) := by decide +kernel
theorem dX8_bellsPulledAlong_37 : decode cX8_bellsPulledAlong 37 = .ok (.iload 4, 2) := by decide +kernel
theorem dX8_bellsPulledAlong_39 : decode cX8_bellsPulledAlong 39 = .ok (.iload_n 1, 1) := by decide +kernel
theorem dX8_bellsPulledAlong_40 : decode cX8_bellsPulledAlong 40 = .ok (.if_icmp .eq 36, 3) := by decide +kernel
theorem dX8_bellsPulledAlong_43 : decode cX8_bellsPulledAlong 43 = .ok (.aload_n 0, 1) := by decide +kernel
theorem dX8_bellsPulledAlong_44 : decode cX8_bellsPulledAlong 44 = .ok (.getfield 18, 3) := by decide +kernel
theorem dX8_bellsPulledAlong_47 : decode cX8_bellsPulledAlong 47 = .ok (.getfield 46, 3) := by decide +kernel
theorem dX8_bellsPulledAlong_50 : decode cX8_bellsPulledAlong 50 = .ok (.iload 4, 2) := by decide +kernel
theorem dX8_bellsPulledAlong_52 : decode cX8_bellsPulledAlong 52 = .ok (.iaload, 1) := by decide +kernel
theorem dX8_bellsPulledAlong_53 : decode cX8_bellsPulledAlong 53 = .ok (.iload_n 2, 1) := by decide +kernel
theorem dX8_bellsPulledAlong_54 : decode cX8_bellsPulledAlong 54 = .ok (.iand, 1) := by decide +kernel
theorem dX8_bellsPulledAlong_55 : decode cX8_bellsPulledAlong 55 = .ok (.ifCond .eq 21, 3) := by decide +kernel
theorem dX8_bellsPulledAlong_58 : decode cX8_bellsPulledAlong 58 = .ok (.aload_n 0, 1) := by decide +kernel
theorem dX8_bellsPulledAlong_59 : decode cX8_bellsPulledAlong 59 = .ok (.iload 4, 2) := by decide +kernel
theorem dX8_bellsPulledAlong_61 : decode cX8_bellsPulledAlong 61 = .ok (.invokevirtual 33, 3) := by decide +kernel
theorem dX8_bellsPulledAlong_64 : decode cX8_bellsPulledAlong 64 = .ok (.ifCond .ne 12, 3) := by decide +kernel
theorem dX8_bellsPulledAlong_67 : decode cX8_bellsPulledAlong 67 = .ok (.iload_n 3, 1) := by decide +kernel
theorem dX8_bellsPulledAlong_68 : decode cX8_bellsPulledAlong 68 = .ok (.aload_n 0, 1) := by decide +kernel
theorem dX8_bellsPulledAlong_69 : decode cX8_bellsPulledAlong 69 = .ok (.iload 4, 2) := by decide +kernel
theorem dX8_bellsPulledAlong_71 : decode cX8_bellsPulledAlong 71 = .ok (.invokevirtual 58, 3) := by decide +kernel
theorem dX8_bellsPulledAlong_74 : decode cX8_bellsPulledAlong 74 = .ok (.ior, 1) := by decide +kernel
theorem dX8_bellsPulledAlong_75 : decode cX8_bellsPulledAlong 75 = .ok (.istore_n 3, 1) := by decide +kernel
theorem dX8_bellsPulledAlong_76 : decode cX8_bellsPulledAlong 76 = .ok (.iinc 4 1, 3) := by decide +kernel
theorem dX8_bellsPulledAlong_79 : decode cX8_bellsPulledAlong 79 = .ok (.goto (-54), 3) := by decide +kernel
theorem dX8_bellsPulledAlong_82 : decode cX8_bellsPulledAlong 82 = .ok (.iload_n 3, 1) := by decide +kernel
theorem dX8_bellsPulledAlong_83 : decode cX8_bellsPulledAlong 83 = .ok (.iconst 1, 1) := by decide +kernel
theorem dX8_bellsPulledAlong_84 : decode cX8_bellsPulledAlong 84 = .ok (.aload_n 0, 1) := by decide +kernel
theorem dX8_bellsPulledAlong_85 : decode cX8_bellsPulledAlong 85 = .ok (.getfield 18, 3) := by decide +kernel
theorem dX8_bellsPulledAlong_88 : decode cX8_bellsPulledAlong 88 = .ok (.getfield 73, 3) := by decide +kernel
theorem dX8_bellsPulledAlong_91 : decode cX8_bellsPulledAlong 91 = .ok (.iload_n 1, 1) := by decide +kernel
theorem dX8_bellsPulledAlong_92 : decode cX8_bellsPulledAlong 92 = .ok (.iaload, 1) := by decide +kernel
theorem dX8_bellsPulledAlong_93 : decode cX8_bellsPulledAlong 93 = .ok (.ishl, 1) := by decide +kernel
theorem dX8_bellsPulledAlong_94 : decode cX8_bellsPulledAlong 94 = .ok (.iconst (-1), 1) := by decide +kernel
theorem dX8_bellsPulledAlong_95 : decode cX8_bellsPulledAlong 95 = .ok (.ixor, 1) := by decide +kernel
theorem dX8_bellsPulledAlong_96 : decode cX8_bellsPulledAlong 96 = .ok (.iand, 1) := by decide +kernel
theorem dX8_bellsPulledAlong_97 : decode cX8_bellsPulledAlong 97 = .ok (.ireturn, 1) := by decide +kernel
theorem dX8_cranksCrossedWith_0 : decode cX8_cranksCrossedWith 0 = .ok (.iconst 0, 1) := by decide +kernel
theorem dX8_cranksCrossedWith_1 : decode cX8_cranksCrossedWith 1 = .ok (.istore_n 2, 1) := by decide +kernel
theorem dX8_cranksCrossedWith_2 : decode cX8_cranksCrossedWith 2 = .ok (.iconst 0, 1) := by decide +kernel
theorem dX8_cranksCrossedWith_3 : decode cX8_cranksCrossedWith 3 = .ok (.istore_n 3, 1) := by decide +kernel
theorem dX8_cranksCrossedWith_4 : decode cX8_cranksCrossedWith 4 = .ok (.iload_n 3, 1) := by decide +kernel
theorem dX8_cranksCrossedWith_5 : decode cX8_cranksCrossedWith 5 = .ok (.bipush 16, 2) := by decide +kernel
theorem dX8_cranksCrossedWith_7 : decode cX8_cranksCrossedWith 7 = .ok (.if_icmp .ge 26, 3) := by decide +kernel
theorem dX8_cranksCrossedWith_10 : decode cX8_cranksCrossedWith 10 = .ok (.iload_n 1, 1) := by decide +kernel
theorem dX8_cranksCrossedWith_11 : decode cX8_cranksCrossedWith 11 = .ok (.iload_n 3, 1) := by decide +kernel
theorem dX8_cranksCrossedWith_12 : decode cX8_cranksCrossedWith 12 = .ok (.ishr, 1) := by decide +kernel
theorem dX8_cranksCrossedWith_13 : decode cX8_cranksCrossedWith 13 = .ok (.iconst 1, 1) := by decide +kernel
theorem dX8_cranksCrossedWith_14 : decode cX8_cranksCrossedWith 14 = .ok (.iand, 1) := by decide +kernel
theorem dX8_cranksCrossedWith_15 : decode cX8_cranksCrossedWith 15 = .ok (.ifCond .eq 12, 3) := by decide +kernel
theorem dX8_cranksCrossedWith_18 : decode cX8_cranksCrossedWith 18 = .ok (.iload_n 2, 1) := by decide +kernel
theorem dX8_cranksCrossedWith_19 : decode cX8_cranksCrossedWith 19 = .ok (.aload_n 0, 1) := by decide +kernel
theorem dX8_cranksCrossedWith_20 : decode cX8_cranksCrossedWith 20 = .ok (.getfield 15, 3) := by decide +kernel
theorem dX8_cranksCrossedWith_23 : decode cX8_cranksCrossedWith 23 = .ok (.iload_n 3, 1) := by decide +kernel
theorem dX8_cranksCrossedWith_24 : decode cX8_cranksCrossedWith 24 = .ok (.iaload, 1) := by decide +kernel
theorem dX8_cranksCrossedWith_25 : decode cX8_cranksCrossedWith 25 = .ok (.ior, 1) := by decide +kernel
theorem dX8_cranksCrossedWith_26 : decode cX8_cranksCrossedWith 26 = .ok (.istore_n 2, 1) := by decide +kernel
theorem dX8_cranksCrossedWith_27 : decode cX8_cranksCrossedWith 27 = .ok (.iinc 3 1, 3) := by decide +kernel
theorem dX8_cranksCrossedWith_30 : decode cX8_cranksCrossedWith 30 = .ok (.goto (-26), 3) := by decide +kernel
theorem dX8_cranksCrossedWith_33 : decode cX8_cranksCrossedWith 33 = .ok (.iload_n 2, 1) := by decide +kernel
theorem dX8_cranksCrossedWith_34 : decode cX8_cranksCrossedWith 34 = .ok (.ireturn, 1) := by decide +kernel
theorem dX9_init_0 : decode cX9_init 0 = .ok (.aload_n 0, 1) := by decide +kernel
theorem dX9_init_1 : decode cX9_init 1 = .ok (.invokespecial 1, 3) := by decide +kernel
theorem dX9_init_4 : decode cX9_init 4 = .ok (.aload_n 0, 1) := by decide +kernel
theorem dX9_init_5 : decode cX9_init 5 = .ok (.new 7, 3) := by decide +kernel
theorem dX9_init_8 : decode cX9_init 8 = .ok (.dup, 1) := by decide +kernel
theorem dX9_init_9 : decode cX9_init 9 = .ok (.invokespecial 9, 3) := by decide +kernel
theorem dX9_init_12 : decode cX9_init 12 = .ok (.putfield 10, 3) := by decide +kernel
theorem dX9_init_15 : decode cX9_init 15 = .ok (.aload_n 0, 1) := by decide +kernel
theorem dX9_init_16 : decode cX9_init 16 = .ok (.new 16, 3) := by decide +kernel
theorem dX9_init_19 : decode cX9_init 19 = .ok (.dup, 1) := by decide +kernel
theorem dX9_init_20 : decode cX9_init 20 = .ok (.invokespecial 18, 3) := by decide +kernel
theorem dX9_init_23 : decode cX9_init 23 = .ok (.putfield 19, 3) := by decide +kernel
theorem dX9_init_26 : decode cX9_init 26 = .ok (.aload_n 0, 1) := by decide +kernel
theorem dX9_init_27 : decode cX9_init 27 = .ok (.new 23, 3) := by decide +kernel
theorem dX9_init_30 : decode cX9_init 30 = .ok (.dup, 1) := by decide +kernel
theorem dX9_init_31 : decode cX9_init 31 = .ok (.aload_n 0, 1) := by decide +kernel
theorem dX9_init_32 : decode cX9_init 32 = .ok (.getfield 10, 3) := by decide +kernel
theorem dX9_init_35 : decode cX9_init 35 = .ok (.aload_n 0, 1) := by decide +kernel
theorem dX9_init_36 : decode cX9_init 36 = .ok (.getfield 19, 3) := by decide +kernel
theorem dX9_init_39 : decode cX9_init 39 = .ok (.invokespecial 25, 3) := by decide +kernel
theorem dX9_init_42 : decode cX9_init 42 = .ok (.putfield 28, 3) := by decide +kernel
theorem dX9_init_45 : decode cX9_init 45 = .ok (.aload_n 0, 1) := by decide +kernel
theorem dX9_init_46 : decode cX9_init 46 = .ok (.new 32, 3) := by decide +kernel
theorem dX9_init_49 : decode cX9_init 49 = .ok (.dup, 1) := by decide +kernel
theorem dX9_init_50 : decode cX9_init 50 = .ok (.invokespecial 34, 3) := by decide +kernel
theorem dX9_init_53 : decode cX9_init 53 = .ok (.putfield 35, 3) := by decide +kernel
theorem dX9_init_56 : decode cX9_init 56 = .ok (.aload_n 0, 1) := by decide +kernel
theorem dX9_init_57 : decode cX9_init 57 = .ok (.new 39, 3) := by decide +kernel
theorem dX9_init_60 : decode cX9_init 60 = .ok (.dup, 1) := by decide +kernel
theorem dX9_init_61 : decode cX9_init 61 = .ok (.invokespecial 41, 3) := by decide +kernel
theorem dX9_init_64 : decode cX9_init 64 = .ok (.putfield 42, 3) := by decide +kernel
theorem dX9_init_67 : decode cX9_init 67 = .ok (.aload_n 0, 1) := by decide +kernel
theorem dX9_init_68 : decode cX9_init 68 = .ok (.new 46, 3) := by decide +kernel
theorem dX9_init_71 : decode cX9_init 71 = .ok (.dup, 1) := by decide +kernel
theorem dX9_init_72 : decode cX9_init 72 = .ok (.aload_n 0, 1) := by decide +kernel
theorem dX9_init_73 : decode cX9_init 73 = .ok (.getfield 10, 3) := by decide +kernel
theorem dX9_init_76 : decode cX9_init 76 = .ok (.aload_n 0, 1) := by decide +kernel
theorem dX9_init_77 : decode cX9_init 77 = .ok (.getfield 35, 3) := by decide +kernel
theorem dX9_init_80 : decode cX9_init 80 = .ok (.aload_n 0, 1) := by decide +kernel
theorem dX9_init_81 : decode cX9_init 81 = .ok (.getfield 42, 3) := by decide +kernel
theorem dX9_init_84 : decode cX9_init 84 = .ok (.invokespecial 48, 3) := by decide +kernel
theorem dX9_init_87 : decode cX9_init 87 = .ok (.putfield 51, 3) := by decide +kernel
theorem dX9_init_90 : decode cX9_init 90 = .ok (.aload_n 0, 1) := by decide +kernel
theorem dX9_init_91 : decode cX9_init 91 = .ok (.new 55, 3) := by decide +kernel
theorem dX9_init_94 : decode cX9_init 94 = .ok (.dup, 1) := by decide +kernel
theorem dX9_init_95 : decode cX9_init 95 = .ok (.aload_n 0, 1) := by decide +kernel
theorem dX9_init_96 : decode cX9_init 96 = .ok (.getfield 10, 3) := by decide +kernel
theorem dX9_init_99 : decode cX9_init 99 = .ok (.aload_n 0, 1) := by decide +kernel
theorem dX9_init_100 : decode cX9_init 100 = .ok (.getfield 35, 3) := by decide +kernel
theorem dX9_init_103 : decode cX9_init 103 = .ok (.aload_n 0, 1) := by decide +kernel
theorem dX9_init_104 : decode cX9_init 104 = .ok (.getfield 42, 3) := by decide +kernel
theorem dX9_init_107 : decode cX9_init 107 = .ok (.invokespecial 57, 3) := by decide +kernel
theorem dX9_init_110 : decode cX9_init 110 = .ok (.putfield 58, 3) := by decide +kernel
theorem dX9_init_113 : decode cX9_init 113 = .ok (.aload_n 0, 1) := by decide +kernel
theorem dX9_init_114 : decode cX9_init 114 = .ok (.new 62, 3) := by decide +kernel
theorem dX9_init_117 : decode cX9_init 117 = .ok (.dup, 1) := by decide +kernel
theorem dX9_init_118 : decode cX9_init 118 = .ok (.aload_n 0, 1) := by decide +kernel
theorem dX9_init_119 : decode cX9_init 119 = .ok (.getfield 10, 3) := by decide +kernel
theorem dX9_init_122 : decode cX9_init 122 = .ok (.invokespecial 64, 3) := by decide +kernel
theorem dX9_init_125 : decode cX9_init 125 = .ok (.putfield 67, 3) := by decide +kernel
theorem dX9_init_128 : decode cX9_init 128 = .ok (.aload_n 0, 1) := by decide +kernel
theorem dX9_init_129 : decode cX9_init 129 = .ok (.new 71, 3) := by decide +kernel
theorem dX9_init_132 : decode cX9_init 132 = .ok (.dup, 1) := by decide +kernel
theorem dX9_init_133 : decode cX9_init 133 = .ok (.invokespecial 73, 3) := by decide +kernel
theorem dX9_init_136 : decode cX9_init 136 = .ok (.putfield 74, 3) := by decide +kernel
theorem dX9_init_139 : decode cX9_init 139 = .ok (.return_, 1) := by decide +kernel
theorem dX9_crank_0 : decode cX9_crank 0 = .ok (.iload_n 1, 1) := by decide +kernel
theorem dX9_crank_1 : decode cX9_crank 1 = .ok (.bipush 16, 2) := by decide +kernel
theorem dX9_crank_3 : decode cX9_crank 3 = .ok (.invokestatic 78, 3) := by decide +kernel
theorem dX9_crank_6 : decode cX9_crank 6 = .ok (.ifCond .eq 13, 3) := by decide +kernel
theorem dX9_crank_9 : decode cX9_crank 9 = .ok (.iload_n 2, 1) := by decide +kernel
theorem dX9_crank_10 : decode cX9_crank 10 = .ok (.ifCond .lt 9, 3) := by decide +kernel
theorem dX9_crank_13 : decode cX9_crank 13 = .ok (.iload_n 2, 1) := by decide +kernel
theorem dX9_crank_14 : decode cX9_crank 14 = .ok (.bipush 10, 2) := by decide +kernel
theorem dX9_crank_16 : decode cX9_crank 16 = .ok (.if_icmp .le 5, 3) := by decide +kernel
theorem dX9_crank_19 : decode cX9_crank 19 = .ok (.iconst (-1), 1) := by decide +kernel
theorem dX9_crank_20 : decode cX9_crank 20 = .ok (.ireturn, 1) := by decide +kernel
theorem dX9_crank_21 : decode cX9_crank 21 = .ok (.aload_n 0, 1) := by decide +kernel
theorem dX9_crank_22 : decode cX9_crank 22 = .ok (.getfield 28, 3) := by decide +kernel
theorem dX9_crank_25 : decode cX9_crank 25 = .ok (.iload_n 1, 1) := by decide +kernel
end
section
theorem dX9_crank_26 : decode cX9_crank 26 = .ok (.iload_n 2, 1) := by decide +kernel
theorem dX9_crank_27 : decode cX9_crank 27 = .ok (.invokevirtual 82, 3) := by decide +kernel
theorem dX9_crank_30 : decode cX9_crank 30 = .ok (.ireturn, 1) := by decide +kernel
theorem dX9_bell_0 : decode cX9_bell 0 = .ok (.iload_n 1, 1) := by decide +kernel
theorem dX9_bell_1 : decode cX9_bell 1 = .ok (.bipush 8, 2) := by decide +kernel
theorem dX9_bell_3 : decode cX9_bell 3 = .ok (.invokestatic 78, 3) := by decide +kernel
theorem dX9_bell_6 : decode cX9_bell 6 = .ok (.ifCond .ne 5, 3) := by decide +kernel
theorem dX9_bell_9 : decode cX9_bell 9 = .ok (.iconst (-1), 1) := by decide +kernel
theorem dX9_bell_10 : decode cX9_bell 10 = .ok (.ireturn, 1) := by decide +kernel
theorem dX9_bell_11 : decode cX9_bell 11 = .ok (.iload_n 2, 1) := by decide +kernel
theorem dX9_bell_12 : decode cX9_bell 12 = .ok (.ifCond .ne 22, 3) := by decide +kernel
theorem dX9_bell_15 : decode cX9_bell 15 = .ok (.iload_n 3, 1) := by decide +kernel
theorem dX9_bell_16 : decode cX9_bell 16 = .ok (.bipush 6, 2) := by decide +kernel
theorem dX9_bell_18 : decode cX9_bell 18 = .ok (.invokestatic 78, 3) := by decide +kernel
theorem dX9_bell_21 : decode cX9_bell 21 = .ok (.ifCond .eq 13, 3) := by decide +kernel
theorem dX9_bell_24 : decode cX9_bell 24 = .ok (.aload_n 0, 1) := by decide +kernel
theorem dX9_bell_25 : decode cX9_bell 25 = .ok (.getfield 19, 3) := by decide +kernel
theorem dX9_bell_28 : decode cX9_bell 28 = .ok (.iload_n 1, 1) := by decide +kernel
theorem dX9_bell_29 : decode cX9_bell 29 = .ok (.iload_n 3, 1) := by decide +kernel
theorem dX9_bell_30 : decode cX9_bell 30 = .ok (.invokevirtual 86, 3) := by decide +kernel
theorem dX9_bell_33 : decode cX9_bell 33 = .ok (.ireturn, 1) := by decide +kernel
theorem dX9_bell_34 : decode cX9_bell 34 = .ok (.iload_n 2, 1) := by decide +kernel
theorem dX9_bell_35 : decode cX9_bell 35 = .ok (.iconst 1, 1) := by decide +kernel
theorem dX9_bell_36 : decode cX9_bell 36 = .ok (.if_icmp .ne 22, 3) := by decide +kernel
theorem dX9_bell_39 : decode cX9_bell 39 = .ok (.iload_n 3, 1) := by decide +kernel
theorem dX9_bell_40 : decode cX9_bell 40 = .ok (.ifCond .eq 8, 3) := by decide +kernel
theorem dX9_bell_43 : decode cX9_bell 43 = .ok (.iload_n 3, 1) := by decide +kernel
theorem dX9_bell_44 : decode cX9_bell 44 = .ok (.iconst 1, 1) := by decide +kernel
theorem dX9_bell_45 : decode cX9_bell 45 = .ok (.if_icmp .ne 13, 3) := by decide +kernel
theorem dX9_bell_48 : decode cX9_bell 48 = .ok (.aload_n 0, 1) := by decide +kernel
theorem dX9_bell_49 : decode cX9_bell 49 = .ok (.getfield 19, 3) := by decide +kernel
theorem dX9_bell_52 : decode cX9_bell 52 = .ok (.iload_n 1, 1) := by decide +kernel
theorem dX9_bell_53 : decode cX9_bell 53 = .ok (.iload_n 3, 1) := by decide +kernel
theorem dX9_bell_54 : decode cX9_bell 54 = .ok (.invokevirtual 89, 3) := by decide +kernel
theorem dX9_bell_57 : decode cX9_bell 57 = .ok (.ireturn, 1) := by decide +kernel
theorem dX9_bell_58 : decode cX9_bell 58 = .ok (.iconst (-1), 1) := by decide +kernel
theorem dX9_bell_59 : decode cX9_bell 59 = .ok (.ireturn, 1) := by decide +kernel
theorem dX9_heat_0 : decode cX9_heat 0 = .ok (.iload_n 1, 1) := by decide +kernel
theorem dX9_heat_1 : decode cX9_heat 1 = .ok (.ifCond .lt 9, 3) := by decide +kernel
theorem dX9_heat_4 : decode cX9_heat 4 = .ok (.iload_n 1, 1) := by decide +kernel
theorem dX9_heat_5 : decode cX9_heat 5 = .ok (.bipush 40, 2) := by decide +kernel
theorem dX9_heat_7 : decode cX9_heat 7 = .ok (.if_icmp .le 5, 3) := by decide +kernel
theorem dX9_heat_10 : decode cX9_heat 10 = .ok (.iconst (-1), 1) := by decide +kernel
theorem dX9_heat_11 : decode cX9_heat 11 = .ok (.ireturn, 1) := by decide +kernel
theorem dX9_heat_12 : decode cX9_heat 12 = .ok (.aload_n 0, 1) := by decide +kernel
theorem dX9_heat_13 : decode cX9_heat 13 = .ok (.getfield 28, 3) := by decide +kernel
theorem dX9_heat_16 : decode cX9_heat 16 = .ok (.getfield 92, 3) := by decide +kernel
theorem dX9_heat_19 : decode cX9_heat 19 = .ok (.istore_n 2, 1) := by decide +kernel
theorem dX9_heat_20 : decode cX9_heat 20 = .ok (.aload_n 0, 1) := by decide +kernel
theorem dX9_heat_21 : decode cX9_heat 21 = .ok (.getfield 28, 3) := by decide +kernel
theorem dX9_heat_24 : decode cX9_heat 24 = .ok (.iload_n 1, 1) := by decide +kernel
theorem dX9_heat_25 : decode cX9_heat 25 = .ok (.putfield 92, 3) := by decide +kernel
theorem dX9_heat_28 : decode cX9_heat 28 = .ok (.iload_n 2, 1) := by decide +kernel
theorem dX9_heat_29 : decode cX9_heat 29 = .ok (.ireturn, 1) := by decide +kernel
theorem dX9_pull_0 : decode cX9_pull 0 = .ok (.iload_n 1, 1) := by decide +kernel
theorem dX9_pull_1 : decode cX9_pull 1 = .ok (.iconst 4, 1) := by decide +kernel
theorem dX9_pull_2 : decode cX9_pull 2 = .ok (.invokestatic 78, 3) := by decide +kernel
theorem dX9_pull_5 : decode cX9_pull 5 = .ok (.ifCond .eq 40, 3) := by decide +kernel
theorem dX9_pull_8 : decode cX9_pull 8 = .ok (.iload_n 2, 1) := by decide +kernel
theorem dX9_pull_9 : decode cX9_pull 9 = .ok (.bipush 31, 2) := by decide +kernel
theorem dX9_pull_11 : decode cX9_pull 11 = .ok (.invokestatic 78, 3) := by decide +kernel
theorem dX9_pull_14 : decode cX9_pull 14 = .ok (.ifCond .eq 31, 3) := by decide +kernel
theorem dX9_pull_17 : decode cX9_pull 17 = .ok (.iload_n 3, 1) := by decide +kernel
theorem dX9_pull_18 : decode cX9_pull 18 = .ok (.iconst 5, 1) := by decide +kernel
theorem dX9_pull_19 : decode cX9_pull 19 = .ok (.invokestatic 78, 3) := by decide +kernel
theorem dX9_pull_22 : decode cX9_pull 22 = .ok (.ifCond .eq 23, 3) := by decide +kernel
theorem dX9_pull_25 : decode cX9_pull 25 = .ok (.iload 4, 2) := by decide +kernel
theorem dX9_pull_27 : decode cX9_pull 27 = .ok (.bipush 8, 2) := by decide +kernel
theorem dX9_pull_29 : decode cX9_pull 29 = .ok (.invokestatic 78, 3) := by decide +kernel
theorem dX9_pull_32 : decode cX9_pull 32 = .ok (.ifCond .eq 13, 3) := by decide +kernel
theorem dX9_pull_35 : decode cX9_pull 35 = .ok (.iload 5, 2) := by decide +kernel
theorem dX9_pull_37 : decode cX9_pull 37 = .ok (.ldc 96, 2) := by decide +kernel
theorem dX9_pull_39 : decode cX9_pull 39 = .ok (.invokestatic 78, 3) := by decide +kernel
theorem dX9_pull_42 : decode cX9_pull 42 = .ok (.ifCond .ne 5, 3) := by decide +kernel
theorem dX9_pull_45 : decode cX9_pull 45 = .ok (.iconst (-1), 1) := by decide +kernel
theorem dX9_pull_46 : decode cX9_pull 46 = .ok (.ireturn, 1) := by decide +kernel
theorem dX9_pull_47 : decode cX9_pull 47 = .ok (.iload 5, 2) := by decide +kernel
theorem dX9_pull_49 : decode cX9_pull 49 = .ok (.invokestatic 97, 3) := by decide +kernel
theorem dX9_pull_52 : decode cX9_pull 52 = .ok (.istore 6, 2) := by decide +kernel
theorem dX9_pull_54 : decode cX9_pull 54 = .ok (.iload 6, 2) := by decide +kernel
theorem dX9_pull_56 : decode cX9_pull 56 = .ok (.iconst 1, 1) := by decide +kernel
theorem dX9_pull_57 : decode cX9_pull 57 = .ok (.if_icmp .lt 9, 3) := by decide +kernel
theorem dX9_pull_60 : decode cX9_pull 60 = .ok (.iload 6, 2) := by decide +kernel
theorem dX9_pull_62 : decode cX9_pull 62 = .ok (.iconst 5, 1) := by decide +kernel
theorem dX9_pull_63 : decode cX9_pull 63 = .ok (.if_icmp .le 5, 3) := by decide +kernel
theorem dX9_pull_66 : decode cX9_pull 66 = .ok (.iconst (-1), 1) := by decide +kernel
theorem dX9_pull_67 : decode cX9_pull 67 = .ok (.ireturn, 1) := by decide +kernel
theorem dX9_pull_68 : decode cX9_pull 68 = .ok (.aload_n 0, 1) := by decide +kernel
theorem dX9_pull_69 : decode cX9_pull 69 = .ok (.getfield 10, 3) := by decide +kernel
theorem dX9_pull_72 : decode cX9_pull 72 = .ok (.getfield 103, 3) := by decide +kernel
theorem dX9_pull_75 : decode cX9_pull 75 = .ok (.bipush 12, 2) := by decide +kernel
theorem dX9_pull_77 : decode cX9_pull 77 = .ok (.if_icmp .lt 6, 3) := by decide +kernel
theorem dX9_pull_80 : decode cX9_pull 80 = .ok (.bipush (-3), 2) := by decide +kernel
theorem dX9_pull_82 : decode cX9_pull 82 = .ok (.ireturn, 1) := by decide +kernel
theorem dX9_pull_83 : decode cX9_pull 83 = .ok (.aload_n 0, 1) := by decide +kernel
theorem dX9_pull_84 : decode cX9_pull 84 = .ok (.getfield 10, 3) := by decide +kernel
theorem dX9_pull_87 : decode cX9_pull 87 = .ok (.iload_n 1, 1) := by decide +kernel
theorem dX9_pull_88 : decode cX9_pull 88 = .ok (.iload_n 2, 1) := by decide +kernel
theorem dX9_pull_89 : decode cX9_pull 89 = .ok (.iload_n 3, 1) := by decide +kernel
theorem dX9_pull_90 : decode cX9_pull 90 = .ok (.iload 4, 2) := by decide +kernel
theorem dX9_pull_92 : decode cX9_pull 92 = .ok (.iload 5, 2) := by decide +kernel
theorem dX9_pull_94 : decode cX9_pull 94 = .ok (.invokevirtual 106, 3) := by decide +kernel
theorem dX9_pull_97 : decode cX9_pull 97 = .ok (.ireturn, 1) := by decide +kernel
theorem dX9_cross_0 : decode cX9_cross 0 = .ok (.iload_n 1, 1) := by decide +kernel
theorem dX9_cross_1 : decode cX9_cross 1 = .ok (.bipush 16, 2) := by decide +kernel
theorem dX9_cross_3 : decode cX9_cross 3 = .ok (.invokestatic 78, 3) := by decide +kernel
theorem dX9_cross_6 : decode cX9_cross 6 = .ok (.ifCond .eq 17, 3) := by decide +kernel
theorem dX9_cross_9 : decode cX9_cross 9 = .ok (.iload_n 2, 1) := by decide +kernel
theorem dX9_cross_10 : decode cX9_cross 10 = .ok (.bipush 16, 2) := by decide +kernel
theorem dX9_cross_12 : decode cX9_cross 12 = .ok (.invokestatic 78, 3) := by decide +kernel
theorem dX9_cross_15 : decode cX9_cross 15 = .ok (.ifCond .eq 8, 3) := by decide +kernel
theorem dX9_cross_18 : decode cX9_cross 18 = .ok (.iload_n 1, 1) := by decide +kernel
theorem dX9_cross_19 : decode cX9_cross 19 = .ok (.iload_n 2, 1) := by decide +kernel
theorem dX9_cross_20 : decode cX9_cross 20 = .ok (.if_icmp .ne 5, 3) := by decide +kernel
theorem dX9_cross_23 : decode cX9_cross 23 = .ok (.iconst (-1), 1) := by decide +kernel
theorem dX9_cross_24 : decode cX9_cross 24 = .ok (.ireturn, 1) := by decide +kernel
theorem dX9_cross_25 : decode cX9_cross 25 = .ok (.aload_n 0, 1) := by decide +kernel
theorem dX9_cross_26 : decode cX9_cross 26 = .ok (.getfield 28, 3) := by decide +kernel
theorem dX9_cross_29 : decode cX9_cross 29 = .ok (.iload_n 1, 1) := by decide +kernel
theorem dX9_cross_30 : decode cX9_cross 30 = .ok (.iload_n 2, 1) := by decide +kernel
theorem dX9_cross_31 : decode cX9_cross 31 = .ok (.invokevirtual 110, 3) := by decide +kernel
theorem dX9_cross_34 : decode cX9_cross 34 = .ok (.ifCond .eq 6, 3) := by decide +kernel
theorem dX9_cross_37 : decode cX9_cross 37 = .ok (.bipush (-2), 2) := by decide +kernel
theorem dX9_cross_39 : decode cX9_cross 39 = .ok (.ireturn, 1) := by decide +kernel
theorem dX9_cross_40 : decode cX9_cross 40 = .ok (.aload_n 0, 1) := by decide +kernel
theorem dX9_cross_41 : decode cX9_cross 41 = .ok (.getfield 28, 3) := by decide +kernel
theorem dX9_cross_44 : decode cX9_cross 44 = .ok (.getfield 113, 3) := by decide +kernel
theorem dX9_cross_47 : decode cX9_cross 47 = .ok (.iconst 4, 1) := by decide +kernel
theorem dX9_cross_48 : decode cX9_cross 48 = .ok (.if_icmp .lt 6, 3) := by decide +kernel
theorem dX9_cross_51 : decode cX9_cross 51 = .ok (.bipush (-3), 2) := by decide +kernel
theorem dX9_cross_53 : decode cX9_cross 53 = .ok (.ireturn, 1) := by decide +kernel
theorem dX9_cross_54 : decode cX9_cross 54 = .ok (.aload_n 0, 1) := by decide +kernel
theorem dX9_cross_55 : decode cX9_cross 55 = .ok (.getfield 28, 3) := by decide +kernel
theorem dX9_cross_58 : decode cX9_cross 58 = .ok (.iload_n 1, 1) := by decide +kernel
theorem dX9_cross_59 : decode cX9_cross 59 = .ok (.iload_n 2, 1) := by decide +kernel
theorem dX9_cross_60 : decode cX9_cross 60 = .ok (.invokevirtual 116, 3) := by decide +kernel
theorem dX9_cross_63 : decode cX9_cross 63 = .ok (.ireturn, 1) := by decide +kernel
theorem dX9_uncross_0 : decode cX9_uncross 0 = .ok (.aload_n 0, 1) := by decide +kernel
theorem dX9_uncross_1 : decode cX9_uncross 1 = .ok (.getfield 28, 3) := by decide +kernel
theorem dX9_uncross_4 : decode cX9_uncross 4 = .ok (.invokevirtual 119, 3) := by decide +kernel
theorem dX9_uncross_7 : decode cX9_uncross 7 = .ok (.ireturn, 1) := by decide +kernel
theorem dX9_force_0 : decode cX9_force 0 = .ok (.aload_n 0, 1) := by decide +kernel
theorem dX9_force_1 : decode cX9_force 1 = .ok (.getfield 10, 3) := by decide +kernel
theorem dX9_force_4 : decode cX9_force 4 = .ok (.iload_n 1, 1) := by decide +kernel
theorem dX9_force_5 : decode cX9_force 5 = .ok (.invokevirtual 123, 3) := by decide +kernel
theorem dX9_force_8 : decode cX9_force 8 = .ok (.ifCond .ne 5, 3) := by decide +kernel
theorem dX9_force_11 : decode cX9_force 11 = .ok (.iconst (-1), 1) := by decide +kernel
theorem dX9_force_12 : decode cX9_force 12 = .ok (.ireturn, 1) := by decide +kernel
theorem dX9_force_13 : decode cX9_force 13 = .ok (.aload_n 0, 1) := by decide +kernel
theorem dX9_force_14 : decode cX9_force 14 = .ok (.getfield 28, 3) := by decide +kernel
theorem dX9_force_17 : decode cX9_force 17 = .ok (.iload_n 1, 1) := by decide +kernel
theorem dX9_force_18 : decode cX9_force 18 = .ok (.invokevirtual 127, 3) := by decide +kernel
theorem dX9_force_21 : decode cX9_force 21 = .ok (.ireturn, 1) := by decide +kernel
theorem dX9_would_0 : decode cX9_would 0 = .ok (.aload_n 0, 1) := by decide +kernel
theorem dX9_would_1 : decode cX9_would 1 = .ok (.getfield 10, 3) := by decide +kernel
theorem dX9_would_4 : decode cX9_would 4 = .ok (.iload_n 1, 1) := by decide +kernel
theorem dX9_would_5 : decode cX9_would 5 = .ok (.invokevirtual 123, 3) := by decide +kernel
theorem dX9_would_8 : decode cX9_would 8 = .ok (.ifCond .eq 12, 3) := by decide +kernel
theorem dX9_would_11 : decode cX9_would 11 = .ok (.iload_n 2, 1) := by decide +kernel
theorem dX9_would_12 : decode cX9_would 12 = .ok (.bipush 8, 2) := by decide +kernel
theorem dX9_would_14 : decode cX9_would 14 = .ok (.invokestatic 78, 3) := by decide +kernel
theorem dX9_would_17 : decode cX9_would 17 = .ok (.ifCond .ne 5, 3) := by decide +kernel
theorem dX9_would_20 : decode cX9_would 20 = .ok (.iconst (-1), 1) := by decide +kernel
theorem dX9_would_21 : decode cX9_would 21 = .ok (.ireturn, 1) := by decide +kernel
theorem dX9_would_22 : decode cX9_would 22 = .ok (.iconst 1, 1) := by decide +kernel
theorem dX9_would_23 : decode cX9_would 23 = .ok (.iload_n 2, 1) := by decide +kernel
theorem dX9_would_24 : decode cX9_would 24 = .ok (.ishl, 1) := by decide +kernel
theorem dX9_would_25 : decode cX9_would 25 = .ok (.istore_n 3, 1) := by decide +kernel
theorem dX9_would_26 : decode cX9_would 26 = .ok (.aload_n 0, 1) := by decide +kernel
theorem dX9_would_27 : decode cX9_would 27 = .ok (.getfield 28, 3) := by decide +kernel
theorem dX9_would_30 : decode cX9_would 30 = .ok (.iload_n 1, 1) := by decide +kernel
theorem dX9_would_31 : decode cX9_would 31 = .ok (.invokevirtual 130, 3) := by decide +kernel
theorem dX9_would_34 : decode cX9_would 34 = .ok (.iload_n 3, 1) := by decide +kernel
theorem dX9_would_35 : decode cX9_would 35 = .ok (.iand, 1) := by decide +kernel
theorem dX9_would_36 : decode cX9_would 36 = .ok (.ifCond .eq 5, 3) := by decide +kernel
theorem dX9_would_39 : decode cX9_would 39 = .ok (.iconst 2, 1) := by decide +kernel
theorem dX9_would_40 : decode cX9_would 40 = .ok (.ireturn, 1) := by decide +kernel
theorem dX9_would_41 : decode cX9_would 41 = .ok (.aload_n 0, 1) := by decide +kernel
theorem dX9_would_42 : decode cX9_would 42 = .ok (.getfield 28, 3) := by decide +kernel
theorem dX9_would_45 : decode cX9_would 45 = .ok (.iload_n 1, 1) := by decide +kernel
theorem dX9_would_46 : decode cX9_would 46 = .ok (.invokevirtual 133, 3) := by decide +kernel
theorem dX9_would_49 : decode cX9_would 49 = .ok (.iload_n 3, 1) := by decide +kernel
theorem dX9_would_50 : decode cX9_would 50 = .ok (.iand, 1) := by decide +kernel
theorem dX9_would_51 : decode cX9_would 51 = .ok (.ifCond .eq 7, 3) := by decide +kernel
theorem dX9_would_54 : decode cX9_would 54 = .ok (.iconst 1, 1) := by decide +kernel
theorem dX9_would_55 : decode cX9_would 55 = .ok (.goto 4, 3) := by decide +kernel
theorem dX9_would_58 : decode cX9_would 58 = .ok (.iconst 0, 1) := by decide +kernel
theorem dX9_would_59 : decode cX9_would 59 = .ok (.ireturn, 1) := by decide +kernel
theorem dX9_means_0 : decode cX9_means 0 = .ok (.iload_n 1, 1) := by decide +kernel
theorem dX9_means_1 : decode cX9_means 1 = .ok (.iconst (-1), 1) := by decide +kernel
theorem dX9_means_2 : decode cX9_means 2 = .ok (.if_icmp .lt 30, 3) := by decide +kernel
theorem dX9_means_5 : decode cX9_means 5 = .ok (.iload_n 1, 1) := by decide +kernel
theorem dX9_means_6 : decode cX9_means 6 = .ok (.bipush 6, 2) := by decide +kernel
theorem dX9_means_8 : decode cX9_means 8 = .ok (.if_icmp .ge 24, 3) := by decide +kernel
theorem dX9_means_11 : decode cX9_means 11 = .ok (.iload_n 2, 1) := by decide +kernel
theorem dX9_means_12 : decode cX9_means 12 = .ok (.ifCond .lt 20, 3) := by decide +kernel
theorem dX9_means_15 : decode cX9_means 15 = .ok (.iload_n 2, 1) := by decide +kernel
theorem dX9_means_16 : decode cX9_means 16 = .ok (.iconst 2, 1) := by decide +kernel
theorem dX9_means_17 : decode cX9_means 17 = .ok (.if_icmp .gt 15, 3) := by decide +kernel
theorem dX9_means_20 : decode cX9_means 20 = .ok (.iload_n 3, 1) := by decide +kernel
theorem dX9_means_21 : decode cX9_means 21 = .ok (.iconst (-1), 1) := by decide +kernel
theorem dX9_means_22 : decode cX9_means 22 = .ok (.if_icmp .lt 10, 3) := by decide +kernel
theorem dX9_means_25 : decode cX9_means 25 = .ok (.iload_n 3, 1) := by decide +kernel
theorem dX9_means_26 : decode cX9_means 26 = .ok (.sipush 255, 3) := by decide +kernel
theorem dX9_means_29 : decode cX9_means 29 = .ok (.if_icmp .le 5, 3) := by decide +kernel
theorem dX9_means_32 : decode cX9_means 32 = .ok (.iconst (-1), 1) := by decide +kernel
theorem dX9_means_33 : decode cX9_means 33 = .ok (.ireturn, 1) := by decide +kernel
theorem dX9_means_34 : decode cX9_means 34 = .ok (.aload_n 0, 1) := by decide +kernel
theorem dX9_means_35 : decode cX9_means 35 = .ok (.getfield 19, 3) := by decide +kernel
theorem dX9_means_38 : decode cX9_means 38 = .ok (.iload_n 1, 1) := by decide +kernel
theorem dX9_means_39 : decode cX9_means 39 = .ok (.invokevirtual 136, 3) := by decide +kernel
theorem dX9_means_42 : decode cX9_means 42 = .ok (.istore 4, 2) := by decide +kernel
theorem dX9_means_44 : decode cX9_means 44 = .ok (.iload_n 3, 1) := by decide +kernel
theorem dX9_means_45 : decode cX9_means 45 = .ok (.iconst (-1), 1) := by decide +kernel
theorem dX9_means_46 : decode cX9_means 46 = .ok (.if_icmp .eq 9, 3) := by decide +kernel
theorem dX9_means_49 : decode cX9_means 49 = .ok (.iload 4, 2) := by decide +kernel
theorem dX9_means_51 : decode cX9_means 51 = .ok (.iload_n 3, 1) := by decide +kernel
theorem dX9_means_52 : decode cX9_means 52 = .ok (.iand, 1) := by decide +kernel
theorem dX9_means_53 : decode cX9_means 53 = .ok (.istore 4, 2) := by decide +kernel
theorem dX9_means_55 : decode cX9_means 55 = .ok (.aload_n 0, 1) := by decide +kernel
theorem dX9_means_56 : decode cX9_means 56 = .ok (.getfield 28, 3) := by decide +kernel
theorem dX9_means_59 : decode cX9_means 59 = .ok (.iload 4, 2) := by decide +kernel
theorem dX9_means_61 : decode cX9_means 61 = .ok (.iload_n 2, 1) := by decide +kernel
theorem dX9_means_62 : decode cX9_means 62 = .ok (.invokevirtual 139, 3) := by decide +kernel
theorem dX9_means_65 : decode cX9_means 65 = .ok (.ireturn, 1) := by decide +kernel
theorem dX9_servant_0 : decode cX9_servant 0 = .ok (.iload_n 1, 1) := by decide +kernel
theorem dX9_servant_1 : decode cX9_servant 1 = .ok (.iconst 4, 1) := by decide +kernel
theorem dX9_servant_2 : decode cX9_servant 2 = .ok (.invokestatic 78, 3) := by decide +kernel
theorem dX9_servant_5 : decode cX9_servant 5 = .ok (.ifCond .eq 21, 3) := by decide +kernel
theorem dX9_servant_8 : decode cX9_servant 8 = .ok (.iload_n 2, 1) := by decide +kernel
theorem dX9_servant_9 : decode cX9_servant 9 = .ok (.bipush 31, 2) := by decide +kernel
theorem dX9_servant_11 : decode cX9_servant 11 = .ok (.invokestatic 78, 3) := by decide +kernel
theorem dX9_servant_14 : decode cX9_servant 14 = .ok (.ifCond .eq 12, 3) := by decide +kernel
theorem dX9_servant_17 : decode cX9_servant 17 = .ok (.iload_n 3, 1) := by decide +kernel
theorem dX9_servant_18 : decode cX9_servant 18 = .ok (.bipush 32, 2) := by decide +kernel
theorem dX9_servant_20 : decode cX9_servant 20 = .ok (.invokestatic 78, 3) := by decide +kernel
theorem dX9_servant_23 : decode cX9_servant 23 = .ok (.ifCond .ne 5, 3) := by decide +kernel
theorem dX9_servant_26 : decode cX9_servant 26 = .ok (.iconst (-1), 1) := by decide +kernel
theorem dX9_servant_27 : decode cX9_servant 27 = .ok (.ireturn, 1) := by decide +kernel
theorem dX9_servant_28 : decode cX9_servant 28 = .ok (.aload_n 0, 1) := by decide +kernel
theorem dX9_servant_29 : decode cX9_servant 29 = .ok (.getfield 35, 3) := by decide +kernel
theorem dX9_servant_32 : decode cX9_servant 32 = .ok (.getfield 142, 3) := by decide +kernel
theorem dX9_servant_35 : decode cX9_servant 35 = .ok (.iconst 5, 1) := by decide +kernel
theorem dX9_servant_36 : decode cX9_servant 36 = .ok (.if_icmp .lt 6, 3) := by decide +kernel
theorem dX9_servant_39 : decode cX9_servant 39 = .ok (.bipush (-3), 2) := by decide +kernel
theorem dX9_servant_41 : decode cX9_servant 41 = .ok (.ireturn, 1) := by decide +kernel
theorem dX9_servant_42 : decode cX9_servant 42 = .ok (.aload_n 0, 1) := by decide +kernel
theorem dX9_servant_43 : decode cX9_servant 43 = .ok (.getfield 35, 3) := by decide +kernel
theorem dX9_servant_46 : decode cX9_servant 46 = .ok (.iload_n 1, 1) := by decide +kernel
theorem dX9_servant_47 : decode cX9_servant 47 = .ok (.iload_n 2, 1) := by decide +kernel
theorem dX9_servant_48 : decode cX9_servant 48 = .ok (.iload_n 3, 1) := by decide +kernel
theorem dX9_servant_49 : decode cX9_servant 49 = .ok (.invokevirtual 143, 3) := by decide +kernel
theorem dX9_servant_52 : decode cX9_servant 52 = .ok (.ireturn, 1) := by decide +kernel
theorem dX9_ring_0 : decode cX9_ring 0 = .ok (.aload_n 0, 1) := by decide +kernel
theorem dX9_ring_1 : decode cX9_ring 1 = .ok (.getfield 10, 3) := by decide +kernel
theorem dX9_ring_4 : decode cX9_ring 4 = .ok (.iload_n 1, 1) := by decide +kernel
theorem dX9_ring_5 : decode cX9_ring 5 = .ok (.invokevirtual 123, 3) := by decide +kernel
theorem dX9_ring_8 : decode cX9_ring 8 = .ok (.ifCond .ne 5, 3) := by decide +kernel
theorem dX9_ring_11 : decode cX9_ring 11 = .ok (.iconst (-1), 1) := by decide +kernel
theorem dX9_ring_12 : decode cX9_ring 12 = .ok (.ireturn, 1) := by decide +kernel
theorem dX9_ring_13 : decode cX9_ring 13 = .ok (.aload_n 0, 1) := by decide +kernel
theorem dX9_ring_14 : decode cX9_ring 14 = .ok (.getfield 28, 3) := by decide +kernel
theorem dX9_ring_17 : decode cX9_ring 17 = .ok (.iload_n 1, 1) := by decide +kernel
theorem dX9_ring_18 : decode cX9_ring 18 = .ok (.invokevirtual 130, 3) := by decide +kernel
theorem dX9_ring_21 : decode cX9_ring 21 = .ok (.istore_n 2, 1) := by decide +kernel
theorem dX9_ring_22 : decode cX9_ring 22 = .ok (.aload_n 0, 1) := by decide +kernel
theorem dX9_ring_23 : decode cX9_ring 23 = .ok (.getfield 28, 3) := by decide +kernel
theorem dX9_ring_26 : decode cX9_ring 26 = .ok (.iload_n 1, 1) := by decide +kernel
theorem dX9_ring_27 : decode cX9_ring 27 = .ok (.invokevirtual 133, 3) := by decide +kernel
theorem dX9_ring_30 : decode cX9_ring 30 = .ok (.istore_n 3, 1) := by decide +kernel
theorem dX9_ring_31 : decode cX9_ring 31 = .ok (.iload_n 2, 1) := by decide +kernel
theorem dX9_ring_32 : decode cX9_ring 32 = .ok (.iload_n 3, 1) := by decide +kernel
theorem dX9_ring_33 : decode cX9_ring 33 = .ok (.ior, 1) := by decide +kernel
theorem dX9_ring_34 : decode cX9_ring 34 = .ok (.istore 4, 2) := by decide +kernel
theorem dX9_ring_36 : decode cX9_ring 36 = .ok (.iload 4, 2) := by decide +kernel
theorem dX9_ring_38 : decode cX9_ring 38 = .ok (.ifCond .eq 27, 3) := by decide +kernel
theorem dX9_ring_41 : decode cX9_ring 41 = .ok (.aload_n 0, 1) := by decide +kernel
theorem dX9_ring_42 : decode cX9_ring 42 = .ok (.getfield 19, 3) := by decide +kernel
theorem dX9_ring_45 : decode cX9_ring 45 = .ok (.iload_n 2, 1) := by decide +kernel
theorem dX9_ring_46 : decode cX9_ring 46 = .ok (.iload_n 3, 1) := by decide +kernel
theorem dX9_ring_47 : decode cX9_ring 47 = .ok (.invokevirtual 146, 3) := by decide +kernel
theorem dX9_ring_50 : decode cX9_ring 50 = .ok (.aload_n 0, 1) := by decide +kernel
theorem dX9_ring_51 : decode cX9_ring 51 = .ok (.getfield 42, 3) := by decide +kernel
theorem dX9_ring_54 : decode cX9_ring 54 = .ok (.iload_n 1, 1) := by decide +kernel
theorem dX9_ring_55 : decode cX9_ring 55 = .ok (.aload_n 0, 1) := by decide +kernel
theorem dX9_ring_56 : decode cX9_ring 56 = .ok (.getfield 51, 3) := by decide +kernel
theorem dX9_ring_59 : decode cX9_ring 59 = .ok (.getfield 150, 3) := by decide +kernel
theorem dX9_ring_62 : decode cX9_ring 62 = .ok (.invokevirtual 153, 3) := by decide +kernel
theorem dX9_ring_65 : decode cX9_ring 65 = .ok (.iload 4, 2) := by decide +kernel
theorem dX9_ring_67 : decode cX9_ring 67 = .ok (.ireturn, 1) := by decide +kernel
theorem dX9_ticks_0 : decode cX9_ticks 0 = .ok (.iload_n 1, 1) := by decide +kernel
theorem dX9_ticks_1 : decode cX9_ticks 1 = .ok (.iconst 1, 1) := by decide +kernel
theorem dX9_ticks_2 : decode cX9_ticks 2 = .ok (.if_icmp .lt 10, 3) := by decide +kernel
theorem dX9_ticks_5 : decode cX9_ticks 5 = .ok (.iload_n 1, 1) := by decide +kernel
theorem dX9_ticks_6 : decode cX9_ticks 6 = .ok (.sipush 200, 3) := by decide +kernel
theorem dX9_ticks_9 : decode cX9_ticks 9 = .ok (.if_icmp .le 5, 3) := by decide +kernel
theorem dX9_ticks_12 : decode cX9_ticks 12 = .ok (.iconst (-1), 1) := by decide +kernel
theorem dX9_ticks_13 : decode cX9_ticks 13 = .ok (.ireturn, 1) := by decide +kernel
theorem dX9_ticks_14 : decode cX9_ticks 14 = .ok (.aload_n 0, 1) := by decide +kernel
theorem dX9_ticks_15 : decode cX9_ticks 15 = .ok (.getfield 51, 3) := by decide +kernel
theorem dX9_ticks_18 : decode cX9_ticks 18 = .ok (.getfield 150, 3) := by decide +kernel
theorem dX9_ticks_21 : decode cX9_ticks 21 = .ok (.iload_n 1, 1) := by decide +kernel
theorem dX9_ticks_22 : decode cX9_ticks 22 = .ok (.iadd, 1) := by decide +kernel
theorem dX9_ticks_23 : decode cX9_ticks 23 = .ok (.sipush 5000, 3) := by decide +kernel
theorem dX9_ticks_26 : decode cX9_ticks 26 = .ok (.if_icmp .le 6, 3) := by decide +kernel
theorem dX9_ticks_29 : decode cX9_ticks 29 = .ok (.bipush (-3), 2) := by decide +kernel
theorem dX9_ticks_31 : decode cX9_ticks 31 = .ok (.ireturn, 1) := by decide +kernel
theorem dX9_ticks_32 : decode cX9_ticks 32 = .ok (.iconst 0, 1) := by decide +kernel
theorem dX9_ticks_33 : decode cX9_ticks 33 = .ok (.istore_n 2, 1) := by decide +kernel
theorem dX9_ticks_34 : decode cX9_ticks 34 = .ok (.iload_n 2, 1) := by decide +kernel
theorem dX9_ticks_35 : decode cX9_ticks 35 = .ok (.iload_n 1, 1) := by decide +kernel
theorem dX9_ticks_36 : decode cX9_ticks 36 = .ok (.if_icmp .ge 30, 3) := by decide +kernel
theorem dX9_ticks_39 : decode cX9_ticks 39 = .ok (.aload_n 0, 1) := by decide +kernel
theorem dX9_ticks_40 : decode cX9_ticks 40 = .ok (.getfield 51, 3) := by decide +kernel
theorem dX9_ticks_43 : decode cX9_ticks 43 = .ok (.invokevirtual 156, 3) := by decide +kernel
theorem dX9_ticks_46 : decode cX9_ticks 46 = .ok (.aload_n 0, 1) := by decide +kernel
theorem dX9_ticks_47 : decode cX9_ticks 47 = .ok (.getfield 19, 3) := by decide +kernel
theorem dX9_ticks_50 : decode cX9_ticks 50 = .ok (.invokevirtual 159, 3) := by decide +kernel
theorem dX9_ticks_53 : decode cX9_ticks 53 = .ok (.aload_n 0, 1) := by decide +kernel
theorem dX9_ticks_54 : decode cX9_ticks 54 = .ok (.getfield 51, 3) := by decide +kernel
theorem dX9_ticks_57 : decode cX9_ticks 57 = .ok (.invokevirtual 162, 3) := by decide +kernel
theorem dX9_ticks_60 : decode cX9_ticks 60 = .ok (.iinc 2 1, 3) := by decide +kernel
theorem dX9_ticks_63 : decode cX9_ticks 63 = .ok (.goto (-29), 3) := by decide +kernel
theorem dX9_ticks_66 : decode cX9_ticks 66 = .ok (.aload_n 0, 1) := by decide +kernel
theorem dX9_ticks_67 : decode cX9_ticks 67 = .ok (.getfield 51, 3) := by decide +kernel
theorem dX9_ticks_70 : decode cX9_ticks 70 = .ok (.getfield 150, 3) := by decide +kernel
theorem dX9_ticks_73 : decode cX9_ticks 73 = .ok (.ireturn, 1) := by decide +kernel
theorem dX9_takeBack_0 : decode cX9_takeBack 0 = .ok (.aload_n 0, 1) := by decide +kernel
theorem dX9_takeBack_1 : decode cX9_takeBack 1 = .ok (.getfield 10, 3) := by decide +kernel
theorem dX9_takeBack_4 : decode cX9_takeBack 4 = .ok (.iload_n 1, 1) := by decide +kernel
theorem dX9_takeBack_5 : decode cX9_takeBack 5 = .ok (.invokevirtual 123, 3) := by decide +kernel
theorem dX9_takeBack_8 : decode cX9_takeBack 8 = .ok (.ifCond .ne 5, 3) := by decide +kernel
theorem dX9_takeBack_11 : decode cX9_takeBack 11 = .ok (.iconst (-1), 1) := by decide +kernel
theorem dX9_takeBack_12 : decode cX9_takeBack 12 = .ok (.ireturn, 1) := by decide +kernel
theorem dX9_takeBack_13 : decode cX9_takeBack 13 = .ok (.aload_n 0, 1) := by decide +kernel
theorem dX9_takeBack_14 : decode cX9_takeBack 14 = .ok (.getfield 42, 3) := by decide +kernel
theorem dX9_takeBack_17 : decode cX9_takeBack 17 = .ok (.iload_n 1, 1) := by decide +kernel
theorem dX9_takeBack_18 : decode cX9_takeBack 18 = .ok (.invokevirtual 165, 3) := by decide +kernel
theorem dX9_takeBack_21 : decode cX9_takeBack 21 = .ok (.ifCond .ne 6, 3) := by decide +kernel
theorem dX9_takeBack_24 : decode cX9_takeBack 24 = .ok (.bipush (-2), 2) := by decide +kernel
theorem dX9_takeBack_26 : decode cX9_takeBack 26 = .ok (.ireturn, 1) := by decide +kernel
theorem dX9_takeBack_27 : decode cX9_takeBack 27 = .ok (.aload_n 0, 1) := by decide +kernel
theorem dX9_takeBack_28 : decode cX9_takeBack 28 = .ok (.getfield 51, 3) := by decide +kernel
theorem dX9_takeBack_31 : decode cX9_takeBack 31 = .ok (.getfield 150, 3) := by decide +kernel
theorem dX9_takeBack_34 : decode cX9_takeBack 34 = .ok (.aload_n 0, 1) := by decide +kernel
theorem dX9_takeBack_35 : decode cX9_takeBack 35 = .ok (.getfield 42, 3) := by decide +kernel
theorem dX9_takeBack_38 : decode cX9_takeBack 38 = .ok (.getfield 168, 3) := by decide +kernel
theorem dX9_takeBack_41 : decode cX9_takeBack 41 = .ok (.iload_n 1, 1) := by decide +kernel
theorem dX9_takeBack_42 : decode cX9_takeBack 42 = .ok (.iaload, 1) := by decide +kernel
theorem dX9_takeBack_43 : decode cX9_takeBack 43 = .ok (.isub, 1) := by decide +kernel
theorem dX9_takeBack_44 : decode cX9_takeBack 44 = .ok (.istore_n 2, 1) := by decide +kernel
theorem dX9_takeBack_45 : decode cX9_takeBack 45 = .ok (.aload_n 0, 1) := by decide +kernel
theorem dX9_takeBack_46 : decode cX9_takeBack 46 = .ok (.getfield 42, 3) := by decide +kernel
theorem dX9_takeBack_49 : decode cX9_takeBack 49 = .ok (.iload_n 1, 1) := by decide +kernel
theorem dX9_takeBack_50 : decode cX9_takeBack 50 = .ok (.invokevirtual 172, 3) := by decide +kernel
theorem dX9_takeBack_53 : decode cX9_takeBack 53 = .ok (.iload_n 2, 1) := by decide +kernel
theorem dX9_takeBack_54 : decode cX9_takeBack 54 = .ok (.ireturn, 1) := by decide +kernel
theorem dX9_flags_0 : decode cX9_flags 0 = .ok (.iload_n 1, 1) := by decide +kernel
theorem dX9_flags_1 : decode cX9_flags 1 = .ok (.iconst 1, 1) := by decide +kernel
theorem dX9_flags_2 : decode cX9_flags 2 = .ok (.aload_n 0, 1) := by decide +kernel
theorem dX9_flags_3 : decode cX9_flags 3 = .ok (.getfield 10, 3) := by decide +kernel
theorem dX9_flags_6 : decode cX9_flags 6 = .ok (.getfield 103, 3) := by decide +kernel
theorem dX9_flags_9 : decode cX9_flags 9 = .ok (.ishl, 1) := by decide +kernel
theorem dX9_flags_10 : decode cX9_flags 10 = .ok (.invokestatic 78, 3) := by decide +kernel
theorem dX9_flags_13 : decode cX9_flags 13 = .ok (.ifCond .ne 5, 3) := by decide +kernel
theorem dX9_flags_16 : decode cX9_flags 16 = .ok (.iconst (-1), 1) := by decide +kernel
theorem dX9_flags_17 : decode cX9_flags 17 = .ok (.ireturn, 1) := by decide +kernel
theorem dX9_flags_18 : decode cX9_flags 18 = .ok (.aload_n 0, 1) := by decide +kernel
theorem dX9_flags_19 : decode cX9_flags 19 = .ok (.getfield 42, 3) := by decide +kernel
theorem dX9_flags_22 : decode cX9_flags 22 = .ok (.getfield 176, 3) := by decide +kernel
theorem dX9_flags_25 : decode cX9_flags 25 = .ok (.iload_n 1, 1) := by decide +kernel
theorem dX9_flags_26 : decode cX9_flags 26 = .ok (.iand, 1) := by decide +kernel
theorem dX9_flags_27 : decode cX9_flags 27 = .ok (.istore_n 2, 1) := by decide +kernel
theorem dX9_flags_28 : decode cX9_flags 28 = .ok (.aload_n 0, 1) := by decide +kernel
theorem dX9_flags_29 : decode cX9_flags 29 = .ok (.getfield 42, 3) := by decide +kernel
theorem dX9_flags_32 : decode cX9_flags 32 = .ok (.dup, 1) := by decide +kernel
theorem dX9_flags_33 : decode cX9_flags 33 = .ok (.getfield 176, 3) := by decide +kernel
theorem dX9_flags_36 : decode cX9_flags 36 = .ok (.iload_n 1, 1) := by decide +kernel
theorem dX9_flags_37 : decode cX9_flags 37 = .ok (.iconst (-1), 1) := by decide +kernel
theorem dX9_flags_38 : decode cX9_flags 38 = .ok (.ixor, 1) := by decide +kernel
theorem dX9_flags_39 : decode cX9_flags 39 = .ok (.iand, 1) := by decide +kernel
theorem dX9_flags_40 : decode cX9_flags 40 = .ok (.putfield 176, 3) := by decide +kernel
theorem dX9_flags_43 : decode cX9_flags 43 = .ok (.iload_n 2, 1) := by decide +kernel
theorem dX9_flags_44 : decode cX9_flags 44 = .ok (.ireturn, 1) := by decide +kernel
theorem dX9_about_0 : decode cX9_about 0 = .ok (.aload_n 0, 1) := by decide +kernel
theorem dX9_about_1 : decode cX9_about 1 = .ok (.getfield 10, 3) := by decide +kernel
theorem dX9_about_4 : decode cX9_about 4 = .ok (.iload_n 1, 1) := by decide +kernel
theorem dX9_about_5 : decode cX9_about 5 = .ok (.invokevirtual 123, 3) := by decide +kernel
theorem dX9_about_8 : decode cX9_about 8 = .ok (.ifCond .ne 5, 3) := by decide +kernel
theorem dX9_about_11 : decode cX9_about 11 = .ok (.iconst (-1), 1) := by decide +kernel
theorem dX9_about_12 : decode cX9_about 12 = .ok (.ireturn, 1) := by decide +kernel
theorem dX9_about_13 : decode cX9_about 13 = .ok (.iload_n 2, 1) := by decide +kernel
theorem dX9_about_14 : decode cX9_about 14 = .ok (.tableswitch 86 0 4 #[34, 44, 56, 66, 76], 34) := by decide +kernel
theorem dX9_about_48 : decode cX9_about 48 = .ok (.aload_n 0, 1) := by decide +kernel
theorem dX9_about_49 : decode cX9_about 49 = .ok (.getfield 42, 3) := by decide +kernel
theorem dX9_about_52 : decode cX9_about 52 = .ok (.getfield 179, 3) := by decide +kernel
theorem dX9_about_55 : decode cX9_about 55 = .ok (.iload_n 1, 1) := by decide +kernel
theorem dX9_about_56 : decode cX9_about 56 = .ok (.iaload, 1) := by decide +kernel
theorem dX9_about_57 : decode cX9_about 57 = .ok (.ireturn, 1) := by decide +kernel
theorem dX9_about_58 : decode cX9_about 58 = .ok (.aload_n 0, 1) := by decide +kernel
theorem dX9_about_59 : decode cX9_about 59 = .ok (.getfield 42, 3) := by decide +kernel
theorem dX9_about_62 : decode cX9_about 62 = .ok (.getfield 176, 3) := by decide +kernel
theorem dX9_about_65 : decode cX9_about 65 = .ok (.iload_n 1, 1) := by decide +kernel
theorem dX9_about_66 : decode cX9_about 66 = .ok (.ishr, 1) := by decide +kernel
theorem dX9_about_67 : decode cX9_about 67 = .ok (.iconst 1, 1) := by decide +kernel
theorem dX9_about_68 : decode cX9_about 68 = .ok (.iand, 1) := by decide +kernel
theorem dX9_about_69 : decode cX9_about 69 = .ok (.ireturn, 1) := by decide +kernel
theorem dX9_about_70 : decode cX9_about 70 = .ok (.aload_n 0, 1) := by decide +kernel
theorem dX9_about_71 : decode cX9_about 71 = .ok (.getfield 42, 3) := by decide +kernel
theorem dX9_about_74 : decode cX9_about 74 = .ok (.getfield 182, 3) := by decide +kernel
theorem dX9_about_77 : decode cX9_about 77 = .ok (.iload_n 1, 1) := by decide +kernel
theorem dX9_about_78 : decode cX9_about 78 = .ok (.iaload, 1) := by decide +kernel
theorem dX9_about_79 : decode cX9_about 79 = .ok (.ireturn, 1) := by decide +kernel
theorem dX9_about_80 : decode cX9_about 80 = .ok (.aload_n 0, 1) := by decide +kernel
theorem dX9_about_81 : decode cX9_about 81 = .ok (.getfield 42, 3) := by decide +kernel
theorem dX9_about_84 : decode cX9_about 84 = .ok (.getfield 185, 3) := by decide +kernel
theorem dX9_about_87 : decode cX9_about 87 = .ok (.iload_n 1, 1) := by decide +kernel
theorem dX9_about_88 : decode cX9_about 88 = .ok (.iaload, 1) := by decide +kernel
theorem dX9_about_89 : decode cX9_about 89 = .ok (.ireturn, 1) := by decide +kernel
theorem dX9_about_90 : decode cX9_about 90 = .ok (.aload_n 0, 1) := by decide +kernel
theorem dX9_about_91 : decode cX9_about 91 = .ok (.getfield 42, 3) := by decide +kernel
theorem dX9_about_94 : decode cX9_about 94 = .ok (.getfield 188, 3) := by decide +kernel
theorem dX9_about_97 : decode cX9_about 97 = .ok (.iload_n 1, 1) := by decide +kernel
theorem dX9_about_98 : decode cX9_about 98 = .ok (.iaload, 1) := by decide +kernel
theorem dX9_about_99 : decode cX9_about 99 = .ok (.ireturn, 1) := by decide +kernel
theorem dX9_about_100 : decode cX9_about 100 = .ok (.iconst (-1), 1) := by decide +kernel
theorem dX9_about_101 : decode cX9_about 101 = .ok (.ireturn, 1) := by decide +kernel
theorem dX9_servantTold_0 : decode cX9_servantTold 0 = .ok (.iload_n 1, 1) := by decide +kernel
theorem dX9_servantTold_1 : decode cX9_servantTold 1 = .ok (.aload_n 0, 1) := by decide +kernel
theorem dX9_servantTold_2 : decode cX9_servantTold 2 = .ok (.getfield 35, 3) := by decide +kernel
theorem dX9_servantTold_5 : decode cX9_servantTold 5 = .ok (.getfield 142, 3) := by decide +kernel
theorem dX9_servantTold_8 : decode cX9_servantTold 8 = .ok (.invokestatic 78, 3) := by decide +kernel
theorem dX9_servantTold_11 : decode cX9_servantTold 11 = .ok (.ifCond .ne 5, 3) := by decide +kernel
theorem dX9_servantTold_14 : decode cX9_servantTold 14 = .ok (.iconst (-1), 1) := by decide +kernel
theorem dX9_servantTold_15 : decode cX9_servantTold 15 = .ok (.ireturn, 1) := by decide +kernel
theorem dX9_servantTold_16 : decode cX9_servantTold 16 = .ok (.iload_n 2, 1) := by decide +kernel
theorem dX9_servantTold_17 : decode cX9_servantTold 17 = .ok (.tableswitch 108 0 4 #[35, 45, 55, 65, 98], 35) := by decide +kernel
theorem dX9_servantTold_52 : decode cX9_servantTold 52 = .ok (.aload_n 0, 1) := by decide +kernel
theorem dX9_servantTold_53 : decode cX9_servantTold 53 = .ok (.getfield 35, 3) := by decide +kernel
theorem dX9_servantTold_56 : decode cX9_servantTold 56 = .ok (.getfield 191, 3) := by decide +kernel
theorem dX9_servantTold_59 : decode cX9_servantTold 59 = .ok (.iload_n 1, 1) := by decide +kernel
theorem dX9_servantTold_60 : decode cX9_servantTold 60 = .ok (.iaload, 1) := by decide +kernel
theorem dX9_servantTold_61 : decode cX9_servantTold 61 = .ok (.ireturn, 1) := by decide +kernel
theorem dX9_servantTold_62 : decode cX9_servantTold 62 = .ok (.aload_n 0, 1) := by decide +kernel
theorem dX9_servantTold_63 : decode cX9_servantTold 63 = .ok (.getfield 35, 3) := by decide +kernel
theorem dX9_servantTold_66 : decode cX9_servantTold 66 = .ok (.getfield 194, 3) := by decide +kernel
theorem dX9_servantTold_69 : decode cX9_servantTold 69 = .ok (.iload_n 1, 1) := by decide +kernel
theorem dX9_servantTold_70 : decode cX9_servantTold 70 = .ok (.iaload, 1) := by decide +kernel
theorem dX9_servantTold_71 : decode cX9_servantTold 71 = .ok (.ireturn, 1) := by decide +kernel
theorem dX9_servantTold_72 : decode cX9_servantTold 72 = .ok (.aload_n 0, 1) := by decide +kernel
theorem dX9_servantTold_73 : decode cX9_servantTold 73 = .ok (.getfield 35, 3) := by decide +kernel
theorem dX9_servantTold_76 : decode cX9_servantTold 76 = .ok (.getfield 197, 3) := by decide +kernel
theorem dX9_servantTold_79 : decode cX9_servantTold 79 = .ok (.iload_n 1, 1) := by decide +kernel
theorem dX9_servantTold_80 : decode cX9_servantTold 80 = .ok (.iaload, 1) := by decide +kernel
theorem dX9_servantTold_81 : decode cX9_servantTold 81 = .ok (.ireturn, 1) := by decide +kernel
theorem dX9_servantTold_82 : decode cX9_servantTold 82 = .ok (.aload_n 0, 1) := by decide +kernel
theorem dX9_servantTold_83 : decode cX9_servantTold 83 = .ok (.getfield 35, 3) := by decide +kernel
theorem dX9_servantTold_86 : decode cX9_servantTold 86 = .ok (.iload_n 1, 1) := by decide +kernel
theorem dX9_servantTold_87 : decode cX9_servantTold 87 = .ok (.invokevirtual 200, 3) := by decide +kernel
theorem dX9_servantTold_90 : decode cX9_servantTold 90 = .ok (.ifCond .eq 7, 3) := by decide +kernel
theorem dX9_servantTold_93 : decode cX9_servantTold 93 = .ok (.iconst 0, 1) := by decide +kernel
theorem dX9_servantTold_94 : decode cX9_servantTold 94 = .ok (.goto 20, 3) := by decide +kernel
theorem dX9_servantTold_97 : decode cX9_servantTold 97 = .ok (.aload_n 0, 1) := by decide +kernel
theorem dX9_servantTold_98 : decode cX9_servantTold 98 = .ok (.getfield 35, 3) := by decide +kernel
theorem dX9_servantTold_101 : decode cX9_servantTold 101 = .ok (.getfield 203, 3) := by decide +kernel
theorem dX9_servantTold_104 : decode cX9_servantTold 104 = .ok (.iload_n 1, 1) := by decide +kernel
theorem dX9_servantTold_105 : decode cX9_servantTold 105 = .ok (.iaload, 1) := by decide +kernel
theorem dX9_servantTold_106 : decode cX9_servantTold 106 = .ok (.aload_n 0, 1) := by decide +kernel
theorem dX9_servantTold_107 : decode cX9_servantTold 107 = .ok (.getfield 51, 3) := by decide +kernel
theorem dX9_servantTold_110 : decode cX9_servantTold 110 = .ok (.getfield 150, 3) := by decide +kernel
theorem dX9_servantTold_113 : decode cX9_servantTold 113 = .ok (.isub, 1) := by decide +kernel
theorem dX9_servantTold_114 : decode cX9_servantTold 114 = .ok (.ireturn, 1) := by decide +kernel
theorem dX9_servantTold_115 : decode cX9_servantTold 115 = .ok (.aload_n 0, 1) := by decide +kernel
theorem dX9_servantTold_116 : decode cX9_servantTold 116 = .ok (.getfield 35, 3) := by decide +kernel
theorem dX9_servantTold_119 : decode cX9_servantTold 119 = .ok (.getfield 206, 3) := by decide +kernel
theorem dX9_servantTold_122 : decode cX9_servantTold 122 = .ok (.iload_n 1, 1) := by decide +kernel
theorem dX9_servantTold_123 : decode cX9_servantTold 123 = .ok (.iaload, 1) := by decide +kernel
theorem dX9_servantTold_124 : decode cX9_servantTold 124 = .ok (.ireturn, 1) := by decide +kernel
theorem dX9_servantTold_125 : decode cX9_servantTold 125 = .ok (.iconst (-1), 1) := by decide +kernel
theorem dX9_servantTold_126 : decode cX9_servantTold 126 = .ok (.ireturn, 1) := by decide +kernel
theorem dX9_way_0 : decode cX9_way 0 = .ok (.iload_n 1, 1) := by decide +kernel
theorem dX9_way_1 : decode cX9_way 1 = .ok (.aload_n 0, 1) := by decide +kernel
theorem dX9_way_2 : decode cX9_way 2 = .ok (.getfield 35, 3) := by decide +kernel
theorem dX9_way_5 : decode cX9_way 5 = .ok (.getfield 142, 3) := by decide +kernel
theorem dX9_way_8 : decode cX9_way 8 = .ok (.invokestatic 78, 3) := by decide +kernel
theorem dX9_way_11 : decode cX9_way 11 = .ok (.ifCond .eq 14, 3) := by decide +kernel
theorem dX9_way_14 : decode cX9_way 14 = .ok (.aload_n 0, 1) := by decide +kernel
theorem dX9_way_15 : decode cX9_way 15 = .ok (.getfield 10, 3) := by decide +kernel
theorem dX9_way_18 : decode cX9_way 18 = .ok (.iload_n 2, 1) := by decide +kernel
theorem dX9_way_19 : decode cX9_way 19 = .ok (.invokevirtual 123, 3) := by decide +kernel
theorem dX9_way_22 : decode cX9_way 22 = .ok (.ifCond .ne 5, 3) := by decide +kernel
theorem dX9_way_25 : decode cX9_way 25 = .ok (.iconst (-1), 1) := by decide +kernel
theorem dX9_way_26 : decode cX9_way 26 = .ok (.ireturn, 1) := by decide +kernel
theorem dX9_way_27 : decode cX9_way 27 = .ok (.aload_n 0, 1) := by decide +kernel
theorem dX9_way_28 : decode cX9_way 28 = .ok (.getfield 35, 3) := by decide +kernel
theorem dX9_way_31 : decode cX9_way 31 = .ok (.iload_n 1, 1) := by decide +kernel
theorem dX9_way_32 : decode cX9_way 32 = .ok (.aload_n 0, 1) := by decide +kernel
theorem dX9_way_33 : decode cX9_way 33 = .ok (.getfield 10, 3) := by decide +kernel
theorem dX9_way_36 : decode cX9_way 36 = .ok (.getfield 207, 3) := by decide +kernel
theorem dX9_way_39 : decode cX9_way 39 = .ok (.iload_n 2, 1) := by decide +kernel
theorem dX9_way_40 : decode cX9_way 40 = .ok (.iaload, 1) := by decide +kernel
theorem dX9_way_41 : decode cX9_way 41 = .ok (.aload_n 0, 1) := by decide +kernel
theorem dX9_way_42 : decode cX9_way 42 = .ok (.getfield 10, 3) := by decide +kernel
theorem dX9_way_45 : decode cX9_way 45 = .ok (.getfield 208, 3) := by decide +kernel
theorem dX9_way_48 : decode cX9_way 48 = .ok (.iload_n 2, 1) := by decide +kernel
theorem dX9_way_49 : decode cX9_way 49 = .ok (.iaload, 1) := by decide +kernel
theorem dX9_way_50 : decode cX9_way 50 = .ok (.invokevirtual 209, 3) := by decide +kernel
theorem dX9_way_53 : decode cX9_way 53 = .ok (.ireturn, 1) := by decide +kernel
theorem dX9_swings_0 : decode cX9_swings 0 = .ok (.iload_n 1, 1) := by decide +kernel
theorem dX9_swings_1 : decode cX9_swings 1 = .ok (.iconst (-1), 1) := by decide +kernel
theorem dX9_swings_2 : decode cX9_swings 2 = .ok (.if_icmp .ne 11, 3) := by decide +kernel
theorem dX9_swings_5 : decode cX9_swings 5 = .ok (.aload_n 0, 1) := by decide +kernel
theorem dX9_swings_6 : decode cX9_swings 6 = .ok (.getfield 19, 3) := by decide +kernel
theorem dX9_swings_9 : decode cX9_swings 9 = .ok (.invokevirtual 212, 3) := by decide +kernel
theorem dX9_swings_12 : decode cX9_swings 12 = .ok (.ireturn, 1) := by decide +kernel
theorem dX9_swings_13 : decode cX9_swings 13 = .ok (.iload_n 1, 1) := by decide +kernel
theorem dX9_swings_14 : decode cX9_swings 14 = .ok (.bipush 8, 2) := by decide +kernel
theorem dX9_swings_16 : decode cX9_swings 16 = .ok (.invokestatic 78, 3) := by decide +kernel
theorem dX9_swings_19 : decode cX9_swings 19 = .ok (.ifCond .ne 5, 3) := by decide +kernel
theorem dX9_swings_22 : decode cX9_swings 22 = .ok (.iconst (-1), 1) := by decide +kernel
theorem dX9_swings_23 : decode cX9_swings 23 = .ok (.ireturn, 1) := by decide +kernel
theorem dX9_swings_24 : decode cX9_swings 24 = .ok (.aload_n 0, 1) := by decide +kernel
theorem dX9_swings_25 : decode cX9_swings 25 = .ok (.getfield 19, 3) := by decide +kernel
theorem dX9_swings_28 : decode cX9_swings 28 = .ok (.getfield 215, 3) := by decide +kernel
theorem dX9_swings_31 : decode cX9_swings 31 = .ok (.iload_n 1, 1) := by decide +kernel
theorem dX9_swings_32 : decode cX9_swings 32 = .ok (.iaload, 1) := by decide +kernel
theorem dX9_swings_33 : decode cX9_swings 33 = .ok (.ireturn, 1) := by decide +kernel
theorem dX9_share_0 : decode cX9_share 0 = .ok (.iload_n 1, 1) := by decide +kernel
theorem dX9_share_1 : decode cX9_share 1 = .ok (.iconst (-1), 1) := by decide +kernel
theorem dX9_share_2 : decode cX9_share 2 = .ok (.if_icmp .eq 16, 3) := by decide +kernel
theorem dX9_share_5 : decode cX9_share 5 = .ok (.aload_n 0, 1) := by decide +kernel
theorem dX9_share_6 : decode cX9_share 6 = .ok (.getfield 10, 3) := by decide +kernel
theorem dX9_share_9 : decode cX9_share 9 = .ok (.iload_n 1, 1) := by decide +kernel
theorem dX9_share_10 : decode cX9_share 10 = .ok (.invokevirtual 123, 3) := by decide +kernel
theorem dX9_share_13 : decode cX9_share 13 = .ok (.ifCond .ne 5, 3) := by decide +kernel
theorem dX9_share_16 : decode cX9_share 16 = .ok (.iconst (-1), 1) := by decide +kernel
theorem dX9_share_17 : decode cX9_share 17 = .ok (.ireturn, 1) := by decide +kernel
theorem dX9_share_18 : decode cX9_share 18 = .ok (.aload_n 0, 1) := by decide +kernel
theorem dX9_share_19 : decode cX9_share 19 = .ok (.getfield 42, 3) := by decide +kernel
theorem dX9_share_22 : decode cX9_share 22 = .ok (.iconst 1, 1) := by decide +kernel
theorem dX9_share_23 : decode cX9_share 23 = .ok (.invokevirtual 218, 3) := by decide +kernel
theorem dX9_share_26 : decode cX9_share 26 = .ok (.iconst 4, 1) := by decide +kernel
theorem dX9_share_27 : decode cX9_share 27 = .ok (.if_icmp .le 6, 3) := by decide +kernel
theorem dX9_share_30 : decode cX9_share 30 = .ok (.bipush (-2), 2) := by decide +kernel
theorem dX9_share_32 : decode cX9_share 32 = .ok (.ireturn, 1) := by decide +kernel
theorem dX9_share_33 : decode cX9_share 33 = .ok (.aload_n 0, 1) := by decide +kernel
theorem dX9_share_34 : decode cX9_share 34 = .ok (.getfield 58, 3) := by decide +kernel
theorem dX9_share_37 : decode cX9_share 37 = .ok (.invokevirtual 221, 3) := by decide +kernel
theorem dX9_share_40 : decode cX9_share 40 = .ok (.iload_n 1, 1) := by decide +kernel
theorem dX9_share_41 : decode cX9_share 41 = .ok (.iconst (-1), 1) := by decide +kernel
theorem dX9_share_42 : decode cX9_share 42 = .ok (.if_icmp .ne 13, 3) := by decide +kernel
theorem dX9_share_45 : decode cX9_share 45 = .ok (.aload_n 0, 1) := by decide +kernel
theorem dX9_share_46 : decode cX9_share 46 = .ok (.getfield 58, 3) := by decide +kernel
theorem dX9_share_49 : decode cX9_share 49 = .ok (.getfield 224, 3) := by decide +kernel
theorem dX9_share_52 : decode cX9_share 52 = .ok (.goto 11, 3) := by decide +kernel
theorem dX9_share_55 : decode cX9_share 55 = .ok (.aload_n 0, 1) := by decide +kernel
theorem dX9_share_56 : decode cX9_share 56 = .ok (.getfield 58, 3) := by decide +kernel
theorem dX9_share_59 : decode cX9_share 59 = .ok (.iload_n 1, 1) := by decide +kernel
theorem dX9_share_60 : decode cX9_share 60 = .ok (.invokevirtual 227, 3) := by decide +kernel
theorem dX9_share_63 : decode cX9_share 63 = .ok (.ireturn, 1) := by decide +kernel
theorem dX9_send_0 : decode cX9_send 0 = .ok (.aload_n 0, 1) := by decide +kernel
theorem dX9_send_1 : decode cX9_send 1 = .ok (.getfield 42, 3) := by decide +kernel
theorem dX9_send_4 : decode cX9_send 4 = .ok (.iconst 1, 1) := by decide +kernel
theorem dX9_send_5 : decode cX9_send 5 = .ok (.invokevirtual 218, 3) := by decide +kernel
theorem dX9_send_8 : decode cX9_send 8 = .ok (.iconst 4, 1) := by decide +kernel
theorem dX9_send_9 : decode cX9_send 9 = .ok (.if_icmp .le 6, 3) := by decide +kernel
theorem dX9_send_12 : decode cX9_send 12 = .ok (.bipush (-2), 2) := by decide +kernel
theorem dX9_send_14 : decode cX9_send 14 = .ok (.ireturn, 1) := by decide +kernel
theorem dX9_send_15 : decode cX9_send 15 = .ok (.aload_n 0, 1) := by decide +kernel
theorem dX9_send_16 : decode cX9_send 16 = .ok (.getfield 58, 3) := by decide +kernel
theorem dX9_send_19 : decode cX9_send 19 = .ok (.invokevirtual 221, 3) := by decide +kernel
theorem dX9_send_22 : decode cX9_send 22 = .ok (.iconst 0, 1) := by decide +kernel
theorem dX9_send_23 : decode cX9_send 23 = .ok (.istore_n 1, 1) := by decide +kernel
theorem dX9_send_24 : decode cX9_send 24 = .ok (.iconst 0, 1) := by decide +kernel
theorem dX9_send_25 : decode cX9_send 25 = .ok (.istore_n 2, 1) := by decide +kernel
theorem dX9_send_26 : decode cX9_send 26 = .ok (.iload_n 2, 1) := by decide +kernel
theorem dX9_send_27 : decode cX9_send 27 = .ok (.aload_n 0, 1) := by decide +kernel
theorem dX9_send_28 : decode cX9_send 28 = .ok (.getfield 58, 3) := by decide +kernel
theorem dX9_send_31 : decode cX9_send 31 = .ok (.getfield 230, 3) := by decide +kernel
theorem dX9_send_34 : decode cX9_send 34 = .ok (.if_icmp .ge 50, 3) := by decide +kernel
theorem dX9_send_37 : decode cX9_send 37 = .ok (.aload_n 0, 1) := by decide +kernel
theorem dX9_send_38 : decode cX9_send 38 = .ok (.getfield 58, 3) := by decide +kernel
theorem dX9_send_41 : decode cX9_send 41 = .ok (.getfield 231, 3) := by decide +kernel
theorem dX9_send_44 : decode cX9_send 44 = .ok (.iload_n 2, 1) := by decide +kernel
theorem dX9_send_45 : decode cX9_send 45 = .ok (.iaload, 1) := by decide +kernel
theorem dX9_send_46 : decode cX9_send 46 = .ok (.iconst 5, 1) := by decide +kernel
theorem dX9_send_47 : decode cX9_send 47 = .ok (.if_icmp .eq 31, 3) := by decide +kernel
theorem dX9_send_50 : decode cX9_send 50 = .ok (.aload_n 0, 1) := by decide +kernel
theorem dX9_send_51 : decode cX9_send 51 = .ok (.getfield 51, 3) := by decide +kernel
theorem dX9_send_54 : decode cX9_send 54 = .ok (.aload_n 0, 1) := by decide +kernel
theorem dX9_send_55 : decode cX9_send 55 = .ok (.getfield 58, 3) := by decide +kernel
theorem dX9_send_58 : decode cX9_send 58 = .ok (.getfield 231, 3) := by decide +kernel
theorem dX9_send_61 : decode cX9_send 61 = .ok (.iload_n 2, 1) := by decide +kernel
theorem dX9_send_62 : decode cX9_send 62 = .ok (.iaload, 1) := by decide +kernel
theorem dX9_send_63 : decode cX9_send 63 = .ok (.aload_n 0, 1) := by decide +kernel
theorem dX9_send_64 : decode cX9_send 64 = .ok (.getfield 58, 3) := by decide +kernel
theorem dX9_send_67 : decode cX9_send 67 = .ok (.getfield 234, 3) := by decide +kernel
theorem dX9_send_70 : decode cX9_send 70 = .ok (.iload_n 2, 1) := by decide +kernel
theorem dX9_send_71 : decode cX9_send 71 = .ok (.iaload, 1) := by decide +kernel
theorem dX9_send_72 : decode cX9_send 72 = .ok (.invokevirtual 237, 3) := by decide +kernel
theorem dX9_send_75 : decode cX9_send 75 = .ok (.iinc 1 1, 3) := by decide +kernel
theorem dX9_send_78 : decode cX9_send 78 = .ok (.iinc 2 1, 3) := by decide +kernel
theorem dX9_send_81 : decode cX9_send 81 = .ok (.goto (-55), 3) := by decide +kernel
theorem dX9_send_84 : decode cX9_send 84 = .ok (.iload_n 1, 1) := by decide +kernel
theorem dX9_send_85 : decode cX9_send 85 = .ok (.ireturn, 1) := by decide +kernel
theorem dX9_test_0 : decode cX9_test 0 = .ok (.aload_n 0, 1) := by decide +kernel
theorem dX9_test_1 : decode cX9_test 1 = .ok (.getfield 10, 3) := by decide +kernel
theorem dX9_test_4 : decode cX9_test 4 = .ok (.iload_n 1, 1) := by decide +kernel
theorem dX9_test_5 : decode cX9_test 5 = .ok (.invokevirtual 123, 3) := by decide +kernel
theorem dX9_test_8 : decode cX9_test 8 = .ok (.ifCond .eq 23, 3) := by decide +kernel
theorem dX9_test_11 : decode cX9_test 11 = .ok (.iload_n 2, 1) := by decide +kernel
theorem dX9_test_12 : decode cX9_test 12 = .ok (.ifCond .lt 19, 3) := by decide +kernel
theorem dX9_test_15 : decode cX9_test 15 = .ok (.iload_n 2, 1) := by decide +kernel
theorem dX9_test_16 : decode cX9_test 16 = .ok (.bipush 40, 2) := by decide +kernel
theorem dX9_test_18 : decode cX9_test 18 = .ok (.if_icmp .gt 13, 3) := by decide +kernel
theorem dX9_test_21 : decode cX9_test 21 = .ok (.iload_n 3, 1) := by decide +kernel
theorem dX9_test_22 : decode cX9_test 22 = .ok (.iconst (-1), 1) := by decide +kernel
theorem dX9_test_23 : decode cX9_test 23 = .ok (.if_icmp .lt 8, 3) := by decide +kernel
theorem dX9_test_26 : decode cX9_test 26 = .ok (.iload_n 3, 1) := by decide +kernel
theorem dX9_test_27 : decode cX9_test 27 = .ok (.iconst 2, 1) := by decide +kernel
theorem dX9_test_28 : decode cX9_test 28 = .ok (.if_icmp .le 5, 3) := by decide +kernel
theorem dX9_test_31 : decode cX9_test 31 = .ok (.iconst (-1), 1) := by decide +kernel
theorem dX9_test_32 : decode cX9_test 32 = .ok (.ireturn, 1) := by decide +kernel
theorem dX9_test_33 : decode cX9_test 33 = .ok (.aload_n 0, 1) := by decide +kernel
theorem dX9_test_34 : decode cX9_test 34 = .ok (.getfield 67, 3) := by decide +kernel
theorem dX9_test_37 : decode cX9_test 37 = .ok (.getfield 240, 3) := by decide +kernel
theorem dX9_test_40 : decode cX9_test 40 = .ok (.bipush 12, 2) := by decide +kernel
theorem dX9_test_42 : decode cX9_test 42 = .ok (.if_icmp .lt 6, 3) := by decide +kernel
theorem dX9_test_45 : decode cX9_test 45 = .ok (.bipush (-3), 2) := by decide +kernel
theorem dX9_test_47 : decode cX9_test 47 = .ok (.ireturn, 1) := by decide +kernel
theorem dX9_test_48 : decode cX9_test 48 = .ok (.aload_n 0, 1) := by decide +kernel
theorem dX9_test_49 : decode cX9_test 49 = .ok (.getfield 67, 3) := by decide +kernel
theorem dX9_test_52 : decode cX9_test 52 = .ok (.iload_n 1, 1) := by decide +kernel
theorem dX9_test_53 : decode cX9_test 53 = .ok (.iload_n 2, 1) := by decide +kernel
theorem dX9_test_54 : decode cX9_test 54 = .ok (.iload_n 3, 1) := by decide +kernel
theorem dX9_test_55 : decode cX9_test 55 = .ok (.invokevirtual 243, 3) := by decide +kernel
theorem dX9_test_58 : decode cX9_test 58 = .ok (.ireturn, 1) := by decide +kernel
theorem dX9_noTests_0 : decode cX9_noTests 0 = .ok (.aload_n 0, 1) := by decide +kernel
theorem dX9_noTests_1 : decode cX9_noTests 1 = .ok (.getfield 67, 3) := by decide +kernel
theorem dX9_noTests_4 : decode cX9_noTests 4 = .ok (.invokevirtual 246, 3) := by decide +kernel
theorem dX9_noTests_7 : decode cX9_noTests 7 = .ok (.ireturn, 1) := by decide +kernel
theorem dX9_fault_0 : decode cX9_fault 0 = .ok (.iload_n 1, 1) := by decide +kernel
theorem dX9_fault_1 : decode cX9_fault 1 = .ok (.iconst (-1), 1) := by decide +kernel
theorem dX9_fault_2 : decode cX9_fault 2 = .ok (.if_icmp .ge 5, 3) := by decide +kernel
theorem dX9_fault_5 : decode cX9_fault 5 = .ok (.iconst (-1), 1) := by decide +kernel
theorem dX9_fault_6 : decode cX9_fault 6 = .ok (.ireturn, 1) := by decide +kernel
theorem dX9_fault_7 : decode cX9_fault 7 = .ok (.iload_n 1, 1) := by decide +kernel
theorem dX9_fault_8 : decode cX9_fault 8 = .ok (.iconst (-1), 1) := by decide +kernel
theorem dX9_fault_9 : decode cX9_fault 9 = .ok (.if_icmp .ne 11, 3) := by decide +kernel
theorem dX9_fault_12 : decode cX9_fault 12 = .ok (.aload_n 0, 1) := by decide +kernel
theorem dX9_fault_13 : decode cX9_fault 13 = .ok (.getfield 67, 3) := by decide +kernel
theorem dX9_fault_16 : decode cX9_fault 16 = .ok (.getfield 249, 3) := by decide +kernel
theorem dX9_fault_19 : decode cX9_fault 19 = .ok (.ireturn, 1) := by decide +kernel
theorem dX9_fault_20 : decode cX9_fault 20 = .ok (.iload_n 1, 1) := by decide +kernel
theorem dX9_fault_21 : decode cX9_fault 21 = .ok (.aload_n 0, 1) := by decide +kernel
theorem dX9_fault_22 : decode cX9_fault 22 = .ok (.getfield 67, 3) := by decide +kernel
theorem dX9_fault_25 : decode cX9_fault 25 = .ok (.getfield 249, 3) := by decide +kernel
theorem dX9_fault_28 : decode cX9_fault 28 = .ok (.if_icmp .ge 15, 3) := by decide +kernel
theorem dX9_fault_31 : decode cX9_fault 31 = .ok (.aload_n 0, 1) := by decide +kernel
theorem dX9_fault_32 : decode cX9_fault 32 = .ok (.getfield 67, 3) := by decide +kernel
theorem dX9_fault_35 : decode cX9_fault 35 = .ok (.getfield 250, 3) := by decide +kernel
theorem dX9_fault_38 : decode cX9_fault 38 = .ok (.iload_n 1, 1) := by decide +kernel
theorem dX9_fault_39 : decode cX9_fault 39 = .ok (.iaload, 1) := by decide +kernel
theorem dX9_fault_40 : decode cX9_fault 40 = .ok (.goto 5, 3) := by decide +kernel
theorem dX9_fault_43 : decode cX9_fault 43 = .ok (.bipush (-4), 2) := by decide +kernel
theorem dX9_fault_45 : decode cX9_fault 45 = .ok (.ireturn, 1) := by decide +kernel
theorem dX9_nextTest_0 : decode cX9_nextTest 0 = .ok (.aload_n 0, 1) := by decide +kernel
theorem dX9_nextTest_1 : decode cX9_nextTest 1 = .ok (.getfield 67, 3) := by decide +kernel
theorem dX9_nextTest_4 : decode cX9_nextTest 4 = .ok (.aload_n 0, 1) := by decide +kernel
theorem dX9_nextTest_5 : decode cX9_nextTest 5 = .ok (.getfield 28, 3) := by decide +kernel
theorem dX9_nextTest_8 : decode cX9_nextTest 8 = .ok (.getfield 92, 3) := by decide +kernel
theorem dX9_nextTest_11 : decode cX9_nextTest 11 = .ok (.invokevirtual 253, 3) := by decide +kernel
theorem dX9_nextTest_14 : decode cX9_nextTest 14 = .ok (.ireturn, 1) := by decide +kernel
theorem dX9_frame_0 : decode cX9_frame 0 = .ok (.iload_n 1, 1) := by decide +kernel
theorem dX9_frame_1 : decode cX9_frame 1 = .ok (.bipush 24, 2) := by decide +kernel
theorem dX9_frame_3 : decode cX9_frame 3 = .ok (.invokestatic 78, 3) := by decide +kernel
theorem dX9_frame_6 : decode cX9_frame 6 = .ok (.ifCond .eq 21, 3) := by decide +kernel
theorem dX9_frame_9 : decode cX9_frame 9 = .ok (.iload_n 2, 1) := by decide +kernel
theorem dX9_frame_10 : decode cX9_frame 10 = .ok (.bipush 24, 2) := by decide +kernel
theorem dX9_frame_12 : decode cX9_frame 12 = .ok (.invokestatic 78, 3) := by decide +kernel
theorem dX9_frame_15 : decode cX9_frame 15 = .ok (.ifCond .eq 12, 3) := by decide +kernel
theorem dX9_frame_18 : decode cX9_frame 18 = .ok (.iload_n 3, 1) := by decide +kernel
theorem dX9_frame_19 : decode cX9_frame 19 = .ok (.ifCond .lt 8, 3) := by decide +kernel
theorem dX9_frame_22 : decode cX9_frame 22 = .ok (.iload_n 3, 1) := by decide +kernel
theorem dX9_frame_23 : decode cX9_frame 23 = .ok (.iconst 2, 1) := by decide +kernel
theorem dX9_frame_24 : decode cX9_frame 24 = .ok (.if_icmp .le 5, 3) := by decide +kernel
theorem dX9_frame_27 : decode cX9_frame 27 = .ok (.iconst (-1), 1) := by decide +kernel
theorem dX9_frame_28 : decode cX9_frame 28 = .ok (.ireturn, 1) := by decide +kernel
theorem dX9_frame_29 : decode cX9_frame 29 = .ok (.aload_n 0, 1) := by decide +kernel
theorem dX9_frame_30 : decode cX9_frame 30 = .ok (.getfield 74, 3) := by decide +kernel
theorem dX9_frame_33 : decode cX9_frame 33 = .ok (.iload_n 1, 1) := by decide +kernel
theorem dX9_frame_34 : decode cX9_frame 34 = .ok (.iload_n 2, 1) := by decide +kernel
theorem dX9_frame_35 : decode cX9_frame 35 = .ok (.invokevirtual 256, 3) := by decide +kernel
theorem dX9_frame_38 : decode cX9_frame 38 = .ok (.ifCond .ne 5, 3) := by decide +kernel
theorem dX9_frame_41 : decode cX9_frame 41 = .ok (.iconst (-1), 1) := by decide +kernel
theorem dX9_frame_42 : decode cX9_frame 42 = .ok (.ireturn, 1) := by decide +kernel
theorem dX9_frame_43 : decode cX9_frame 43 = .ok (.aload_n 0, 1) := by decide +kernel
theorem dX9_frame_44 : decode cX9_frame 44 = .ok (.getfield 74, 3) := by decide +kernel
theorem dX9_frame_47 : decode cX9_frame 47 = .ok (.iload_n 1, 1) := by decide +kernel
theorem dX9_frame_48 : decode cX9_frame 48 = .ok (.iload_n 2, 1) := by decide +kernel
theorem dX9_frame_49 : decode cX9_frame 49 = .ok (.iload_n 3, 1) := by decide +kernel
theorem dX9_frame_50 : decode cX9_frame 50 = .ok (.invokevirtual 259, 3) := by decide +kernel
theorem dX9_frame_53 : decode cX9_frame 53 = .ok (.ireturn, 1) := by decide +kernel
theorem dX9_wires_0 : decode cX9_wires 0 = .ok (.iload_n 1, 1) := by decide +kernel
theorem dX9_wires_1 : decode cX9_wires 1 = .ok (.ldc_w 262, 3) := by decide +kernel
theorem dX9_wires_4 : decode cX9_wires 4 = .ok (.invokestatic 78, 3) := by decide +kernel
theorem dX9_wires_7 : decode cX9_wires 7 = .ok (.ifCond .ne 5, 3) := by decide +kernel
theorem dX9_wires_10 : decode cX9_wires 10 = .ok (.iconst (-1), 1) := by decide +kernel
theorem dX9_wires_11 : decode cX9_wires 11 = .ok (.ireturn, 1) := by decide +kernel
theorem dX9_wires_12 : decode cX9_wires 12 = .ok (.iload_n 1, 1) := by decide +kernel
theorem dX9_wires_13 : decode cX9_wires 13 = .ok (.invokestatic 97, 3) := by decide +kernel
theorem dX9_wires_16 : decode cX9_wires 16 = .ok (.istore_n 2, 1) := by decide +kernel
theorem dX9_wires_17 : decode cX9_wires 17 = .ok (.iload_n 2, 1) := by decide +kernel
theorem dX9_wires_18 : decode cX9_wires 18 = .ok (.iconst 1, 1) := by decide +kernel
theorem dX9_wires_19 : decode cX9_wires 19 = .ok (.if_icmp .lt 8, 3) := by decide +kernel
theorem dX9_wires_22 : decode cX9_wires 22 = .ok (.iload_n 2, 1) := by decide +kernel
theorem dX9_wires_23 : decode cX9_wires 23 = .ok (.iconst 5, 1) := by decide +kernel
theorem dX9_wires_24 : decode cX9_wires 24 = .ok (.if_icmp .le 5, 3) := by decide +kernel
theorem dX9_wires_27 : decode cX9_wires 27 = .ok (.iconst (-1), 1) := by decide +kernel
theorem dX9_wires_28 : decode cX9_wires 28 = .ok (.ireturn, 1) := by decide +kernel
theorem dX9_wires_29 : decode cX9_wires 29 = .ok (.aload_n 0, 1) := by decide +kernel
theorem dX9_wires_30 : decode cX9_wires 30 = .ok (.getfield 74, 3) := by decide +kernel
theorem dX9_wires_33 : decode cX9_wires 33 = .ok (.iload_n 1, 1) := by decide +kernel
theorem dX9_wires_34 : decode cX9_wires 34 = .ok (.invokevirtual 263, 3) := by decide +kernel
theorem dX9_wires_37 : decode cX9_wires 37 = .ok (.ireturn, 1) := by decide +kernel
theorem dX9_count_0 : decode cX9_count 0 = .ok (.iload_n 1, 1) := by decide +kernel
theorem dX9_count_1 : decode cX9_count 1 = .ok (.tableswitch 128 0 8 #[51, 59, 67, 75, 84, 93, 104, 112, 120], 51) := by decide +kernel
theorem dX9_count_52 : decode cX9_count 52 = .ok (.aload_n 0, 1) := by decide +kernel
theorem dX9_count_53 : decode cX9_count 53 = .ok (.getfield 10, 3) := by decide +kernel
theorem dX9_count_56 : decode cX9_count 56 = .ok (.getfield 103, 3) := by decide +kernel
theorem dX9_count_59 : decode cX9_count 59 = .ok (.ireturn, 1) := by decide +kernel
theorem dX9_count_60 : decode cX9_count 60 = .ok (.aload_n 0, 1) := by decide +kernel
theorem dX9_count_61 : decode cX9_count 61 = .ok (.getfield 35, 3) := by decide +kernel
theorem dX9_count_64 : decode cX9_count 64 = .ok (.getfield 142, 3) := by decide +kernel
theorem dX9_count_67 : decode cX9_count 67 = .ok (.ireturn, 1) := by decide +kernel
theorem dX9_count_68 : decode cX9_count 68 = .ok (.aload_n 0, 1) := by decide +kernel
theorem dX9_count_69 : decode cX9_count 69 = .ok (.getfield 51, 3) := by decide +kernel
theorem dX9_count_72 : decode cX9_count 72 = .ok (.getfield 150, 3) := by decide +kernel
theorem dX9_count_75 : decode cX9_count 75 = .ok (.ireturn, 1) := by decide +kernel
theorem dX9_count_76 : decode cX9_count 76 = .ok (.aload_n 0, 1) := by decide +kernel
theorem dX9_count_77 : decode cX9_count 77 = .ok (.getfield 42, 3) := by decide +kernel
theorem dX9_count_80 : decode cX9_count 80 = .ok (.iconst 1, 1) := by decide +kernel
theorem dX9_count_81 : decode cX9_count 81 = .ok (.invokevirtual 218, 3) := by decide +kernel
theorem dX9_count_84 : decode cX9_count 84 = .ok (.ireturn, 1) := by decide +kernel
theorem dX9_count_85 : decode cX9_count 85 = .ok (.aload_n 0, 1) := by decide +kernel
theorem dX9_count_86 : decode cX9_count 86 = .ok (.getfield 42, 3) := by decide +kernel
theorem dX9_count_89 : decode cX9_count 89 = .ok (.iconst 2, 1) := by decide +kernel
theorem dX9_count_90 : decode cX9_count 90 = .ok (.invokevirtual 218, 3) := by decide +kernel
theorem dX9_count_93 : decode cX9_count 93 = .ok (.ireturn, 1) := by decide +kernel
theorem dX9_count_94 : decode cX9_count 94 = .ok (.aload_n 0, 1) := by decide +kernel
theorem dX9_count_95 : decode cX9_count 95 = .ok (.getfield 42, 3) := by decide +kernel
theorem dX9_count_98 : decode cX9_count 98 = .ok (.getfield 176, 3) := by decide +kernel
theorem dX9_count_101 : decode cX9_count 101 = .ok (.invokestatic 97, 3) := by decide +kernel
theorem dX9_count_104 : decode cX9_count 104 = .ok (.ireturn, 1) := by decide +kernel
theorem dX9_count_105 : decode cX9_count 105 = .ok (.aload_n 0, 1) := by decide +kernel
theorem dX9_count_106 : decode cX9_count 106 = .ok (.getfield 67, 3) := by decide +kernel
theorem dX9_count_109 : decode cX9_count 109 = .ok (.getfield 240, 3) := by decide +kernel
theorem dX9_count_112 : decode cX9_count 112 = .ok (.ireturn, 1) := by decide +kernel
theorem dX9_count_113 : decode cX9_count 113 = .ok (.aload_n 0, 1) := by decide +kernel
theorem dX9_count_114 : decode cX9_count 114 = .ok (.getfield 74, 3) := by decide +kernel
theorem dX9_count_117 : decode cX9_count 117 = .ok (.invokevirtual 266, 3) := by decide +kernel
theorem dX9_count_120 : decode cX9_count 120 = .ok (.ireturn, 1) := by decide +kernel
theorem dX9_count_121 : decode cX9_count 121 = .ok (.aload_n 0, 1) := by decide +kernel
theorem dX9_count_122 : decode cX9_count 122 = .ok (.getfield 42, 3) := by decide +kernel
theorem dX9_count_125 : decode cX9_count 125 = .ok (.getfield 269, 3) := by decide +kernel
theorem dX9_count_128 : decode cX9_count 128 = .ok (.ireturn, 1) := by decide +kernel
theorem dX9_count_129 : decode cX9_count 129 = .ok (.iconst (-1), 1) := by decide +kernel
theorem dX9_count_130 : decode cX9_count 130 = .ok (.ireturn, 1) := by decide +kernel
theorem dX9_within_0 : decode cX9_within 0 = .ok (.iload_n 0, 1) := by decide +kernel
theorem dX9_within_1 : decode cX9_within 1 = .ok (.ifCond .lt 12, 3) := by decide +kernel
theorem dX9_within_4 : decode cX9_within 4 = .ok (.iload_n 0, 1) := by decide +kernel
theorem dX9_within_5 : decode cX9_within 5 = .ok (.iload_n 1, 1) := by decide +kernel
theorem dX9_within_6 : decode cX9_within 6 = .ok (.if_icmp .ge 7, 3) := by decide +kernel
theorem dX9_within_9 : decode cX9_within 9 = .ok (.iconst 1, 1) := by decide +kernel
theorem dX9_within_10 : decode cX9_within 10 = .ok (.goto 4, 3) := by decide +kernel
theorem dX9_within_13 : decode cX9_within 13 = .ok (.iconst 0, 1) := by decide +kernel
theorem dX9_within_14 : decode cX9_within 14 = .ok (.ireturn, 1) := by decide +kernel
theorem dX10_init_0 : decode cX10_init 0 = .ok (.aload_n 0, 1) := by decide +kernel
theorem dX10_init_1 : decode cX10_init 1 = .ok (.invokespecial 1, 3) := by decide +kernel
theorem dX10_init_4 : decode cX10_init 4 = .ok (.aload_n 0, 1) := by decide +kernel
theorem dX10_init_5 : decode cX10_init 5 = .ok (.bipush 16, 2) := by decide +kernel
theorem dX10_init_7 : decode cX10_init 7 = .ok (.newarray .int, 2) := by decide +kernel
theorem dX10_init_9 : decode cX10_init 9 = .ok (.putfield 7, 3) := by decide +kernel
theorem dX10_init_12 : decode cX10_init 12 = .ok (.aload_n 0, 1) := by decide +kernel
theorem dX10_init_13 : decode cX10_init 13 = .ok (.bipush 8, 2) := by decide +kernel
theorem dX10_init_15 : decode cX10_init 15 = .ok (.newarray .int, 2) := by decide +kernel
theorem dX10_init_17 : decode cX10_init 17 = .ok (.putfield 13, 3) := by decide +kernel
theorem dX10_init_20 : decode cX10_init 20 = .ok (.aload_n 0, 1) := by decide +kernel
theorem dX10_init_21 : decode cX10_init 21 = .ok (.bipush 8, 2) := by decide +kernel
theorem dX10_init_23 : decode cX10_init 23 = .ok (.newarray .int, 2) := by decide +kernel
theorem dX10_init_25 : decode cX10_init 25 = .ok (.putfield 16, 3) := by decide +kernel
theorem dX10_init_28 : decode cX10_init 28 = .ok (.aload_n 0, 1) := by decide +kernel
theorem dX10_init_29 : decode cX10_init 29 = .ok (.bipush 12, 2) := by decide +kernel
theorem dX10_init_31 : decode cX10_init 31 = .ok (.newarray .int, 2) := by decide +kernel
theorem dX10_init_33 : decode cX10_init 33 = .ok (.putfield 19, 3) := by decide +kernel
theorem dX10_init_36 : decode cX10_init 36 = .ok (.aload_n 0, 1) := by decide +kernel
theorem dX10_init_37 : decode cX10_init 37 = .ok (.bipush 12, 2) := by decide +kernel
theorem dX10_init_39 : decode cX10_init 39 = .ok (.newarray .int, 2) := by decide +kernel
theorem dX10_init_41 : decode cX10_init 41 = .ok (.putfield 22, 3) := by decide +kernel
theorem dX10_init_44 : decode cX10_init 44 = .ok (.aload_n 0, 1) := by decide +kernel
theorem dX10_init_45 : decode cX10_init 45 = .ok (.bipush 12, 2) := by decide +kernel
theorem dX10_init_47 : decode cX10_init 47 = .ok (.newarray .int, 2) := by decide +kernel
theorem dX10_init_49 : decode cX10_init 49 = .ok (.putfield 25, 3) := by decide +kernel
theorem dX10_init_52 : decode cX10_init 52 = .ok (.aload_n 0, 1) := by decide +kernel
theorem dX10_init_53 : decode cX10_init 53 = .ok (.bipush 12, 2) := by decide +kernel
theorem dX10_init_55 : decode cX10_init 55 = .ok (.newarray .int, 2) := by decide +kernel
theorem dX10_init_57 : decode cX10_init 57 = .ok (.putfield 28, 3) := by decide +kernel
theorem dX10_init_60 : decode cX10_init 60 = .ok (.aload_n 0, 1) := by decide +kernel
theorem dX10_init_61 : decode cX10_init 61 = .ok (.bipush 12, 2) := by decide +kernel
theorem dX10_init_63 : decode cX10_init 63 = .ok (.newarray .int, 2) := by decide +kernel
theorem dX10_init_65 : decode cX10_init 65 = .ok (.putfield 31, 3) := by decide +kernel
theorem dX10_init_68 : decode cX10_init 68 = .ok (.aload_n 0, 1) := by decide +kernel
theorem dX10_init_69 : decode cX10_init 69 = .ok (.iconst 4, 1) := by decide +kernel
theorem dX10_init_70 : decode cX10_init 70 = .ok (.newarray .int, 2) := by decide +kernel
theorem dX10_init_72 : decode cX10_init 72 = .ok (.putfield 34, 3) := by decide +kernel
theorem dX10_init_75 : decode cX10_init 75 = .ok (.aload_n 0, 1) := by decide +kernel
theorem dX10_init_76 : decode cX10_init 76 = .ok (.iconst 4, 1) := by decide +kernel
theorem dX10_init_77 : decode cX10_init 77 = .ok (.newarray .int, 2) := by decide +kernel
theorem dX10_init_79 : decode cX10_init 79 = .ok (.putfield 37, 3) := by decide +kernel
theorem dX10_init_82 : decode cX10_init 82 = .ok (.aload_n 0, 1) := by decide +kernel
theorem dX10_init_83 : decode cX10_init 83 = .ok (.bipush 12, 2) := by decide +kernel
theorem dX10_init_85 : decode cX10_init 85 = .ok (.newarray .int, 2) := by decide +kernel
theorem dX10_init_87 : decode cX10_init 87 = .ok (.putfield 40, 3) := by decide +kernel
theorem dX10_init_90 : decode cX10_init 90 = .ok (.aload_n 0, 1) := by decide +kernel
theorem dX10_init_91 : decode cX10_init 91 = .ok (.bipush 12, 2) := by decide +kernel
theorem dX10_init_93 : decode cX10_init 93 = .ok (.newarray .int, 2) := by decide +kernel
theorem dX10_init_95 : decode cX10_init 95 = .ok (.putfield 43, 3) := by decide +kernel
theorem dX10_init_98 : decode cX10_init 98 = .ok (.aload_n 0, 1) := by decide +kernel
theorem dX10_init_99 : decode cX10_init 99 = .ok (.bipush 12, 2) := by decide +kernel
theorem dX10_init_101 : decode cX10_init 101 = .ok (.newarray .int, 2) := by decide +kernel
theorem dX10_init_103 : decode cX10_init 103 = .ok (.putfield 46, 3) := by decide +kernel
theorem dX10_init_106 : decode cX10_init 106 = .ok (.aload_n 0, 1) := by decide +kernel
theorem dX10_init_107 : decode cX10_init 107 = .ok (.bipush 12, 2) := by decide +kernel
theorem dX10_init_109 : decode cX10_init 109 = .ok (.newarray .int, 2) := by decide +kernel
theorem dX10_init_111 : decode cX10_init 111 = .ok (.putfield 49, 3) := by decide +kernel
theorem dX10_init_114 : decode cX10_init 114 = .ok (.aload_n 0, 1) := by decide +kernel
theorem dX10_init_115 : decode cX10_init 115 = .ok (.iconst 5, 1) := by decide +kernel
theorem dX10_init_116 : decode cX10_init 116 = .ok (.newarray .int, 2) := by decide +kernel
theorem dX10_init_118 : decode cX10_init 118 = .ok (.putfield 52, 3) := by decide +kernel
theorem dX10_init_121 : decode cX10_init 121 = .ok (.aload_n 0, 1) := by decide +kernel
theorem dX10_init_122 : decode cX10_init 122 = .ok (.iconst 5, 1) := by decide +kernel
theorem dX10_init_123 : decode cX10_init 123 = .ok (.newarray .int, 2) := by decide +kernel
theorem dX10_init_125 : decode cX10_init 125 = .ok (.putfield 55, 3) := by decide +kernel
theorem dX10_init_128 : decode cX10_init 128 = .ok (.aload_n 0, 1) := by decide +kernel
theorem dX10_init_129 : decode cX10_init 129 = .ok (.iconst 5, 1) := by decide +kernel
theorem dX10_init_130 : decode cX10_init 130 = .ok (.newarray .int, 2) := by decide +kernel
theorem dX10_init_132 : decode cX10_init 132 = .ok (.putfield 58, 3) := by decide +kernel
theorem dX10_init_135 : decode cX10_init 135 = .ok (.aload_n 0, 1) := by decide +kernel
theorem dX10_init_136 : decode cX10_init 136 = .ok (.iconst 5, 1) := by decide +kernel
theorem dX10_init_137 : decode cX10_init 137 = .ok (.newarray .int, 2) := by decide +kernel
theorem dX10_init_139 : decode cX10_init 139 = .ok (.putfield 61, 3) := by decide +kernel
theorem dX10_init_142 : decode cX10_init 142 = .ok (.aload_n 0, 1) := by decide +kernel
theorem dX10_init_143 : decode cX10_init 143 = .ok (.iconst 5, 1) := by decide +kernel
theorem dX10_init_144 : decode cX10_init 144 = .ok (.newarray .int, 2) := by decide +kernel
theorem dX10_init_146 : decode cX10_init 146 = .ok (.putfield 64, 3) := by decide +kernel
theorem dX10_init_149 : decode cX10_init 149 = .ok (.aload_n 0, 1) := by decide +kernel
theorem dX10_init_150 : decode cX10_init 150 = .ok (.iconst 5, 1) := by decide +kernel
theorem dX10_init_151 : decode cX10_init 151 = .ok (.newarray .int, 2) := by decide +kernel
theorem dX10_init_153 : decode cX10_init 153 = .ok (.putfield 67, 3) := by decide +kernel
theorem dX10_init_156 : decode cX10_init 156 = .ok (.aload_n 0, 1) := by decide +kernel
theorem dX10_init_157 : decode cX10_init 157 = .ok (.bipush 8, 2) := by decide +kernel
theorem dX10_init_159 : decode cX10_init 159 = .ok (.newarray .int, 2) := by decide +kernel
theorem dX10_init_161 : decode cX10_init 161 = .ok (.putfield 70, 3) := by decide +kernel
theorem dX10_init_164 : decode cX10_init 164 = .ok (.aload_n 0, 1) := by decide +kernel
theorem dX10_init_165 : decode cX10_init 165 = .ok (.bipush 12, 2) := by decide +kernel
theorem dX10_init_167 : decode cX10_init 167 = .ok (.newarray .int, 2) := by decide +kernel
theorem dX10_init_169 : decode cX10_init 169 = .ok (.putfield 73, 3) := by decide +kernel
theorem dX10_init_172 : decode cX10_init 172 = .ok (.aload_n 0, 1) := by decide +kernel
theorem dX10_init_173 : decode cX10_init 173 = .ok (.bipush 12, 2) := by decide +kernel
theorem dX10_init_175 : decode cX10_init 175 = .ok (.newarray .int, 2) := by decide +kernel
theorem dX10_init_177 : decode cX10_init 177 = .ok (.putfield 76, 3) := by decide +kernel
theorem dX10_init_180 : decode cX10_init 180 = .ok (.aload_n 0, 1) := by decide +kernel
theorem dX10_init_181 : decode cX10_init 181 = .ok (.bipush 12, 2) := by decide +kernel
theorem dX10_init_183 : decode cX10_init 183 = .ok (.newarray .int, 2) := by decide +kernel
theorem dX10_init_185 : decode cX10_init 185 = .ok (.putfield 79, 3) := by decide +kernel
theorem dX10_init_188 : decode cX10_init 188 = .ok (.aload_n 0, 1) := by decide +kernel
theorem dX10_init_189 : decode cX10_init 189 = .ok (.bipush 48, 2) := by decide +kernel
theorem dX10_init_191 : decode cX10_init 191 = .ok (.newarray .int, 2) := by decide +kernel
theorem dX10_init_193 : decode cX10_init 193 = .ok (.putfield 82, 3) := by decide +kernel
theorem dX10_init_196 : decode cX10_init 196 = .ok (.aload_n 0, 1) := by decide +kernel
theorem dX10_init_197 : decode cX10_init 197 = .ok (.iconst 4, 1) := by decide +kernel
theorem dX10_init_198 : decode cX10_init 198 = .ok (.newarray .int, 2) := by decide +kernel
theorem dX10_init_200 : decode cX10_init 200 = .ok (.putfield 85, 3) := by decide +kernel
theorem dX10_init_203 : decode cX10_init 203 = .ok (.aload_n 0, 1) := by decide +kernel
theorem dX10_init_204 : decode cX10_init 204 = .ok (.sipush 768, 3) := by decide +kernel
theorem dX10_init_207 : decode cX10_init 207 = .ok (.newarray .int, 2) := by decide +kernel
theorem dX10_init_209 : decode cX10_init 209 = .ok (.putfield 88, 3) := by decide +kernel
theorem dX10_init_212 : decode cX10_init 212 = .ok (.iconst 0, 1) := by decide +kernel
theorem dX10_init_213 : decode cX10_init 213 = .ok (.istore_n 1, 1) := by decide +kernel
theorem dX10_init_214 : decode cX10_init 214 = .ok (.iload_n 1, 1) := by decide +kernel
theorem dX10_init_215 : decode cX10_init 215 = .ok (.bipush 12, 2) := by decide +kernel
theorem dX10_init_217 : decode cX10_init 217 = .ok (.if_icmp .ge 16, 3) := by decide +kernel
theorem dX10_init_220 : decode cX10_init 220 = .ok (.aload_n 0, 1) := by decide +kernel
theorem dX10_init_221 : decode cX10_init 221 = .ok (.getfield 40, 3) := by decide +kernel
theorem dX10_init_224 : decode cX10_init 224 = .ok (.iload_n 1, 1) := by decide +kernel
theorem dX10_init_225 : decode cX10_init 225 = .ok (.iconst (-1), 1) := by decide +kernel
theorem dX10_init_226 : decode cX10_init 226 = .ok (.iastore, 1) := by decide +kernel
theorem dX10_init_227 : decode cX10_init 227 = .ok (.iinc 1 1, 3) := by decide +kernel
theorem dX10_init_230 : decode cX10_init 230 = .ok (.goto (-16), 3) := by decide +kernel
theorem dX10_init_233 : decode cX10_init 233 = .ok (.iconst 0, 1) := by decide +kernel
theorem dX10_init_234 : decode cX10_init 234 = .ok (.istore_n 1, 1) := by decide +kernel
theorem dX10_init_235 : decode cX10_init 235 = .ok (.iload_n 1, 1) := by decide +kernel
theorem dX10_init_236 : decode cX10_init 236 = .ok (.iconst 5, 1) := by decide +kernel
theorem dX10_init_237 : decode cX10_init 237 = .ok (.if_icmp .ge 17, 3) := by decide +kernel
theorem dX10_init_240 : decode cX10_init 240 = .ok (.aload_n 0, 1) := by decide +kernel
theorem dX10_init_241 : decode cX10_init 241 = .ok (.getfield 61, 3) := by decide +kernel
theorem dX10_init_244 : decode cX10_init 244 = .ok (.iload_n 1, 1) := by decide +kernel
theorem dX10_init_245 : decode cX10_init 245 = .ok (.bipush (-4), 2) := by decide +kernel
theorem dX10_init_247 : decode cX10_init 247 = .ok (.iastore, 1) := by decide +kernel
theorem dX10_init_248 : decode cX10_init 248 = .ok (.iinc 1 1, 3) := by decide +kernel
theorem dX10_init_251 : decode cX10_init 251 = .ok (.goto (-16), 3) := by decide +kernel
theorem dX10_init_254 : decode cX10_init 254 = .ok (.return_, 1) := by decide +kernel
theorem dX10_in_0 : decode cX10_in 0 = .ok (.iload_n 0, 1) := by decide +kernel
theorem dX10_in_1 : decode cX10_in 1 = .ok (.iload_n 1, 1) := by decide +kernel
theorem dX10_in_2 : decode cX10_in 2 = .ok (.if_icmp .lt 12, 3) := by decide +kernel
theorem dX10_in_5 : decode cX10_in 5 = .ok (.iload_n 0, 1) := by decide +kernel
theorem dX10_in_6 : decode cX10_in 6 = .ok (.iload_n 2, 1) := by decide +kernel
theorem dX10_in_7 : decode cX10_in 7 = .ok (.if_icmp .gt 7, 3) := by decide +kernel
theorem dX10_in_10 : decode cX10_in 10 = .ok (.iconst 1, 1) := by decide +kernel
theorem dX10_in_11 : decode cX10_in 11 = .ok (.goto 4, 3) := by decide +kernel
theorem dX10_in_14 : decode cX10_in 14 = .ok (.iconst 0, 1) := by decide +kernel
theorem dX10_in_15 : decode cX10_in 15 = .ok (.ireturn, 1) := by decide +kernel
theorem dX10_size_0 : decode cX10_size 0 = .ok (.iload_n 0, 1) := by decide +kernel
theorem dX10_size_1 : decode cX10_size 1 = .ok (.ifCond .ge 8, 3) := by decide +kernel
theorem dX10_size_4 : decode cX10_size 4 = .ok (.iload_n 0, 1) := by decide +kernel
theorem dX10_size_5 : decode cX10_size 5 = .ok (.ineg, 1) := by decide +kernel
theorem dX10_size_6 : decode cX10_size 6 = .ok (.goto 4, 3) := by decide +kernel
theorem dX10_size_9 : decode cX10_size 9 = .ok (.iload_n 0, 1) := by decide +kernel
theorem dX10_size_10 : decode cX10_size 10 = .ok (.ireturn, 1) := by decide +kernel
theorem dX10_bits_0 : decode cX10_bits 0 = .ok (.iconst 0, 1) := by decide +kernel
theorem dX10_bits_1 : decode cX10_bits 1 = .ok (.istore_n 1, 1) := by decide +kernel
theorem dX10_bits_2 : decode cX10_bits 2 = .ok (.iconst 0, 1) := by decide +kernel
theorem dX10_bits_3 : decode cX10_bits 3 = .ok (.istore_n 2, 1) := by decide +kernel
theorem dX10_bits_4 : decode cX10_bits 4 = .ok (.iload_n 2, 1) := by decide +kernel
theorem dX10_bits_5 : decode cX10_bits 5 = .ok (.bipush 24, 2) := by decide +kernel
theorem dX10_bits_7 : decode cX10_bits 7 = .ok (.if_icmp .ge 17, 3) := by decide +kernel
theorem dX10_bits_10 : decode cX10_bits 10 = .ok (.iload_n 1, 1) := by decide +kernel
theorem dX10_bits_11 : decode cX10_bits 11 = .ok (.iload_n 0, 1) := by decide +kernel
theorem dX10_bits_12 : decode cX10_bits 12 = .ok (.iload_n 2, 1) := by decide +kernel
theorem dX10_bits_13 : decode cX10_bits 13 = .ok (.ishr, 1) := by decide +kernel
theorem dX10_bits_14 : decode cX10_bits 14 = .ok (.iconst 1, 1) := by decide +kernel
theorem dX10_bits_15 : decode cX10_bits 15 = .ok (.iand, 1) := by decide +kernel
theorem dX10_bits_16 : decode cX10_bits 16 = .ok (.iadd, 1) := by decide +kernel
theorem dX10_bits_17 : decode cX10_bits 17 = .ok (.istore_n 1, 1) := by decide +kernel
theorem dX10_bits_18 : decode cX10_bits 18 = .ok (.iinc 2 1, 3) := by decide +kernel
theorem dX10_bits_21 : decode cX10_bits 21 = .ok (.goto (-17), 3) := by decide +kernel
theorem dX10_bits_24 : decode cX10_bits 24 = .ok (.iload_n 1, 1) := by decide +kernel
theorem dX10_bits_25 : decode cX10_bits 25 = .ok (.ireturn, 1) := by decide +kernel
theorem dX10_isPull_0 : decode cX10_isPull 0 = .ok (.iload_n 1, 1) := by decide +kernel
theorem dX10_isPull_1 : decode cX10_isPull 1 = .ok (.iconst 0, 1) := by decide +kernel
theorem dX10_isPull_2 : decode cX10_isPull 2 = .ok (.aload_n 0, 1) := by decide +kernel
theorem dX10_isPull_3 : decode cX10_isPull 3 = .ok (.getfield 91, 3) := by decide +kernel
theorem dX10_isPull_6 : decode cX10_isPull 6 = .ok (.iconst 1, 1) := by decide +kernel
theorem dX10_isPull_7 : decode cX10_isPull 7 = .ok (.isub, 1) := by decide +kernel
theorem dX10_isPull_8 : decode cX10_isPull 8 = .ok (.invokestatic 95, 3) := by decide +kernel
theorem dX10_isPull_11 : decode cX10_isPull 11 = .ok (.ireturn, 1) := by decide +kernel
theorem dX10_crank_0 : decode cX10_crank 0 = .ok (.iload_n 1, 1) := by decide +kernel
theorem dX10_crank_1 : decode cX10_crank 1 = .ok (.iconst 0, 1) := by decide +kernel
theorem dX10_crank_2 : decode cX10_crank 2 = .ok (.bipush 15, 2) := by decide +kernel
theorem dX10_crank_4 : decode cX10_crank 4 = .ok (.invokestatic 95, 3) := by decide +kernel
theorem dX10_crank_7 : decode cX10_crank 7 = .ok (.ifCond .eq 13, 3) := by decide +kernel
theorem dX10_crank_10 : decode cX10_crank 10 = .ok (.iload_n 2, 1) := by decide +kernel
theorem dX10_crank_11 : decode cX10_crank 11 = .ok (.iconst 0, 1) := by decide +kernel
theorem dX10_crank_12 : decode cX10_crank 12 = .ok (.bipush 10, 2) := by decide +kernel
theorem dX10_crank_14 : decode cX10_crank 14 = .ok (.invokestatic 95, 3) := by decide +kernel
theorem dX10_crank_17 : decode cX10_crank 17 = .ok (.ifCond .ne 5, 3) := by decide +kernel
theorem dX10_crank_20 : decode cX10_crank 20 = .ok (.iconst (-1), 1) := by decide +kernel
theorem dX10_crank_21 : decode cX10_crank 21 = .ok (.ireturn, 1) := by decide +kernel
theorem dX10_crank_22 : decode cX10_crank 22 = .ok (.aload_n 0, 1) := by decide +kernel
theorem dX10_crank_23 : decode cX10_crank 23 = .ok (.getfield 7, 3) := by decide +kernel
theorem dX10_crank_26 : decode cX10_crank 26 = .ok (.iload_n 1, 1) := by decide +kernel
theorem dX10_crank_27 : decode cX10_crank 27 = .ok (.iaload, 1) := by decide +kernel
theorem dX10_crank_28 : decode cX10_crank 28 = .ok (.istore_n 3, 1) := by decide +kernel
theorem dX10_crank_29 : decode cX10_crank 29 = .ok (.aload_n 0, 1) := by decide +kernel
theorem dX10_crank_30 : decode cX10_crank 30 = .ok (.getfield 7, 3) := by decide +kernel
theorem dX10_crank_33 : decode cX10_crank 33 = .ok (.iload_n 1, 1) := by decide +kernel
theorem dX10_crank_34 : decode cX10_crank 34 = .ok (.iload_n 2, 1) := by decide +kernel
theorem dX10_crank_35 : decode cX10_crank 35 = .ok (.iastore, 1) := by decide +kernel
theorem dX10_crank_36 : decode cX10_crank 36 = .ok (.iload_n 3, 1) := by decide +kernel
theorem dX10_crank_37 : decode cX10_crank 37 = .ok (.ireturn, 1) := by decide +kernel
theorem dX10_bell_0 : decode cX10_bell 0 = .ok (.iload_n 1, 1) := by decide +kernel
theorem dX10_bell_1 : decode cX10_bell 1 = .ok (.iconst 0, 1) := by decide +kernel
theorem dX10_bell_2 : decode cX10_bell 2 = .ok (.bipush 7, 2) := by decide +kernel
theorem dX10_bell_4 : decode cX10_bell 4 = .ok (.invokestatic 95, 3) := by decide +kernel
theorem dX10_bell_7 : decode cX10_bell 7 = .ok (.ifCond .eq 29, 3) := by decide +kernel
theorem dX10_bell_10 : decode cX10_bell 10 = .ok (.iload_n 2, 1) := by decide +kernel
theorem dX10_bell_11 : decode cX10_bell 11 = .ok (.iconst 0, 1) := by decide +kernel
theorem dX10_bell_12 : decode cX10_bell 12 = .ok (.iconst 1, 1) := by decide +kernel
theorem dX10_bell_13 : decode cX10_bell 13 = .ok (.invokestatic 95, 3) := by decide +kernel
theorem dX10_bell_16 : decode cX10_bell 16 = .ok (.ifCond .eq 20, 3) := by decide +kernel
theorem dX10_bell_19 : decode cX10_bell 19 = .ok (.iload_n 3, 1) := by decide +kernel
theorem dX10_bell_20 : decode cX10_bell 20 = .ok (.iconst 0, 1) := by decide +kernel
theorem dX10_bell_21 : decode cX10_bell 21 = .ok (.iload_n 2, 1) := by decide +kernel
theorem dX10_bell_22 : decode cX10_bell 22 = .ok (.ifCond .ne 7, 3) := by decide +kernel
theorem dX10_bell_25 : decode cX10_bell 25 = .ok (.iconst 5, 1) := by decide +kernel
theorem dX10_bell_26 : decode cX10_bell 26 = .ok (.goto 4, 3) := by decide +kernel
theorem dX10_bell_29 : decode cX10_bell 29 = .ok (.iconst 1, 1) := by decide +kernel
theorem dX10_bell_30 : decode cX10_bell 30 = .ok (.invokestatic 95, 3) := by decide +kernel
theorem dX10_bell_33 : decode cX10_bell 33 = .ok (.ifCond .ne 5, 3) := by decide +kernel
theorem dX10_bell_36 : decode cX10_bell 36 = .ok (.iconst (-1), 1) := by decide +kernel
theorem dX10_bell_37 : decode cX10_bell 37 = .ok (.ireturn, 1) := by decide +kernel
theorem dX10_bell_38 : decode cX10_bell 38 = .ok (.iload_n 2, 1) := by decide +kernel
theorem dX10_bell_39 : decode cX10_bell 39 = .ok (.ifCond .ne 12, 3) := by decide +kernel
theorem dX10_bell_42 : decode cX10_bell 42 = .ok (.aload_n 0, 1) := by decide +kernel
theorem dX10_bell_43 : decode cX10_bell 43 = .ok (.getfield 13, 3) := by decide +kernel
theorem dX10_bell_46 : decode cX10_bell 46 = .ok (.iload_n 1, 1) := by decide +kernel
theorem dX10_bell_47 : decode cX10_bell 47 = .ok (.iaload, 1) := by decide +kernel
theorem dX10_bell_48 : decode cX10_bell 48 = .ok (.goto 9, 3) := by decide +kernel
theorem dX10_bell_51 : decode cX10_bell 51 = .ok (.aload_n 0, 1) := by decide +kernel
theorem dX10_bell_52 : decode cX10_bell 52 = .ok (.getfield 16, 3) := by decide +kernel
theorem dX10_bell_55 : decode cX10_bell 55 = .ok (.iload_n 1, 1) := by decide +kernel
theorem dX10_bell_56 : decode cX10_bell 56 = .ok (.iaload, 1) := by decide +kernel
theorem dX10_bell_57 : decode cX10_bell 57 = .ok (.istore 4, 2) := by decide +kernel
theorem dX10_bell_59 : decode cX10_bell 59 = .ok (.aload_n 0, 1) := by decide +kernel
theorem dX10_bell_60 : decode cX10_bell 60 = .ok (.getfield 13, 3) := by decide +kernel
theorem dX10_bell_63 : decode cX10_bell 63 = .ok (.iload_n 1, 1) := by decide +kernel
theorem dX10_bell_64 : decode cX10_bell 64 = .ok (.iload_n 2, 1) := by decide +kernel
theorem dX10_bell_65 : decode cX10_bell 65 = .ok (.ifCond .ne 7, 3) := by decide +kernel
theorem dX10_bell_68 : decode cX10_bell 68 = .ok (.iload_n 3, 1) := by decide +kernel
theorem dX10_bell_69 : decode cX10_bell 69 = .ok (.goto 9, 3) := by decide +kernel
theorem dX10_bell_72 : decode cX10_bell 72 = .ok (.aload_n 0, 1) := by decide +kernel
theorem dX10_bell_73 : decode cX10_bell 73 = .ok (.getfield 13, 3) := by decide +kernel
theorem dX10_bell_76 : decode cX10_bell 76 = .ok (.iload_n 1, 1) := by decide +kernel
theorem dX10_bell_77 : decode cX10_bell 77 = .ok (.iaload, 1) := by decide +kernel
theorem dX10_bell_78 : decode cX10_bell 78 = .ok (.iastore, 1) := by decide +kernel
theorem dX10_bell_79 : decode cX10_bell 79 = .ok (.aload_n 0, 1) := by decide +kernel
theorem dX10_bell_80 : decode cX10_bell 80 = .ok (.getfield 16, 3) := by decide +kernel
theorem dX10_bell_83 : decode cX10_bell 83 = .ok (.iload_n 1, 1) := by decide +kernel
theorem dX10_bell_84 : decode cX10_bell 84 = .ok (.iload_n 2, 1) := by decide +kernel
theorem dX10_bell_85 : decode cX10_bell 85 = .ok (.iconst 1, 1) := by decide +kernel
theorem dX10_bell_86 : decode cX10_bell 86 = .ok (.if_icmp .ne 7, 3) := by decide +kernel
theorem dX10_bell_89 : decode cX10_bell 89 = .ok (.iload_n 3, 1) := by decide +kernel
theorem dX10_bell_90 : decode cX10_bell 90 = .ok (.goto 9, 3) := by decide +kernel
theorem dX10_bell_93 : decode cX10_bell 93 = .ok (.aload_n 0, 1) := by decide +kernel
theorem dX10_bell_94 : decode cX10_bell 94 = .ok (.getfield 16, 3) := by decide +kernel
theorem dX10_bell_97 : decode cX10_bell 97 = .ok (.iload_n 1, 1) := by decide +kernel
theorem dX10_bell_98 : decode cX10_bell 98 = .ok (.iaload, 1) := by decide +kernel
theorem dX10_bell_99 : decode cX10_bell 99 = .ok (.iastore, 1) := by decide +kernel
theorem dX10_bell_100 : decode cX10_bell 100 = .ok (.iload 4, 2) := by decide +kernel
theorem dX10_bell_102 : decode cX10_bell 102 = .ok (.ireturn, 1) := by decide +kernel
theorem dX10_heat_0 : decode cX10_heat 0 = .ok (.iload_n 1, 1) := by decide +kernel
theorem dX10_heat_1 : decode cX10_heat 1 = .ok (.iconst 0, 1) := by decide +kernel
theorem dX10_heat_2 : decode cX10_heat 2 = .ok (.bipush 40, 2) := by decide +kernel
theorem dX10_heat_4 : decode cX10_heat 4 = .ok (.invokestatic 95, 3) := by decide +kernel
theorem dX10_heat_7 : decode cX10_heat 7 = .ok (.ifCond .ne 5, 3) := by decide +kernel
theorem dX10_heat_10 : decode cX10_heat 10 = .ok (.iconst (-1), 1) := by decide +kernel
theorem dX10_heat_11 : decode cX10_heat 11 = .ok (.ireturn, 1) := by decide +kernel
theorem dX10_heat_12 : decode cX10_heat 12 = .ok (.aload_n 0, 1) := by decide +kernel
theorem dX10_heat_13 : decode cX10_heat 13 = .ok (.getfield 99, 3) := by decide +kernel
theorem dX10_heat_16 : decode cX10_heat 16 = .ok (.istore_n 2, 1) := by decide +kernel
theorem dX10_heat_17 : decode cX10_heat 17 = .ok (.aload_n 0, 1) := by decide +kernel
theorem dX10_heat_18 : decode cX10_heat 18 = .ok (.iload_n 1, 1) := by decide +kernel
theorem dX10_heat_19 : decode cX10_heat 19 = .ok (.putfield 99, 3) := by decide +kernel
theorem dX10_heat_22 : decode cX10_heat 22 = .ok (.iload_n 2, 1) := by decide +kernel
theorem dX10_heat_23 : decode cX10_heat 23 = .ok (.ireturn, 1) := by decide +kernel
theorem dX10_pull_0 : decode cX10_pull 0 = .ok (.iload_n 1, 1) := by decide +kernel
theorem dX10_pull_1 : decode cX10_pull 1 = .ok (.iconst 0, 1) := by decide +kernel
theorem dX10_pull_2 : decode cX10_pull 2 = .ok (.iconst 3, 1) := by decide +kernel
theorem dX10_pull_3 : decode cX10_pull 3 = .ok (.invokestatic 95, 3) := by decide +kernel
theorem dX10_pull_6 : decode cX10_pull 6 = .ok (.ifCond .eq 53, 3) := by decide +kernel
theorem dX10_pull_9 : decode cX10_pull 9 = .ok (.iload_n 2, 1) := by decide +kernel
theorem dX10_pull_10 : decode cX10_pull 10 = .ok (.iconst 0, 1) := by decide +kernel
theorem dX10_pull_11 : decode cX10_pull 11 = .ok (.bipush 30, 2) := by decide +kernel
theorem dX10_pull_13 : decode cX10_pull 13 = .ok (.invokestatic 95, 3) := by decide +kernel
theorem dX10_pull_16 : decode cX10_pull 16 = .ok (.ifCond .eq 43, 3) := by decide +kernel
theorem dX10_pull_19 : decode cX10_pull 19 = .ok (.iload_n 3, 1) := by decide +kernel
theorem dX10_pull_20 : decode cX10_pull 20 = .ok (.iconst 0, 1) := by decide +kernel
theorem dX10_pull_21 : decode cX10_pull 21 = .ok (.iconst 4, 1) := by decide +kernel
theorem dX10_pull_22 : decode cX10_pull 22 = .ok (.invokestatic 95, 3) := by decide +kernel
theorem dX10_pull_25 : decode cX10_pull 25 = .ok (.ifCond .eq 34, 3) := by decide +kernel
theorem dX10_pull_28 : decode cX10_pull 28 = .ok (.iload 4, 2) := by decide +kernel
theorem dX10_pull_30 : decode cX10_pull 30 = .ok (.iconst 0, 1) := by decide +kernel
theorem dX10_pull_31 : decode cX10_pull 31 = .ok (.bipush 7, 2) := by decide +kernel
theorem dX10_pull_33 : decode cX10_pull 33 = .ok (.invokestatic 95, 3) := by decide +kernel
theorem dX10_pull_36 : decode cX10_pull 36 = .ok (.ifCond .eq 23, 3) := by decide +kernel
theorem dX10_pull_39 : decode cX10_pull 39 = .ok (.iload 5, 2) := by decide +kernel
theorem dX10_pull_41 : decode cX10_pull 41 = .ok (.iconst 1, 1) := by decide +kernel
theorem dX10_pull_42 : decode cX10_pull 42 = .ok (.ldc 102, 2) := by decide +kernel
theorem dX10_pull_44 : decode cX10_pull 44 = .ok (.invokestatic 95, 3) := by decide +kernel
theorem dX10_pull_47 : decode cX10_pull 47 = .ok (.ifCond .eq 12, 3) := by decide +kernel
theorem dX10_pull_50 : decode cX10_pull 50 = .ok (.iload 5, 2) := by decide +kernel
theorem dX10_pull_52 : decode cX10_pull 52 = .ok (.invokestatic 103, 3) := by decide +kernel
theorem dX10_pull_55 : decode cX10_pull 55 = .ok (.iconst 5, 1) := by decide +kernel
theorem dX10_pull_56 : decode cX10_pull 56 = .ok (.if_icmp .le 5, 3) := by decide +kernel
theorem dX10_pull_59 : decode cX10_pull 59 = .ok (.iconst (-1), 1) := by decide +kernel
theorem dX10_pull_60 : decode cX10_pull 60 = .ok (.ireturn, 1) := by decide +kernel
theorem dX10_pull_61 : decode cX10_pull 61 = .ok (.aload_n 0, 1) := by decide +kernel
theorem dX10_pull_62 : decode cX10_pull 62 = .ok (.getfield 91, 3) := by decide +kernel
theorem dX10_pull_65 : decode cX10_pull 65 = .ok (.bipush 12, 2) := by decide +kernel
theorem dX10_pull_67 : decode cX10_pull 67 = .ok (.if_icmp .ne 6, 3) := by decide +kernel
theorem dX10_pull_70 : decode cX10_pull 70 = .ok (.bipush (-3), 2) := by decide +kernel
theorem dX10_pull_72 : decode cX10_pull 72 = .ok (.ireturn, 1) := by decide +kernel
theorem dX10_pull_73 : decode cX10_pull 73 = .ok (.aload_n 0, 1) := by decide +kernel
theorem dX10_pull_74 : decode cX10_pull 74 = .ok (.getfield 19, 3) := by decide +kernel
theorem dX10_pull_77 : decode cX10_pull 77 = .ok (.aload_n 0, 1) := by decide +kernel
theorem dX10_pull_78 : decode cX10_pull 78 = .ok (.getfield 91, 3) := by decide +kernel
theorem dX10_pull_81 : decode cX10_pull 81 = .ok (.iload_n 1, 1) := by decide +kernel
theorem dX10_pull_82 : decode cX10_pull 82 = .ok (.iastore, 1) := by decide +kernel
theorem dX10_pull_83 : decode cX10_pull 83 = .ok (.aload_n 0, 1) := by decide +kernel
theorem dX10_pull_84 : decode cX10_pull 84 = .ok (.getfield 22, 3) := by decide +kernel
theorem dX10_pull_87 : decode cX10_pull 87 = .ok (.aload_n 0, 1) := by decide +kernel
theorem dX10_pull_88 : decode cX10_pull 88 = .ok (.getfield 91, 3) := by decide +kernel
theorem dX10_pull_91 : decode cX10_pull 91 = .ok (.iload_n 2, 1) := by decide +kernel
theorem dX10_pull_92 : decode cX10_pull 92 = .ok (.iastore, 1) := by decide +kernel
theorem dX10_pull_93 : decode cX10_pull 93 = .ok (.aload_n 0, 1) := by decide +kernel
theorem dX10_pull_94 : decode cX10_pull 94 = .ok (.getfield 25, 3) := by decide +kernel
theorem dX10_pull_97 : decode cX10_pull 97 = .ok (.aload_n 0, 1) := by decide +kernel
theorem dX10_pull_98 : decode cX10_pull 98 = .ok (.getfield 91, 3) := by decide +kernel
theorem dX10_pull_101 : decode cX10_pull 101 = .ok (.iload_n 3, 1) := by decide +kernel
theorem dX10_pull_102 : decode cX10_pull 102 = .ok (.iastore, 1) := by decide +kernel
theorem dX10_pull_103 : decode cX10_pull 103 = .ok (.aload_n 0, 1) := by decide +kernel
theorem dX10_pull_104 : decode cX10_pull 104 = .ok (.getfield 28, 3) := by decide +kernel
theorem dX10_pull_107 : decode cX10_pull 107 = .ok (.aload_n 0, 1) := by decide +kernel
theorem dX10_pull_108 : decode cX10_pull 108 = .ok (.getfield 91, 3) := by decide +kernel
theorem dX10_pull_111 : decode cX10_pull 111 = .ok (.iload 4, 2) := by decide +kernel
theorem dX10_pull_113 : decode cX10_pull 113 = .ok (.iastore, 1) := by decide +kernel
theorem dX10_pull_114 : decode cX10_pull 114 = .ok (.aload_n 0, 1) := by decide +kernel
theorem dX10_pull_115 : decode cX10_pull 115 = .ok (.getfield 31, 3) := by decide +kernel
theorem dX10_pull_118 : decode cX10_pull 118 = .ok (.aload_n 0, 1) := by decide +kernel
theorem dX10_pull_119 : decode cX10_pull 119 = .ok (.getfield 91, 3) := by decide +kernel
theorem dX10_pull_122 : decode cX10_pull 122 = .ok (.iload 5, 2) := by decide +kernel
theorem dX10_pull_124 : decode cX10_pull 124 = .ok (.iastore, 1) := by decide +kernel
theorem dX10_pull_125 : decode cX10_pull 125 = .ok (.aload_n 0, 1) := by decide +kernel
theorem dX10_pull_126 : decode cX10_pull 126 = .ok (.dup, 1) := by decide +kernel
theorem dX10_pull_127 : decode cX10_pull 127 = .ok (.getfield 91, 3) := by decide +kernel
theorem dX10_pull_130 : decode cX10_pull 130 = .ok (.iconst 1, 1) := by decide +kernel
theorem dX10_pull_131 : decode cX10_pull 131 = .ok (.iadd, 1) := by decide +kernel
theorem dX10_pull_132 : decode cX10_pull 132 = .ok (.putfield 91, 3) := by decide +kernel
theorem dX10_pull_135 : decode cX10_pull 135 = .ok (.aload_n 0, 1) := by decide +kernel
theorem dX10_pull_136 : decode cX10_pull 136 = .ok (.getfield 91, 3) := by decide +kernel
theorem dX10_pull_139 : decode cX10_pull 139 = .ok (.iconst 1, 1) := by decide +kernel
theorem dX10_pull_140 : decode cX10_pull 140 = .ok (.isub, 1) := by decide +kernel
theorem dX10_pull_141 : decode cX10_pull 141 = .ok (.ireturn, 1) := by decide +kernel
theorem dX10_areCrossed_0 : decode cX10_areCrossed 0 = .ok (.iconst 0, 1) := by decide +kernel
theorem dX10_areCrossed_1 : decode cX10_areCrossed 1 = .ok (.istore_n 3, 1) := by decide +kernel
theorem dX10_areCrossed_2 : decode cX10_areCrossed 2 = .ok (.iconst 0, 1) := by decide +kernel
theorem dX10_areCrossed_3 : decode cX10_areCrossed 3 = .ok (.istore 4, 2) := by decide +kernel
theorem dX10_areCrossed_5 : decode cX10_areCrossed 5 = .ok (.iload 4, 2) := by decide +kernel
theorem dX10_areCrossed_7 : decode cX10_areCrossed 7 = .ok (.aload_n 0, 1) := by decide +kernel
theorem dX10_areCrossed_8 : decode cX10_areCrossed 8 = .ok (.getfield 107, 3) := by decide +kernel
theorem dX10_areCrossed_11 : decode cX10_areCrossed 11 = .ok (.if_icmp .ge 63, 3) := by decide +kernel
theorem dX10_areCrossed_14 : decode cX10_areCrossed 14 = .ok (.iload_n 3, 1) := by decide +kernel
theorem dX10_areCrossed_15 : decode cX10_areCrossed 15 = .ok (.ifCond .ne 47, 3) := by decide +kernel
theorem dX10_areCrossed_18 : decode cX10_areCrossed 18 = .ok (.aload_n 0, 1) := by decide +kernel
theorem dX10_areCrossed_19 : decode cX10_areCrossed 19 = .ok (.getfield 34, 3) := by decide +kernel
theorem dX10_areCrossed_22 : decode cX10_areCrossed 22 = .ok (.iload 4, 2) := by decide +kernel
theorem dX10_areCrossed_24 : decode cX10_areCrossed 24 = .ok (.iaload, 1) := by decide +kernel
theorem dX10_areCrossed_25 : decode cX10_areCrossed 25 = .ok (.iload_n 1, 1) := by decide +kernel
theorem dX10_areCrossed_26 : decode cX10_areCrossed 26 = .ok (.if_icmp .ne 14, 3) := by decide +kernel
theorem dX10_areCrossed_29 : decode cX10_areCrossed 29 = .ok (.aload_n 0, 1) := by decide +kernel
theorem dX10_areCrossed_30 : decode cX10_areCrossed 30 = .ok (.getfield 37, 3) := by decide +kernel
theorem dX10_areCrossed_33 : decode cX10_areCrossed 33 = .ok (.iload 4, 2) := by decide +kernel
theorem dX10_areCrossed_35 : decode cX10_areCrossed 35 = .ok (.iaload, 1) := by decide +kernel
theorem dX10_areCrossed_36 : decode cX10_areCrossed 36 = .ok (.iload_n 2, 1) := by decide +kernel
theorem dX10_areCrossed_37 : decode cX10_areCrossed 37 = .ok (.if_icmp .eq 25, 3) := by decide +kernel
theorem dX10_areCrossed_40 : decode cX10_areCrossed 40 = .ok (.aload_n 0, 1) := by decide +kernel
theorem dX10_areCrossed_41 : decode cX10_areCrossed 41 = .ok (.getfield 34, 3) := by decide +kernel
theorem dX10_areCrossed_44 : decode cX10_areCrossed 44 = .ok (.iload 4, 2) := by decide +kernel
theorem dX10_areCrossed_46 : decode cX10_areCrossed 46 = .ok (.iaload, 1) := by decide +kernel
theorem dX10_areCrossed_47 : decode cX10_areCrossed 47 = .ok (.iload_n 2, 1) := by decide +kernel
theorem dX10_areCrossed_48 : decode cX10_areCrossed 48 = .ok (.if_icmp .ne 18, 3) := by decide +kernel
theorem dX10_areCrossed_51 : decode cX10_areCrossed 51 = .ok (.aload_n 0, 1) := by decide +kernel
theorem dX10_areCrossed_52 : decode cX10_areCrossed 52 = .ok (.getfield 37, 3) := by decide +kernel
theorem dX10_areCrossed_55 : decode cX10_areCrossed 55 = .ok (.iload 4, 2) := by decide +kernel
theorem dX10_areCrossed_57 : decode cX10_areCrossed 57 = .ok (.iaload, 1) := by decide +kernel
theorem dX10_areCrossed_58 : decode cX10_areCrossed 58 = .ok (.iload_n 1, 1) := by decide +kernel
theorem dX10_areCrossed_59 : decode cX10_areCrossed 59 = .ok (.if_icmp .ne 7, 3) := by decide +kernel
theorem dX10_areCrossed_62 : decode cX10_areCrossed 62 = .ok (.iconst 1, 1) := by decide +kernel
theorem dX10_areCrossed_63 : decode cX10_areCrossed 63 = .ok (.goto 4, 3) := by decide +kernel
theorem dX10_areCrossed_66 : decode cX10_areCrossed 66 = .ok (.iconst 0, 1) := by decide +kernel
theorem dX10_areCrossed_67 : decode cX10_areCrossed 67 = .ok (.istore_n 3, 1) := by decide +kernel
theorem dX10_areCrossed_68 : decode cX10_areCrossed 68 = .ok (.iinc 4 1, 3) := by decide +kernel
theorem dX10_areCrossed_71 : decode cX10_areCrossed 71 = .ok (.goto (-66), 3) := by decide +kernel
theorem dX10_areCrossed_74 : decode cX10_areCrossed 74 = .ok (.iload_n 3, 1) := by decide +kernel
theorem dX10_areCrossed_75 : decode cX10_areCrossed 75 = .ok (.ireturn, 1) := by decide +kernel
theorem dX10_cross_0 : decode cX10_cross 0 = .ok (.iload_n 1, 1) := by decide +kernel
theorem dX10_cross_1 : decode cX10_cross 1 = .ok (.iconst 0, 1) := by decide +kernel
theorem dX10_cross_2 : decode cX10_cross 2 = .ok (.bipush 15, 2) := by decide +kernel
theorem dX10_cross_4 : decode cX10_cross 4 = .ok (.invokestatic 95, 3) := by decide +kernel
theorem dX10_cross_7 : decode cX10_cross 7 = .ok (.ifCond .eq 18, 3) := by decide +kernel
theorem dX10_cross_10 : decode cX10_cross 10 = .ok (.iload_n 2, 1) := by decide +kernel
theorem dX10_cross_11 : decode cX10_cross 11 = .ok (.iconst 0, 1) := by decide +kernel
theorem dX10_cross_12 : decode cX10_cross 12 = .ok (.bipush 15, 2) := by decide +kernel
theorem dX10_cross_14 : decode cX10_cross 14 = .ok (.invokestatic 95, 3) := by decide +kernel
theorem dX10_cross_17 : decode cX10_cross 17 = .ok (.ifCond .eq 8, 3) := by decide +kernel
theorem dX10_cross_20 : decode cX10_cross 20 = .ok (.iload_n 1, 1) := by decide +kernel
theorem dX10_cross_21 : decode cX10_cross 21 = .ok (.iload_n 2, 1) := by decide +kernel
theorem dX10_cross_22 : decode cX10_cross 22 = .ok (.if_icmp .ne 5, 3) := by decide +kernel
theorem dX10_cross_25 : decode cX10_cross 25 = .ok (.iconst (-1), 1) := by decide +kernel
theorem dX10_cross_26 : decode cX10_cross 26 = .ok (.ireturn, 1) := by decide +kernel
theorem dX10_cross_27 : decode cX10_cross 27 = .ok (.aload_n 0, 1) := by decide +kernel
theorem dX10_cross_28 : decode cX10_cross 28 = .ok (.iload_n 1, 1) := by decide +kernel
theorem dX10_cross_29 : decode cX10_cross 29 = .ok (.iload_n 2, 1) := by decide +kernel
theorem dX10_cross_30 : decode cX10_cross 30 = .ok (.invokevirtual 110, 3) := by decide +kernel
theorem dX10_cross_33 : decode cX10_cross 33 = .ok (.ifCond .eq 6, 3) := by decide +kernel
theorem dX10_cross_36 : decode cX10_cross 36 = .ok (.bipush (-2), 2) := by decide +kernel
theorem dX10_cross_38 : decode cX10_cross 38 = .ok (.ireturn, 1) := by decide +kernel
theorem dX10_cross_39 : decode cX10_cross 39 = .ok (.aload_n 0, 1) := by decide +kernel
theorem dX10_cross_40 : decode cX10_cross 40 = .ok (.getfield 107, 3) := by decide +kernel
theorem dX10_cross_43 : decode cX10_cross 43 = .ok (.iconst 4, 1) := by decide +kernel
theorem dX10_cross_44 : decode cX10_cross 44 = .ok (.if_icmp .ne 6, 3) := by decide +kernel
theorem dX10_cross_47 : decode cX10_cross 47 = .ok (.bipush (-3), 2) := by decide +kernel
theorem dX10_cross_49 : decode cX10_cross 49 = .ok (.ireturn, 1) := by decide +kernel
theorem dX10_cross_50 : decode cX10_cross 50 = .ok (.aload_n 0, 1) := by decide +kernel
theorem dX10_cross_51 : decode cX10_cross 51 = .ok (.getfield 34, 3) := by decide +kernel
theorem dX10_cross_54 : decode cX10_cross 54 = .ok (.aload_n 0, 1) := by decide +kernel
theorem dX10_cross_55 : decode cX10_cross 55 = .ok (.getfield 107, 3) := by decide +kernel
theorem dX10_cross_58 : decode cX10_cross 58 = .ok (.iload_n 1, 1) := by decide +kernel
theorem dX10_cross_59 : decode cX10_cross 59 = .ok (.iastore, 1) := by decide +kernel
theorem dX10_cross_60 : decode cX10_cross 60 = .ok (.aload_n 0, 1) := by decide +kernel
theorem dX10_cross_61 : decode cX10_cross 61 = .ok (.getfield 37, 3) := by decide +kernel
theorem dX10_cross_64 : decode cX10_cross 64 = .ok (.aload_n 0, 1) := by decide +kernel
theorem dX10_cross_65 : decode cX10_cross 65 = .ok (.getfield 107, 3) := by decide +kernel
theorem dX10_cross_68 : decode cX10_cross 68 = .ok (.iload_n 2, 1) := by decide +kernel
theorem dX10_cross_69 : decode cX10_cross 69 = .ok (.iastore, 1) := by decide +kernel
theorem dX10_cross_70 : decode cX10_cross 70 = .ok (.aload_n 0, 1) := by decide +kernel
theorem dX10_cross_71 : decode cX10_cross 71 = .ok (.dup, 1) := by decide +kernel
theorem dX10_cross_72 : decode cX10_cross 72 = .ok (.getfield 107, 3) := by decide +kernel
theorem dX10_cross_75 : decode cX10_cross 75 = .ok (.iconst 1, 1) := by decide +kernel
theorem dX10_cross_76 : decode cX10_cross 76 = .ok (.iadd, 1) := by decide +kernel
theorem dX10_cross_77 : decode cX10_cross 77 = .ok (.putfield 107, 3) := by decide +kernel
theorem dX10_cross_80 : decode cX10_cross 80 = .ok (.aload_n 0, 1) := by decide +kernel
theorem dX10_cross_81 : decode cX10_cross 81 = .ok (.getfield 107, 3) := by decide +kernel
theorem dX10_cross_84 : decode cX10_cross 84 = .ok (.ireturn, 1) := by decide +kernel
theorem dX10_uncross_0 : decode cX10_uncross 0 = .ok (.aload_n 0, 1) := by decide +kernel
theorem dX10_uncross_1 : decode cX10_uncross 1 = .ok (.getfield 107, 3) := by decide +kernel
theorem dX10_uncross_4 : decode cX10_uncross 4 = .ok (.istore_n 1, 1) := by decide +kernel
theorem dX10_uncross_5 : decode cX10_uncross 5 = .ok (.aload_n 0, 1) := by decide +kernel
theorem dX10_uncross_6 : decode cX10_uncross 6 = .ok (.iconst 0, 1) := by decide +kernel
theorem dX10_uncross_7 : decode cX10_uncross 7 = .ok (.putfield 107, 3) := by decide +kernel
theorem dX10_uncross_10 : decode cX10_uncross 10 = .ok (.iload_n 1, 1) := by decide +kernel
theorem dX10_uncross_11 : decode cX10_uncross 11 = .ok (.ireturn, 1) := by decide +kernel
theorem dX10_crankBy_0 : decode cX10_crankBy 0 = .ok (.iload_n 2, 1) := by decide +kernel
theorem dX10_crankBy_1 : decode cX10_crankBy 1 = .ok (.ifCond .ge 10, 3) := by decide +kernel
theorem dX10_crankBy_4 : decode cX10_crankBy 4 = .ok (.aload_n 0, 1) := by decide +kernel
theorem dX10_crankBy_5 : decode cX10_crankBy 5 = .ok (.getfield 7, 3) := by decide +kernel
theorem dX10_crankBy_8 : decode cX10_crankBy 8 = .ok (.iload_n 1, 1) := by decide +kernel
theorem dX10_crankBy_9 : decode cX10_crankBy 9 = .ok (.iaload, 1) := by decide +kernel
theorem dX10_crankBy_10 : decode cX10_crankBy 10 = .ok (.ireturn, 1) := by decide +kernel
theorem dX10_crankBy_11 : decode cX10_crankBy 11 = .ok (.iload_n 2, 1) := by decide +kernel
theorem dX10_crankBy_12 : decode cX10_crankBy 12 = .ok (.bipush 16, 2) := by decide +kernel
theorem dX10_crankBy_14 : decode cX10_crankBy 14 = .ok (.if_icmp .ge 15, 3) := by decide +kernel
theorem dX10_crankBy_17 : decode cX10_crankBy 17 = .ok (.iload_n 2, 1) := by decide +kernel
theorem dX10_crankBy_18 : decode cX10_crankBy 18 = .ok (.iload_n 1, 1) := by decide +kernel
theorem dX10_crankBy_19 : decode cX10_crankBy 19 = .ok (.if_icmp .ne 8, 3) := by decide +kernel
theorem dX10_crankBy_22 : decode cX10_crankBy 22 = .ok (.bipush 10, 2) := by decide +kernel
theorem dX10_crankBy_24 : decode cX10_crankBy 24 = .ok (.goto 4, 3) := by decide +kernel
theorem dX10_crankBy_27 : decode cX10_crankBy 27 = .ok (.iconst 0, 1) := by decide +kernel
theorem dX10_crankBy_28 : decode cX10_crankBy 28 = .ok (.ireturn, 1) := by decide +kernel
theorem dX10_crankBy_29 : decode cX10_crankBy 29 = .ok (.iload_n 2, 1) := by decide +kernel
theorem dX10_crankBy_30 : decode cX10_crankBy 30 = .ok (.sipush 160, 3) := by decide +kernel
theorem dX10_crankBy_33 : decode cX10_crankBy 33 = .ok (.if_icmp .ge 26, 3) := by decide +kernel
theorem dX10_crankBy_36 : decode cX10_crankBy 36 = .ok (.iload_n 2, 1) := by decide +kernel
theorem dX10_crankBy_37 : decode cX10_crankBy 37 = .ok (.bipush 16, 2) := by decide +kernel
theorem dX10_crankBy_39 : decode cX10_crankBy 39 = .ok (.isub, 1) := by decide +kernel
theorem dX10_crankBy_40 : decode cX10_crankBy 40 = .ok (.bipush 9, 2) := by decide +kernel
theorem dX10_crankBy_42 : decode cX10_crankBy 42 = .ok (.idiv, 1) := by decide +kernel
theorem dX10_crankBy_43 : decode cX10_crankBy 43 = .ok (.iload_n 1, 1) := by decide +kernel
theorem dX10_crankBy_44 : decode cX10_crankBy 44 = .ok (.if_icmp .ne 15, 3) := by decide +kernel
theorem dX10_crankBy_47 : decode cX10_crankBy 47 = .ok (.iload_n 2, 1) := by decide +kernel
theorem dX10_crankBy_48 : decode cX10_crankBy 48 = .ok (.bipush 16, 2) := by decide +kernel
theorem dX10_crankBy_50 : decode cX10_crankBy 50 = .ok (.isub, 1) := by decide +kernel
theorem dX10_crankBy_51 : decode cX10_crankBy 51 = .ok (.bipush 9, 2) := by decide +kernel
theorem dX10_crankBy_53 : decode cX10_crankBy 53 = .ok (.irem, 1) := by decide +kernel
theorem dX10_crankBy_54 : decode cX10_crankBy 54 = .ok (.iconst 1, 1) := by decide +kernel
theorem dX10_crankBy_55 : decode cX10_crankBy 55 = .ok (.iadd, 1) := by decide +kernel
theorem dX10_crankBy_56 : decode cX10_crankBy 56 = .ok (.goto 4, 3) := by decide +kernel
theorem dX10_crankBy_59 : decode cX10_crankBy 59 = .ok (.iconst 0, 1) := by decide +kernel
theorem dX10_crankBy_60 : decode cX10_crankBy 60 = .ok (.ireturn, 1) := by decide +kernel
theorem dX10_isWell_0 : decode cX10_isWell 0 = .ok (.iload_n 2, 1) := by decide +kernel
theorem dX10_isWell_1 : decode cX10_isWell 1 = .ok (.ifCond .ge 20, 3) := by decide +kernel
theorem dX10_isWell_4 : decode cX10_isWell 4 = .ok (.aload_n 0, 1) := by decide +kernel
theorem dX10_isWell_5 : decode cX10_isWell 5 = .ok (.getfield 16, 3) := by decide +kernel
theorem dX10_isWell_8 : decode cX10_isWell 8 = .ok (.iload_n 1, 1) := by decide +kernel
theorem dX10_isWell_9 : decode cX10_isWell 9 = .ok (.iaload, 1) := by decide +kernel
theorem dX10_isWell_10 : decode cX10_isWell 10 = .ok (.ifCond .ne 7, 3) := by decide +kernel
theorem dX10_isWell_13 : decode cX10_isWell 13 = .ok (.iconst 1, 1) := by decide +kernel
theorem dX10_isWell_14 : decode cX10_isWell 14 = .ok (.goto 21, 3) := by decide +kernel
theorem dX10_isWell_17 : decode cX10_isWell 17 = .ok (.iconst 0, 1) := by decide +kernel
theorem dX10_isWell_18 : decode cX10_isWell 18 = .ok (.goto 17, 3) := by decide +kernel
theorem dX10_isWell_21 : decode cX10_isWell 21 = .ok (.iload_n 2, 1) := by decide +kernel
theorem dX10_isWell_22 : decode cX10_isWell 22 = .ok (.sipush 160, 3) := by decide +kernel
theorem dX10_isWell_25 : decode cX10_isWell 25 = .ok (.iload_n 1, 1) := by decide +kernel
theorem dX10_isWell_26 : decode cX10_isWell 26 = .ok (.iadd, 1) := by decide +kernel
theorem dX10_isWell_27 : decode cX10_isWell 27 = .ok (.if_icmp .eq 7, 3) := by decide +kernel
theorem dX10_isWell_30 : decode cX10_isWell 30 = .ok (.iconst 1, 1) := by decide +kernel
theorem dX10_isWell_31 : decode cX10_isWell 31 = .ok (.goto 4, 3) := by decide +kernel
theorem dX10_isWell_34 : decode cX10_isWell 34 = .ok (.iconst 0, 1) := by decide +kernel
theorem dX10_isWell_35 : decode cX10_isWell 35 = .ok (.ireturn, 1) := by decide +kernel
theorem dX10_isDead_0 : decode cX10_isDead 0 = .ok (.iconst 0, 1) := by decide +kernel
theorem dX10_isDead_1 : decode cX10_isDead 1 = .ok (.istore_n 3, 1) := by decide +kernel
theorem dX10_isDead_2 : decode cX10_isDead 2 = .ok (.iconst 0, 1) := by decide +kernel
theorem dX10_isDead_3 : decode cX10_isDead 3 = .ok (.istore 4, 2) := by decide +kernel
theorem dX10_isDead_5 : decode cX10_isDead 5 = .ok (.iload 4, 2) := by decide +kernel
theorem dX10_isDead_7 : decode cX10_isDead 7 = .ok (.bipush 16, 2) := by decide +kernel
theorem dX10_isDead_9 : decode cX10_isDead 9 = .ok (.if_icmp .ge 46, 3) := by decide +kernel
theorem dX10_isDead_12 : decode cX10_isDead 12 = .ok (.iload_n 3, 1) := by decide +kernel
theorem dX10_isDead_13 : decode cX10_isDead 13 = .ok (.ifCond .ne 30, 3) := by decide +kernel
theorem dX10_isDead_16 : decode cX10_isDead 16 = .ok (.aload_n 0, 1) := by decide +kernel
theorem dX10_isDead_17 : decode cX10_isDead 17 = .ok (.getfield 31, 3) := by decide +kernel
theorem dX10_isDead_20 : decode cX10_isDead 20 = .ok (.iload_n 1, 1) := by decide +kernel
theorem dX10_isDead_21 : decode cX10_isDead 21 = .ok (.iaload, 1) := by decide +kernel
theorem dX10_isDead_22 : decode cX10_isDead 22 = .ok (.iload 4, 2) := by decide +kernel
theorem dX10_isDead_24 : decode cX10_isDead 24 = .ok (.ishr, 1) := by decide +kernel
theorem dX10_isDead_25 : decode cX10_isDead 25 = .ok (.iconst 1, 1) := by decide +kernel
theorem dX10_isDead_26 : decode cX10_isDead 26 = .ok (.iand, 1) := by decide +kernel
theorem dX10_isDead_27 : decode cX10_isDead 27 = .ok (.iconst 1, 1) := by decide +kernel
theorem dX10_isDead_28 : decode cX10_isDead 28 = .ok (.if_icmp .ne 19, 3) := by decide +kernel
theorem dX10_isDead_31 : decode cX10_isDead 31 = .ok (.aload_n 0, 1) := by decide +kernel
theorem dX10_isDead_32 : decode cX10_isDead 32 = .ok (.iload 4, 2) := by decide +kernel
theorem dX10_isDead_34 : decode cX10_isDead 34 = .ok (.iload_n 2, 1) := by decide +kernel
theorem dX10_isDead_35 : decode cX10_isDead 35 = .ok (.invokevirtual 114, 3) := by decide +kernel
theorem dX10_isDead_38 : decode cX10_isDead 38 = .ok (.bipush 10, 2) := by decide +kernel
theorem dX10_isDead_40 : decode cX10_isDead 40 = .ok (.if_icmp .ne 7, 3) := by decide +kernel
theorem dX10_isDead_43 : decode cX10_isDead 43 = .ok (.iconst 1, 1) := by decide +kernel
theorem dX10_isDead_44 : decode cX10_isDead 44 = .ok (.goto 4, 3) := by decide +kernel
theorem dX10_isDead_47 : decode cX10_isDead 47 = .ok (.iconst 0, 1) := by decide +kernel
theorem dX10_isDead_48 : decode cX10_isDead 48 = .ok (.istore_n 3, 1) := by decide +kernel
theorem dX10_isDead_49 : decode cX10_isDead 49 = .ok (.iinc 4 1, 3) := by decide +kernel
theorem dX10_isDead_52 : decode cX10_isDead 52 = .ok (.goto (-47), 3) := by decide +kernel
theorem dX10_isDead_55 : decode cX10_isDead 55 = .ok (.iload_n 3, 1) := by decide +kernel
theorem dX10_isDead_56 : decode cX10_isDead 56 = .ok (.ireturn, 1) := by decide +kernel
theorem dX10_forceBy_0 : decode cX10_forceBy 0 = .ok (.bipush 10, 2) := by decide +kernel
theorem dX10_forceBy_2 : decode cX10_forceBy 2 = .ok (.iload_n 2, 1) := by decide +kernel
theorem dX10_forceBy_3 : decode cX10_forceBy 3 = .ok (.aload_n 0, 1) := by decide +kernel
theorem dX10_forceBy_4 : decode cX10_forceBy 4 = .ok (.getfield 31, 3) := by decide +kernel
theorem dX10_forceBy_7 : decode cX10_forceBy 7 = .ok (.iload_n 1, 1) := by decide +kernel
theorem dX10_forceBy_8 : decode cX10_forceBy 8 = .ok (.iaload, 1) := by decide +kernel
theorem dX10_forceBy_9 : decode cX10_forceBy 9 = .ok (.invokestatic 103, 3) := by decide +kernel
theorem dX10_forceBy_12 : decode cX10_forceBy 12 = .ok (.imul, 1) := by decide +kernel
theorem dX10_forceBy_13 : decode cX10_forceBy 13 = .ok (.bipush 20, 2) := by decide +kernel
theorem dX10_forceBy_15 : decode cX10_forceBy 15 = .ok (.idiv, 1) := by decide +kernel
theorem dX10_forceBy_16 : decode cX10_forceBy 16 = .ok (.isub, 1) := by decide +kernel
theorem dX10_forceBy_17 : decode cX10_forceBy 17 = .ok (.istore 4, 2) := by decide +kernel
theorem dX10_forceBy_19 : decode cX10_forceBy 19 = .ok (.iconst 0, 1) := by decide +kernel
theorem dX10_forceBy_20 : decode cX10_forceBy 20 = .ok (.istore 5, 2) := by decide +kernel
theorem dX10_forceBy_22 : decode cX10_forceBy 22 = .ok (.iload 5, 2) := by decide +kernel
theorem dX10_forceBy_24 : decode cX10_forceBy 24 = .ok (.bipush 16, 2) := by decide +kernel
theorem dX10_forceBy_26 : decode cX10_forceBy 26 = .ok (.if_icmp .ge 40, 3) := by decide +kernel
theorem dX10_forceBy_29 : decode cX10_forceBy 29 = .ok (.iload 4, 2) := by decide +kernel
theorem dX10_forceBy_31 : decode cX10_forceBy 31 = .ok (.aload_n 0, 1) := by decide +kernel
theorem dX10_forceBy_32 : decode cX10_forceBy 32 = .ok (.getfield 31, 3) := by decide +kernel
theorem dX10_forceBy_35 : decode cX10_forceBy 35 = .ok (.iload_n 1, 1) := by decide +kernel
theorem dX10_forceBy_36 : decode cX10_forceBy 36 = .ok (.iaload, 1) := by decide +kernel
theorem dX10_forceBy_37 : decode cX10_forceBy 37 = .ok (.iload 5, 2) := by decide +kernel
theorem dX10_forceBy_39 : decode cX10_forceBy 39 = .ok (.ishr, 1) := by decide +kernel
theorem dX10_forceBy_40 : decode cX10_forceBy 40 = .ok (.iconst 1, 1) := by decide +kernel
theorem dX10_forceBy_41 : decode cX10_forceBy 41 = .ok (.iand, 1) := by decide +kernel
theorem dX10_forceBy_42 : decode cX10_forceBy 42 = .ok (.iconst 1, 1) := by decide +kernel
theorem dX10_forceBy_43 : decode cX10_forceBy 43 = .ok (.if_icmp .ne 13, 3) := by decide +kernel
theorem dX10_forceBy_46 : decode cX10_forceBy 46 = .ok (.aload_n 0, 1) := by decide +kernel
theorem dX10_forceBy_47 : decode cX10_forceBy 47 = .ok (.iload 5, 2) := by decide +kernel
theorem dX10_forceBy_49 : decode cX10_forceBy 49 = .ok (.iload_n 3, 1) := by decide +kernel
theorem dX10_forceBy_50 : decode cX10_forceBy 50 = .ok (.invokevirtual 114, 3) := by decide +kernel
theorem dX10_forceBy_53 : decode cX10_forceBy 53 = .ok (.goto 4, 3) := by decide +kernel
theorem dX10_forceBy_56 : decode cX10_forceBy 56 = .ok (.iconst 0, 1) := by decide +kernel
theorem dX10_forceBy_57 : decode cX10_forceBy 57 = .ok (.isub, 1) := by decide +kernel
theorem dX10_forceBy_58 : decode cX10_forceBy 58 = .ok (.istore 4, 2) := by decide +kernel
theorem dX10_forceBy_60 : decode cX10_forceBy 60 = .ok (.iinc 5 1, 3) := by decide +kernel
theorem dX10_forceBy_63 : decode cX10_forceBy 63 = .ok (.goto (-41), 3) := by decide +kernel
theorem dX10_forceBy_66 : decode cX10_forceBy 66 = .ok (.iload 4, 2) := by decide +kernel
theorem dX10_forceBy_68 : decode cX10_forceBy 68 = .ok (.ifCond .lt 12, 3) := by decide +kernel
theorem dX10_forceBy_71 : decode cX10_forceBy 71 = .ok (.aload_n 0, 1) := by decide +kernel
theorem dX10_forceBy_72 : decode cX10_forceBy 72 = .ok (.iload_n 1, 1) := by decide +kernel
theorem dX10_forceBy_73 : decode cX10_forceBy 73 = .ok (.iload_n 3, 1) := by decide +kernel
theorem dX10_forceBy_74 : decode cX10_forceBy 74 = .ok (.invokevirtual 118, 3) := by decide +kernel
theorem dX10_forceBy_77 : decode cX10_forceBy 77 = .ok (.ifCond .eq 7, 3) := by decide +kernel
theorem dX10_forceBy_80 : decode cX10_forceBy 80 = .ok (.iconst 0, 1) := by decide +kernel
theorem dX10_forceBy_81 : decode cX10_forceBy 81 = .ok (.goto 5, 3) := by decide +kernel
theorem dX10_forceBy_84 : decode cX10_forceBy 84 = .ok (.iload 4, 2) := by decide +kernel
theorem dX10_forceBy_86 : decode cX10_forceBy 86 = .ok (.ireturn, 1) := by decide +kernel
theorem dX10_ownBy_0 : decode cX10_ownBy 0 = .ok (.aload_n 0, 1) := by decide +kernel
theorem dX10_ownBy_1 : decode cX10_ownBy 1 = .ok (.iload_n 1, 1) := by decide +kernel
theorem dX10_ownBy_2 : decode cX10_ownBy 2 = .ok (.iload_n 2, 1) := by decide +kernel
theorem dX10_ownBy_3 : decode cX10_ownBy 3 = .ok (.iload_n 3, 1) := by decide +kernel
theorem dX10_ownBy_4 : decode cX10_ownBy 4 = .ok (.invokevirtual 121, 3) := by decide +kernel
theorem dX10_ownBy_7 : decode cX10_ownBy 7 = .ok (.istore 4, 2) := by decide +kernel
theorem dX10_ownBy_9 : decode cX10_ownBy 9 = .ok (.aload_n 0, 1) := by decide +kernel
theorem dX10_ownBy_10 : decode cX10_ownBy 10 = .ok (.aload_n 0, 1) := by decide +kernel
theorem dX10_ownBy_11 : decode cX10_ownBy 11 = .ok (.getfield 28, 3) := by decide +kernel
theorem dX10_ownBy_14 : decode cX10_ownBy 14 = .ok (.iload_n 1, 1) := by decide +kernel
theorem dX10_ownBy_15 : decode cX10_ownBy 15 = .ok (.iaload, 1) := by decide +kernel
theorem dX10_ownBy_16 : decode cX10_ownBy 16 = .ok (.iload_n 3, 1) := by decide +kernel
theorem dX10_ownBy_17 : decode cX10_ownBy 17 = .ok (.invokevirtual 125, 3) := by decide +kernel
theorem dX10_ownBy_20 : decode cX10_ownBy 20 = .ok (.ifCond .eq 8, 3) := by decide +kernel
theorem dX10_ownBy_23 : decode cX10_ownBy 23 = .ok (.iload 4, 2) := by decide +kernel
theorem dX10_ownBy_25 : decode cX10_ownBy 25 = .ok (.ifCond .ne 7, 3) := by decide +kernel
theorem dX10_ownBy_28 : decode cX10_ownBy 28 = .ok (.iconst 0, 1) := by decide +kernel
theorem dX10_ownBy_29 : decode cX10_ownBy 29 = .ok (.goto 14, 3) := by decide +kernel
theorem dX10_ownBy_32 : decode cX10_ownBy 32 = .ok (.iload 4, 2) := by decide +kernel
theorem dX10_ownBy_34 : decode cX10_ownBy 34 = .ok (.iconst 5, 1) := by decide +kernel
theorem dX10_ownBy_35 : decode cX10_ownBy 35 = .ok (.if_icmp .le 7, 3) := by decide +kernel
theorem dX10_ownBy_38 : decode cX10_ownBy 38 = .ok (.iconst 2, 1) := by decide +kernel
theorem dX10_ownBy_39 : decode cX10_ownBy 39 = .ok (.goto 4, 3) := by decide +kernel
theorem dX10_ownBy_42 : decode cX10_ownBy 42 = .ok (.iconst 1, 1) := by decide +kernel
theorem dX10_ownBy_43 : decode cX10_ownBy 43 = .ok (.ireturn, 1) := by decide +kernel
theorem dX10_force_0 : decode cX10_force 0 = .ok (.aload_n 0, 1) := by decide +kernel
theorem dX10_force_1 : decode cX10_force 1 = .ok (.iload_n 1, 1) := by decide +kernel
theorem dX10_force_2 : decode cX10_force 2 = .ok (.invokevirtual 128, 3) := by decide +kernel
theorem dX10_force_5 : decode cX10_force 5 = .ok (.ifCond .eq 16, 3) := by decide +kernel
theorem dX10_force_8 : decode cX10_force 8 = .ok (.aload_n 0, 1) := by decide +kernel
theorem dX10_force_9 : decode cX10_force 9 = .ok (.iload_n 1, 1) := by decide +kernel
theorem dX10_force_10 : decode cX10_force 10 = .ok (.aload_n 0, 1) := by decide +kernel
theorem dX10_force_11 : decode cX10_force 11 = .ok (.getfield 99, 3) := by decide +kernel
theorem dX10_force_14 : decode cX10_force 14 = .ok (.iconst (-1), 1) := by decide +kernel
theorem dX10_force_15 : decode cX10_force 15 = .ok (.invokevirtual 121, 3) := by decide +kernel
theorem dX10_force_18 : decode cX10_force 18 = .ok (.goto 4, 3) := by decide +kernel
theorem dX10_force_21 : decode cX10_force 21 = .ok (.iconst (-1), 1) := by decide +kernel
theorem dX10_force_22 : decode cX10_force 22 = .ok (.ireturn, 1) := by decide +kernel
theorem dX10_areJoined_0 : decode cX10_areJoined 0 = .ok (.iconst 0, 1) := by decide +kernel
theorem dX10_areJoined_1 : decode cX10_areJoined 1 = .ok (.istore_n 3, 1) := by decide +kernel
theorem dX10_areJoined_2 : decode cX10_areJoined 2 = .ok (.iconst 0, 1) := by decide +kernel
theorem dX10_areJoined_3 : decode cX10_areJoined 3 = .ok (.istore 4, 2) := by decide +kernel
theorem dX10_areJoined_5 : decode cX10_areJoined 5 = .ok (.iload 4, 2) := by decide +kernel
theorem dX10_areJoined_7 : decode cX10_areJoined 7 = .ok (.aload_n 0, 1) := by decide +kernel
theorem dX10_areJoined_8 : decode cX10_areJoined 8 = .ok (.getfield 107, 3) := by decide +kernel
theorem dX10_areJoined_11 : decode cX10_areJoined 11 = .ok (.if_icmp .ge 123, 3) := by decide +kernel
theorem dX10_areJoined_14 : decode cX10_areJoined 14 = .ok (.aload_n 0, 1) := by decide +kernel
theorem dX10_areJoined_15 : decode cX10_areJoined 15 = .ok (.getfield 31, 3) := by decide +kernel
theorem dX10_areJoined_18 : decode cX10_areJoined 18 = .ok (.iload_n 1, 1) := by decide +kernel
theorem dX10_areJoined_19 : decode cX10_areJoined 19 = .ok (.iaload, 1) := by decide +kernel
theorem dX10_areJoined_20 : decode cX10_areJoined 20 = .ok (.aload_n 0, 1) := by decide +kernel
theorem dX10_areJoined_21 : decode cX10_areJoined 21 = .ok (.getfield 34, 3) := by decide +kernel
theorem dX10_areJoined_24 : decode cX10_areJoined 24 = .ok (.iload 4, 2) := by decide +kernel
theorem dX10_areJoined_26 : decode cX10_areJoined 26 = .ok (.iaload, 1) := by decide +kernel
theorem dX10_areJoined_27 : decode cX10_areJoined 27 = .ok (.ishr, 1) := by decide +kernel
theorem dX10_areJoined_28 : decode cX10_areJoined 28 = .ok (.iconst 1, 1) := by decide +kernel
theorem dX10_areJoined_29 : decode cX10_areJoined 29 = .ok (.iand, 1) := by decide +kernel
theorem dX10_areJoined_30 : decode cX10_areJoined 30 = .ok (.iconst 1, 1) := by decide +kernel
theorem dX10_areJoined_31 : decode cX10_areJoined 31 = .ok (.if_icmp .ne 27, 3) := by decide +kernel
theorem dX10_areJoined_34 : decode cX10_areJoined 34 = .ok (.aload_n 0, 1) := by decide +kernel
theorem dX10_areJoined_35 : decode cX10_areJoined 35 = .ok (.getfield 31, 3) := by decide +kernel
theorem dX10_areJoined_38 : decode cX10_areJoined 38 = .ok (.iload_n 2, 1) := by decide +kernel
theorem dX10_areJoined_39 : decode cX10_areJoined 39 = .ok (.iaload, 1) := by decide +kernel
theorem dX10_areJoined_40 : decode cX10_areJoined 40 = .ok (.aload_n 0, 1) := by decide +kernel
theorem dX10_areJoined_41 : decode cX10_areJoined 41 = .ok (.getfield 37, 3) := by decide +kernel
theorem dX10_areJoined_44 : decode cX10_areJoined 44 = .ok (.iload 4, 2) := by decide +kernel
theorem dX10_areJoined_46 : decode cX10_areJoined 46 = .ok (.iaload, 1) := by decide +kernel
theorem dX10_areJoined_47 : decode cX10_areJoined 47 = .ok (.ishr, 1) := by decide +kernel
theorem dX10_areJoined_48 : decode cX10_areJoined 48 = .ok (.iconst 1, 1) := by decide +kernel
theorem dX10_areJoined_49 : decode cX10_areJoined 49 = .ok (.iand, 1) := by decide +kernel
theorem dX10_areJoined_50 : decode cX10_areJoined 50 = .ok (.iconst 1, 1) := by decide +kernel
theorem dX10_areJoined_51 : decode cX10_areJoined 51 = .ok (.if_icmp .ne 7, 3) := by decide +kernel
theorem dX10_areJoined_54 : decode cX10_areJoined 54 = .ok (.iconst 1, 1) := by decide +kernel
theorem dX10_areJoined_55 : decode cX10_areJoined 55 = .ok (.goto 4, 3) := by decide +kernel
theorem dX10_areJoined_58 : decode cX10_areJoined 58 = .ok (.iconst 0, 1) := by decide +kernel
theorem dX10_areJoined_59 : decode cX10_areJoined 59 = .ok (.istore 5, 2) := by decide +kernel
theorem dX10_areJoined_61 : decode cX10_areJoined 61 = .ok (.aload_n 0, 1) := by decide +kernel
theorem dX10_areJoined_62 : decode cX10_areJoined 62 = .ok (.getfield 31, 3) := by decide +kernel
theorem dX10_areJoined_65 : decode cX10_areJoined 65 = .ok (.iload_n 1, 1) := by decide +kernel
theorem dX10_areJoined_66 : decode cX10_areJoined 66 = .ok (.iaload, 1) := by decide +kernel
theorem dX10_areJoined_67 : decode cX10_areJoined 67 = .ok (.aload_n 0, 1) := by decide +kernel
theorem dX10_areJoined_68 : decode cX10_areJoined 68 = .ok (.getfield 37, 3) := by decide +kernel
theorem dX10_areJoined_71 : decode cX10_areJoined 71 = .ok (.iload 4, 2) := by decide +kernel
theorem dX10_areJoined_73 : decode cX10_areJoined 73 = .ok (.iaload, 1) := by decide +kernel
theorem dX10_areJoined_74 : decode cX10_areJoined 74 = .ok (.ishr, 1) := by decide +kernel
theorem dX10_areJoined_75 : decode cX10_areJoined 75 = .ok (.iconst 1, 1) := by decide +kernel
theorem dX10_areJoined_76 : decode cX10_areJoined 76 = .ok (.iand, 1) := by decide +kernel
theorem dX10_areJoined_77 : decode cX10_areJoined 77 = .ok (.iconst 1, 1) := by decide +kernel
theorem dX10_areJoined_78 : decode cX10_areJoined 78 = .ok (.if_icmp .ne 27, 3) := by decide +kernel
theorem dX10_areJoined_81 : decode cX10_areJoined 81 = .ok (.aload_n 0, 1) := by decide +kernel
theorem dX10_areJoined_82 : decode cX10_areJoined 82 = .ok (.getfield 31, 3) := by decide +kernel
theorem dX10_areJoined_85 : decode cX10_areJoined 85 = .ok (.iload_n 2, 1) := by decide +kernel
theorem dX10_areJoined_86 : decode cX10_areJoined 86 = .ok (.iaload, 1) := by decide +kernel
theorem dX10_areJoined_87 : decode cX10_areJoined 87 = .ok (.aload_n 0, 1) := by decide +kernel
theorem dX10_areJoined_88 : decode cX10_areJoined 88 = .ok (.getfield 34, 3) := by decide +kernel
theorem dX10_areJoined_91 : decode cX10_areJoined 91 = .ok (.iload 4, 2) := by decide +kernel
theorem dX10_areJoined_93 : decode cX10_areJoined 93 = .ok (.iaload, 1) := by decide +kernel
theorem dX10_areJoined_94 : decode cX10_areJoined 94 = .ok (.ishr, 1) := by decide +kernel
theorem dX10_areJoined_95 : decode cX10_areJoined 95 = .ok (.iconst 1, 1) := by decide +kernel
theorem dX10_areJoined_96 : decode cX10_areJoined 96 = .ok (.iand, 1) := by decide +kernel
theorem dX10_areJoined_97 : decode cX10_areJoined 97 = .ok (.iconst 1, 1) := by decide +kernel
theorem dX10_areJoined_98 : decode cX10_areJoined 98 = .ok (.if_icmp .ne 7, 3) := by decide +kernel
theorem dX10_areJoined_101 : decode cX10_areJoined 101 = .ok (.iconst 1, 1) := by decide +kernel
theorem dX10_areJoined_102 : decode cX10_areJoined 102 = .ok (.goto 4, 3) := by decide +kernel
theorem dX10_areJoined_105 : decode cX10_areJoined 105 = .ok (.iconst 0, 1) := by decide +kernel
theorem dX10_areJoined_106 : decode cX10_areJoined 106 = .ok (.istore 6, 2) := by decide +kernel
theorem dX10_areJoined_108 : decode cX10_areJoined 108 = .ok (.iload_n 3, 1) := by decide +kernel
theorem dX10_areJoined_109 : decode cX10_areJoined 109 = .ok (.ifCond .ne 13, 3) := by decide +kernel
theorem dX10_areJoined_112 : decode cX10_areJoined 112 = .ok (.iload 5, 2) := by decide +kernel
theorem dX10_areJoined_114 : decode cX10_areJoined 114 = .ok (.ifCond .ne 8, 3) := by decide +kernel
theorem dX10_areJoined_117 : decode cX10_areJoined 117 = .ok (.iload 6, 2) := by decide +kernel
theorem dX10_areJoined_119 : decode cX10_areJoined 119 = .ok (.ifCond .eq 7, 3) := by decide +kernel
theorem dX10_areJoined_122 : decode cX10_areJoined 122 = .ok (.iconst 1, 1) := by decide +kernel
theorem dX10_areJoined_123 : decode cX10_areJoined 123 = .ok (.goto 4, 3) := by decide +kernel
theorem dX10_areJoined_126 : decode cX10_areJoined 126 = .ok (.iconst 0, 1) := by decide +kernel
theorem dX10_areJoined_127 : decode cX10_areJoined 127 = .ok (.istore_n 3, 1) := by decide +kernel
theorem dX10_areJoined_128 : decode cX10_areJoined 128 = .ok (.iinc 4 1, 3) := by decide +kernel
theorem dX10_areJoined_131 : decode cX10_areJoined 131 = .ok (.goto (-126), 3) := by decide +kernel
theorem dX10_areJoined_134 : decode cX10_areJoined 134 = .ok (.iload_n 3, 1) := by decide +kernel
theorem dX10_areJoined_135 : decode cX10_areJoined 135 = .ok (.ireturn, 1) := by decide +kernel
theorem dX10_rings_0 : decode cX10_rings 0 = .ok (.aload_n 0, 1) := by decide +kernel
theorem dX10_rings_1 : decode cX10_rings 1 = .ok (.getfield 28, 3) := by decide +kernel
theorem dX10_rings_4 : decode cX10_rings 4 = .ok (.iload_n 1, 1) := by decide +kernel
theorem dX10_rings_5 : decode cX10_rings 5 = .ok (.iaload, 1) := by decide +kernel
theorem dX10_rings_6 : decode cX10_rings 6 = .ok (.iload_n 2, 1) := by decide +kernel
theorem dX10_rings_7 : decode cX10_rings 7 = .ok (.if_icmp .ne 14, 3) := by decide +kernel
theorem dX10_rings_10 : decode cX10_rings 10 = .ok (.aload_n 0, 1) := by decide +kernel
theorem dX10_rings_11 : decode cX10_rings 11 = .ok (.iload_n 1, 1) := by decide +kernel
theorem dX10_rings_12 : decode cX10_rings 12 = .ok (.aload_n 0, 1) := by decide +kernel
theorem dX10_rings_13 : decode cX10_rings 13 = .ok (.getfield 99, 3) := by decide +kernel
theorem dX10_rings_16 : decode cX10_rings 16 = .ok (.iconst (-1), 1) := by decide +kernel
theorem dX10_rings_17 : decode cX10_rings 17 = .ok (.invokevirtual 132, 3) := by decide +kernel
theorem dX10_rings_20 : decode cX10_rings 20 = .ok (.ireturn, 1) := by decide +kernel
theorem dX10_rings_21 : decode cX10_rings 21 = .ok (.aload_n 0, 1) := by decide +kernel
theorem dX10_rings_22 : decode cX10_rings 22 = .ok (.iload_n 1, 1) := by decide +kernel
theorem dX10_rings_23 : decode cX10_rings 23 = .ok (.aload_n 0, 1) := by decide +kernel
theorem dX10_rings_24 : decode cX10_rings 24 = .ok (.getfield 99, 3) := by decide +kernel
theorem dX10_rings_27 : decode cX10_rings 27 = .ok (.iconst (-1), 1) := by decide +kernel
theorem dX10_rings_28 : decode cX10_rings 28 = .ok (.invokevirtual 121, 3) := by decide +kernel
theorem dX10_rings_31 : decode cX10_rings 31 = .ok (.bipush 6, 2) := by decide +kernel
theorem dX10_rings_33 : decode cX10_rings 33 = .ok (.if_icmp .lt 13, 3) := by decide +kernel
theorem dX10_rings_36 : decode cX10_rings 36 = .ok (.aload_n 0, 1) := by decide +kernel
theorem dX10_rings_37 : decode cX10_rings 37 = .ok (.getfield 16, 3) := by decide +kernel
theorem dX10_rings_40 : decode cX10_rings 40 = .ok (.iload_n 2, 1) := by decide +kernel
theorem dX10_rings_41 : decode cX10_rings 41 = .ok (.iaload, 1) := by decide +kernel
theorem dX10_rings_42 : decode cX10_rings 42 = .ok (.iconst 1, 1) := by decide +kernel
theorem dX10_rings_43 : decode cX10_rings 43 = .ok (.if_icmp .ne 5, 3) := by decide +kernel
theorem dX10_rings_46 : decode cX10_rings 46 = .ok (.iconst 0, 1) := by decide +kernel
theorem dX10_rings_47 : decode cX10_rings 47 = .ok (.ireturn, 1) := by decide +kernel
theorem dX10_rings_48 : decode cX10_rings 48 = .ok (.iconst 0, 1) := by decide +kernel
theorem dX10_rings_49 : decode cX10_rings 49 = .ok (.istore_n 3, 1) := by decide +kernel
theorem dX10_rings_50 : decode cX10_rings 50 = .ok (.iload_n 3, 1) := by decide +kernel
theorem dX10_rings_51 : decode cX10_rings 51 = .ok (.aload_n 0, 1) := by decide +kernel
theorem dX10_rings_52 : decode cX10_rings 52 = .ok (.getfield 91, 3) := by decide +kernel
theorem dX10_rings_55 : decode cX10_rings 55 = .ok (.if_icmp .ge 44, 3) := by decide +kernel
theorem dX10_rings_58 : decode cX10_rings 58 = .ok (.iload_n 3, 1) := by decide +kernel
theorem dX10_rings_59 : decode cX10_rings 59 = .ok (.iload_n 1, 1) := by decide +kernel
theorem dX10_rings_60 : decode cX10_rings 60 = .ok (.if_icmp .eq 33, 3) := by decide +kernel
theorem dX10_rings_63 : decode cX10_rings 63 = .ok (.aload_n 0, 1) := by decide +kernel
theorem dX10_rings_64 : decode cX10_rings 64 = .ok (.getfield 28, 3) := by decide +kernel
theorem dX10_rings_67 : decode cX10_rings 67 = .ok (.iload_n 3, 1) := by decide +kernel
theorem dX10_rings_68 : decode cX10_rings 68 = .ok (.iaload, 1) := by decide +kernel
theorem dX10_rings_69 : decode cX10_rings 69 = .ok (.iload_n 2, 1) := by decide +kernel
theorem dX10_rings_70 : decode cX10_rings 70 = .ok (.if_icmp .ne 23, 3) := by decide +kernel
theorem dX10_rings_73 : decode cX10_rings 73 = .ok (.aload_n 0, 1) := by decide +kernel
theorem dX10_rings_74 : decode cX10_rings 74 = .ok (.iload_n 1, 1) := by decide +kernel
theorem dX10_rings_75 : decode cX10_rings 75 = .ok (.iload_n 3, 1) := by decide +kernel
theorem dX10_rings_76 : decode cX10_rings 76 = .ok (.invokevirtual 135, 3) := by decide +kernel
theorem dX10_rings_79 : decode cX10_rings 79 = .ok (.ifCond .eq 14, 3) := by decide +kernel
theorem dX10_rings_82 : decode cX10_rings 82 = .ok (.aload_n 0, 1) := by decide +kernel
theorem dX10_rings_83 : decode cX10_rings 83 = .ok (.iload_n 3, 1) := by decide +kernel
theorem dX10_rings_84 : decode cX10_rings 84 = .ok (.iconst (-1), 1) := by decide +kernel
theorem dX10_rings_85 : decode cX10_rings 85 = .ok (.invokevirtual 118, 3) := by decide +kernel
theorem dX10_rings_88 : decode cX10_rings 88 = .ok (.ifCond .ne 5, 3) := by decide +kernel
theorem dX10_rings_91 : decode cX10_rings 91 = .ok (.iconst 1, 1) := by decide +kernel
theorem dX10_rings_92 : decode cX10_rings 92 = .ok (.ireturn, 1) := by decide +kernel
theorem dX10_rings_93 : decode cX10_rings 93 = .ok (.iinc 3 1, 3) := by decide +kernel
theorem dX10_rings_96 : decode cX10_rings 96 = .ok (.goto (-46), 3) := by decide +kernel
theorem dX10_rings_99 : decode cX10_rings 99 = .ok (.iconst 0, 1) := by decide +kernel
theorem dX10_rings_100 : decode cX10_rings 100 = .ok (.ireturn, 1) := by decide +kernel
theorem dX10_would_0 : decode cX10_would 0 = .ok (.aload_n 0, 1) := by decide +kernel
theorem dX10_would_1 : decode cX10_would 1 = .ok (.iload_n 1, 1) := by decide +kernel
theorem dX10_would_2 : decode cX10_would 2 = .ok (.invokevirtual 128, 3) := by decide +kernel
theorem dX10_would_5 : decode cX10_would 5 = .ok (.ifCond .eq 22, 3) := by decide +kernel
theorem dX10_would_8 : decode cX10_would 8 = .ok (.iload_n 2, 1) := by decide +kernel
theorem dX10_would_9 : decode cX10_would 9 = .ok (.iconst 0, 1) := by decide +kernel
theorem dX10_would_10 : decode cX10_would 10 = .ok (.bipush 7, 2) := by decide +kernel
theorem dX10_would_12 : decode cX10_would 12 = .ok (.invokestatic 95, 3) := by decide +kernel
theorem dX10_would_15 : decode cX10_would 15 = .ok (.ifCond .eq 12, 3) := by decide +kernel
theorem dX10_would_18 : decode cX10_would 18 = .ok (.aload_n 0, 1) := by decide +kernel
theorem dX10_would_19 : decode cX10_would 19 = .ok (.iload_n 1, 1) := by decide +kernel
theorem dX10_would_20 : decode cX10_would 20 = .ok (.iload_n 2, 1) := by decide +kernel
theorem dX10_would_21 : decode cX10_would 21 = .ok (.invokevirtual 138, 3) := by decide +kernel
theorem dX10_would_24 : decode cX10_would 24 = .ok (.goto 4, 3) := by decide +kernel
theorem dX10_would_27 : decode cX10_would 27 = .ok (.iconst (-1), 1) := by decide +kernel
theorem dX10_would_28 : decode cX10_would 28 = .ok (.ireturn, 1) := by decide +kernel
theorem dX10_means_0 : decode cX10_means 0 = .ok (.iload_n 1, 1) := by decide +kernel
theorem dX10_means_1 : decode cX10_means 1 = .ok (.iconst (-1), 1) := by decide +kernel
theorem dX10_means_2 : decode cX10_means 2 = .ok (.iconst 5, 1) := by decide +kernel
theorem dX10_means_3 : decode cX10_means 3 = .ok (.invokestatic 95, 3) := by decide +kernel
theorem dX10_means_6 : decode cX10_means 6 = .ok (.ifCond .eq 23, 3) := by decide +kernel
theorem dX10_means_9 : decode cX10_means 9 = .ok (.iload_n 2, 1) := by decide +kernel
theorem dX10_means_10 : decode cX10_means 10 = .ok (.iconst 0, 1) := by decide +kernel
theorem dX10_means_11 : decode cX10_means 11 = .ok (.iconst 2, 1) := by decide +kernel
theorem dX10_means_12 : decode cX10_means 12 = .ok (.invokestatic 95, 3) := by decide +kernel
theorem dX10_means_15 : decode cX10_means 15 = .ok (.ifCond .eq 14, 3) := by decide +kernel
theorem dX10_means_18 : decode cX10_means 18 = .ok (.iload_n 3, 1) := by decide +kernel
theorem dX10_means_19 : decode cX10_means 19 = .ok (.iconst (-1), 1) := by decide +kernel
theorem dX10_means_20 : decode cX10_means 20 = .ok (.sipush 255, 3) := by decide +kernel
theorem dX10_means_23 : decode cX10_means 23 = .ok (.invokestatic 95, 3) := by decide +kernel
theorem dX10_means_26 : decode cX10_means 26 = .ok (.ifCond .ne 5, 3) := by decide +kernel
theorem dX10_means_29 : decode cX10_means 29 = .ok (.iconst (-1), 1) := by decide +kernel
theorem dX10_means_30 : decode cX10_means 30 = .ok (.ireturn, 1) := by decide +kernel
theorem dX10_means_31 : decode cX10_means 31 = .ok (.iconst 0, 1) := by decide +kernel
theorem dX10_means_32 : decode cX10_means 32 = .ok (.istore 4, 2) := by decide +kernel
theorem dX10_means_34 : decode cX10_means 34 = .ok (.iconst 0, 1) := by decide +kernel
theorem dX10_means_35 : decode cX10_means 35 = .ok (.istore 5, 2) := by decide +kernel
theorem dX10_means_37 : decode cX10_means 37 = .ok (.iload 5, 2) := by decide +kernel
theorem dX10_means_39 : decode cX10_means 39 = .ok (.aload_n 0, 1) := by decide +kernel
theorem dX10_means_40 : decode cX10_means 40 = .ok (.getfield 91, 3) := by decide +kernel
theorem dX10_means_43 : decode cX10_means 43 = .ok (.if_icmp .ge 124, 3) := by decide +kernel
theorem dX10_means_46 : decode cX10_means 46 = .ok (.iconst 0, 1) := by decide +kernel
theorem dX10_means_47 : decode cX10_means 47 = .ok (.istore 6, 2) := by decide +kernel
theorem dX10_means_49 : decode cX10_means 49 = .ok (.iload 6, 2) := by decide +kernel
theorem dX10_means_51 : decode cX10_means 51 = .ok (.bipush 8, 2) := by decide +kernel
theorem dX10_means_53 : decode cX10_means 53 = .ok (.if_icmp .ge 108, 3) := by decide +kernel
theorem dX10_means_56 : decode cX10_means 56 = .ok (.aload_n 0, 1) := by decide +kernel
theorem dX10_means_57 : decode cX10_means 57 = .ok (.iload 5, 2) := by decide +kernel
theorem dX10_means_59 : decode cX10_means 59 = .ok (.iload 6, 2) := by decide +kernel
theorem dX10_means_61 : decode cX10_means 61 = .ok (.invokevirtual 138, 3) := by decide +kernel
theorem dX10_means_64 : decode cX10_means 64 = .ok (.istore 7, 2) := by decide +kernel
theorem dX10_means_66 : decode cX10_means 66 = .ok (.iload_n 2, 1) := by decide +kernel
theorem dX10_means_67 : decode cX10_means 67 = .ok (.ifCond .ne 16, 3) := by decide +kernel
theorem dX10_means_70 : decode cX10_means 70 = .ok (.iload 7, 2) := by decide +kernel
theorem dX10_means_72 : decode cX10_means 72 = .ok (.ifCond .le 7, 3) := by decide +kernel
theorem dX10_means_75 : decode cX10_means 75 = .ok (.iconst 1, 1) := by decide +kernel
theorem dX10_means_76 : decode cX10_means 76 = .ok (.goto 18, 3) := by decide +kernel
theorem dX10_means_79 : decode cX10_means 79 = .ok (.iconst 0, 1) := by decide +kernel
theorem dX10_means_80 : decode cX10_means 80 = .ok (.goto 14, 3) := by decide +kernel
theorem dX10_means_83 : decode cX10_means 83 = .ok (.iload 7, 2) := by decide +kernel
theorem dX10_means_85 : decode cX10_means 85 = .ok (.iload_n 2, 1) := by decide +kernel
theorem dX10_means_86 : decode cX10_means 86 = .ok (.if_icmp .ne 7, 3) := by decide +kernel
theorem dX10_means_89 : decode cX10_means 89 = .ok (.iconst 1, 1) := by decide +kernel
theorem dX10_means_90 : decode cX10_means 90 = .ok (.goto 4, 3) := by decide +kernel
theorem dX10_means_93 : decode cX10_means 93 = .ok (.iconst 0, 1) := by decide +kernel
theorem dX10_means_94 : decode cX10_means 94 = .ok (.istore 8, 2) := by decide +kernel
theorem dX10_means_96 : decode cX10_means 96 = .ok (.iload 8, 2) := by decide +kernel
theorem dX10_means_98 : decode cX10_means 98 = .ok (.ifCond .eq 36, 3) := by decide +kernel
theorem dX10_means_101 : decode cX10_means 101 = .ok (.iload_n 1, 1) := by decide +kernel
theorem dX10_means_102 : decode cX10_means 102 = .ok (.ifCond .lt 14, 3) := by decide +kernel
theorem dX10_means_105 : decode cX10_means 105 = .ok (.aload_n 0, 1) := by decide +kernel
theorem dX10_means_106 : decode cX10_means 106 = .ok (.getfield 13, 3) := by decide +kernel
theorem dX10_means_109 : decode cX10_means 109 = .ok (.iload 6, 2) := by decide +kernel
theorem dX10_means_111 : decode cX10_means 111 = .ok (.iaload, 1) := by decide +kernel
theorem dX10_means_112 : decode cX10_means 112 = .ok (.iload_n 1, 1) := by decide +kernel
theorem dX10_means_113 : decode cX10_means 113 = .ok (.if_icmp .ne 21, 3) := by decide +kernel
theorem dX10_means_116 : decode cX10_means 116 = .ok (.iload_n 3, 1) := by decide +kernel
theorem dX10_means_117 : decode cX10_means 117 = .ok (.ifCond .lt 13, 3) := by decide +kernel
theorem dX10_means_120 : decode cX10_means 120 = .ok (.iload_n 3, 1) := by decide +kernel
theorem dX10_means_121 : decode cX10_means 121 = .ok (.iload 6, 2) := by decide +kernel
theorem dX10_means_123 : decode cX10_means 123 = .ok (.ishr, 1) := by decide +kernel
theorem dX10_means_124 : decode cX10_means 124 = .ok (.iconst 1, 1) := by decide +kernel
theorem dX10_means_125 : decode cX10_means 125 = .ok (.iand, 1) := by decide +kernel
theorem dX10_means_126 : decode cX10_means 126 = .ok (.iconst 1, 1) := by decide +kernel
theorem dX10_means_127 : decode cX10_means 127 = .ok (.if_icmp .ne 7, 3) := by decide +kernel
theorem dX10_means_130 : decode cX10_means 130 = .ok (.iconst 1, 1) := by decide +kernel
theorem dX10_means_131 : decode cX10_means 131 = .ok (.goto 4, 3) := by decide +kernel
theorem dX10_means_134 : decode cX10_means 134 = .ok (.iconst 0, 1) := by decide +kernel
theorem dX10_means_135 : decode cX10_means 135 = .ok (.istore 8, 2) := by decide +kernel
theorem dX10_means_137 : decode cX10_means 137 = .ok (.iload 4, 2) := by decide +kernel
theorem dX10_means_139 : decode cX10_means 139 = .ok (.iload 8, 2) := by decide +kernel
theorem dX10_means_141 : decode cX10_means 141 = .ok (.ifCond .eq 10, 3) := by decide +kernel
theorem dX10_means_144 : decode cX10_means 144 = .ok (.iconst 1, 1) := by decide +kernel
theorem dX10_means_145 : decode cX10_means 145 = .ok (.iload 5, 2) := by decide +kernel
theorem dX10_means_147 : decode cX10_means 147 = .ok (.ishl, 1) := by decide +kernel
theorem dX10_means_148 : decode cX10_means 148 = .ok (.goto 4, 3) := by decide +kernel
theorem dX10_means_151 : decode cX10_means 151 = .ok (.iconst 0, 1) := by decide +kernel
theorem dX10_means_152 : decode cX10_means 152 = .ok (.ior, 1) := by decide +kernel
theorem dX10_means_153 : decode cX10_means 153 = .ok (.istore 4, 2) := by decide +kernel
theorem dX10_means_155 : decode cX10_means 155 = .ok (.iinc 6 1, 3) := by decide +kernel
theorem dX10_means_158 : decode cX10_means 158 = .ok (.goto (-109), 3) := by decide +kernel
theorem dX10_means_161 : decode cX10_means 161 = .ok (.iinc 5 1, 3) := by decide +kernel
theorem dX10_means_164 : decode cX10_means 164 = .ok (.goto (-127), 3) := by decide +kernel
theorem dX10_means_167 : decode cX10_means 167 = .ok (.iload 4, 2) := by decide +kernel
theorem dX10_means_169 : decode cX10_means 169 = .ok (.ireturn, 1) := by decide +kernel
theorem dX10_servant_0 : decode cX10_servant 0 = .ok (.iload_n 1, 1) := by decide +kernel
theorem dX10_servant_1 : decode cX10_servant 1 = .ok (.iconst 0, 1) := by decide +kernel
theorem dX10_servant_2 : decode cX10_servant 2 = .ok (.iconst 3, 1) := by decide +kernel
theorem dX10_servant_3 : decode cX10_servant 3 = .ok (.invokestatic 95, 3) := by decide +kernel
theorem dX10_servant_6 : decode cX10_servant 6 = .ok (.ifCond .eq 23, 3) := by decide +kernel
theorem dX10_servant_9 : decode cX10_servant 9 = .ok (.iload_n 2, 1) := by decide +kernel
theorem dX10_servant_10 : decode cX10_servant 10 = .ok (.iconst 0, 1) := by decide +kernel
theorem dX10_servant_11 : decode cX10_servant 11 = .ok (.bipush 30, 2) := by decide +kernel
theorem dX10_servant_13 : decode cX10_servant 13 = .ok (.invokestatic 95, 3) := by decide +kernel
theorem dX10_servant_16 : decode cX10_servant 16 = .ok (.ifCond .eq 13, 3) := by decide +kernel
theorem dX10_servant_19 : decode cX10_servant 19 = .ok (.iload_n 3, 1) := by decide +kernel
theorem dX10_servant_20 : decode cX10_servant 20 = .ok (.iconst 0, 1) := by decide +kernel
theorem dX10_servant_21 : decode cX10_servant 21 = .ok (.bipush 31, 2) := by decide +kernel
theorem dX10_servant_23 : decode cX10_servant 23 = .ok (.invokestatic 95, 3) := by decide +kernel
theorem dX10_servant_26 : decode cX10_servant 26 = .ok (.ifCond .ne 5, 3) := by decide +kernel
theorem dX10_servant_29 : decode cX10_servant 29 = .ok (.iconst (-1), 1) := by decide +kernel
theorem dX10_servant_30 : decode cX10_servant 30 = .ok (.ireturn, 1) := by decide +kernel
theorem dX10_servant_31 : decode cX10_servant 31 = .ok (.aload_n 0, 1) := by decide +kernel
theorem dX10_servant_32 : decode cX10_servant 32 = .ok (.getfield 141, 3) := by decide +kernel
theorem dX10_servant_35 : decode cX10_servant 35 = .ok (.iconst 5, 1) := by decide +kernel
theorem dX10_servant_36 : decode cX10_servant 36 = .ok (.if_icmp .ne 6, 3) := by decide +kernel
theorem dX10_servant_39 : decode cX10_servant 39 = .ok (.bipush (-3), 2) := by decide +kernel
theorem dX10_servant_41 : decode cX10_servant 41 = .ok (.ireturn, 1) := by decide +kernel
theorem dX10_servant_42 : decode cX10_servant 42 = .ok (.aload_n 0, 1) := by decide +kernel
theorem dX10_servant_43 : decode cX10_servant 43 = .ok (.getfield 52, 3) := by decide +kernel
theorem dX10_servant_46 : decode cX10_servant 46 = .ok (.aload_n 0, 1) := by decide +kernel
theorem dX10_servant_47 : decode cX10_servant 47 = .ok (.getfield 141, 3) := by decide +kernel
theorem dX10_servant_50 : decode cX10_servant 50 = .ok (.iload_n 1, 1) := by decide +kernel
theorem dX10_servant_51 : decode cX10_servant 51 = .ok (.iastore, 1) := by decide +kernel
theorem dX10_servant_52 : decode cX10_servant 52 = .ok (.aload_n 0, 1) := by decide +kernel
theorem dX10_servant_53 : decode cX10_servant 53 = .ok (.getfield 55, 3) := by decide +kernel
theorem dX10_servant_56 : decode cX10_servant 56 = .ok (.aload_n 0, 1) := by decide +kernel
theorem dX10_servant_57 : decode cX10_servant 57 = .ok (.getfield 141, 3) := by decide +kernel
theorem dX10_servant_60 : decode cX10_servant 60 = .ok (.iload_n 2, 1) := by decide +kernel
theorem dX10_servant_61 : decode cX10_servant 61 = .ok (.iastore, 1) := by decide +kernel
theorem dX10_servant_62 : decode cX10_servant 62 = .ok (.aload_n 0, 1) := by decide +kernel
theorem dX10_servant_63 : decode cX10_servant 63 = .ok (.getfield 58, 3) := by decide +kernel
theorem dX10_servant_66 : decode cX10_servant 66 = .ok (.aload_n 0, 1) := by decide +kernel
theorem dX10_servant_67 : decode cX10_servant 67 = .ok (.getfield 141, 3) := by decide +kernel
theorem dX10_servant_70 : decode cX10_servant 70 = .ok (.iload_n 3, 1) := by decide +kernel
theorem dX10_servant_71 : decode cX10_servant 71 = .ok (.iastore, 1) := by decide +kernel
theorem dX10_servant_72 : decode cX10_servant 72 = .ok (.aload_n 0, 1) := by decide +kernel
theorem dX10_servant_73 : decode cX10_servant 73 = .ok (.dup, 1) := by decide +kernel
theorem dX10_servant_74 : decode cX10_servant 74 = .ok (.getfield 141, 3) := by decide +kernel
theorem dX10_servant_77 : decode cX10_servant 77 = .ok (.iconst 1, 1) := by decide +kernel
theorem dX10_servant_78 : decode cX10_servant 78 = .ok (.iadd, 1) := by decide +kernel
theorem dX10_servant_79 : decode cX10_servant 79 = .ok (.putfield 141, 3) := by decide +kernel
theorem dX10_servant_82 : decode cX10_servant 82 = .ok (.aload_n 0, 1) := by decide +kernel
theorem dX10_servant_83 : decode cX10_servant 83 = .ok (.getfield 141, 3) := by decide +kernel
theorem dX10_servant_86 : decode cX10_servant 86 = .ok (.iconst 1, 1) := by decide +kernel
theorem dX10_servant_87 : decode cX10_servant 87 = .ok (.isub, 1) := by decide +kernel
theorem dX10_servant_88 : decode cX10_servant 88 = .ok (.ireturn, 1) := by decide +kernel
theorem dX10_isServant_0 : decode cX10_isServant 0 = .ok (.iload_n 1, 1) := by decide +kernel
theorem dX10_isServant_1 : decode cX10_isServant 1 = .ok (.iconst 0, 1) := by decide +kernel
theorem dX10_isServant_2 : decode cX10_isServant 2 = .ok (.aload_n 0, 1) := by decide +kernel
theorem dX10_isServant_3 : decode cX10_isServant 3 = .ok (.getfield 141, 3) := by decide +kernel
theorem dX10_isServant_6 : decode cX10_isServant 6 = .ok (.iconst 1, 1) := by decide +kernel
theorem dX10_isServant_7 : decode cX10_isServant 7 = .ok (.isub, 1) := by decide +kernel
theorem dX10_isServant_8 : decode cX10_isServant 8 = .ok (.invokestatic 95, 3) := by decide +kernel
theorem dX10_isServant_11 : decode cX10_isServant 11 = .ok (.ireturn, 1) := by decide +kernel
theorem dX10_isOnErrand_0 : decode cX10_isOnErrand 0 = .ok (.iconst 0, 1) := by decide +kernel
theorem dX10_isOnErrand_1 : decode cX10_isOnErrand 1 = .ok (.istore_n 2, 1) := by decide +kernel
theorem dX10_isOnErrand_2 : decode cX10_isOnErrand 2 = .ok (.iconst 0, 1) := by decide +kernel
theorem dX10_isOnErrand_3 : decode cX10_isOnErrand 3 = .ok (.istore_n 3, 1) := by decide +kernel
theorem dX10_isOnErrand_4 : decode cX10_isOnErrand 4 = .ok (.iload_n 3, 1) := by decide +kernel
theorem dX10_isOnErrand_5 : decode cX10_isOnErrand 5 = .ok (.aload_n 0, 1) := by decide +kernel
theorem dX10_isOnErrand_6 : decode cX10_isOnErrand 6 = .ok (.getfield 141, 3) := by decide +kernel
theorem dX10_isOnErrand_9 : decode cX10_isOnErrand 9 = .ok (.if_icmp .ge 29, 3) := by decide +kernel
theorem dX10_isOnErrand_12 : decode cX10_isOnErrand 12 = .ok (.iload_n 2, 1) := by decide +kernel
theorem dX10_isOnErrand_13 : decode cX10_isOnErrand 13 = .ok (.ifCond .ne 13, 3) := by decide +kernel
theorem dX10_isOnErrand_16 : decode cX10_isOnErrand 16 = .ok (.aload_n 0, 1) := by decide +kernel
theorem dX10_isOnErrand_17 : decode cX10_isOnErrand 17 = .ok (.getfield 61, 3) := by decide +kernel
theorem dX10_isOnErrand_20 : decode cX10_isOnErrand 20 = .ok (.iload_n 3, 1) := by decide +kernel
theorem dX10_isOnErrand_21 : decode cX10_isOnErrand 21 = .ok (.iaload, 1) := by decide +kernel
theorem dX10_isOnErrand_22 : decode cX10_isOnErrand 22 = .ok (.iload_n 1, 1) := by decide +kernel
theorem dX10_isOnErrand_23 : decode cX10_isOnErrand 23 = .ok (.if_icmp .ne 7, 3) := by decide +kernel
theorem dX10_isOnErrand_26 : decode cX10_isOnErrand 26 = .ok (.iconst 1, 1) := by decide +kernel
theorem dX10_isOnErrand_27 : decode cX10_isOnErrand 27 = .ok (.goto 4, 3) := by decide +kernel
theorem dX10_isOnErrand_30 : decode cX10_isOnErrand 30 = .ok (.iconst 0, 1) := by decide +kernel
theorem dX10_isOnErrand_31 : decode cX10_isOnErrand 31 = .ok (.istore_n 2, 1) := by decide +kernel
theorem dX10_isOnErrand_32 : decode cX10_isOnErrand 32 = .ok (.iinc 3 1, 3) := by decide +kernel
theorem dX10_isOnErrand_35 : decode cX10_isOnErrand 35 = .ok (.goto (-31), 3) := by decide +kernel
theorem dX10_isOnErrand_38 : decode cX10_isOnErrand 38 = .ok (.iload_n 2, 1) := by decide +kernel
theorem dX10_isOnErrand_39 : decode cX10_isOnErrand 39 = .ok (.ireturn, 1) := by decide +kernel
theorem dX10_frees_0 : decode cX10_frees 0 = .ok (.iconst 0, 1) := by decide +kernel
theorem dX10_frees_1 : decode cX10_frees 1 = .ok (.istore_n 1, 1) := by decide +kernel
theorem dX10_frees_2 : decode cX10_frees 2 = .ok (.iload_n 1, 1) := by decide +kernel
theorem dX10_frees_3 : decode cX10_frees 3 = .ok (.aload_n 0, 1) := by decide +kernel
theorem dX10_frees_4 : decode cX10_frees 4 = .ok (.getfield 141, 3) := by decide +kernel
theorem dX10_frees_7 : decode cX10_frees 7 = .ok (.if_icmp .ge 73, 3) := by decide +kernel
theorem dX10_frees_10 : decode cX10_frees 10 = .ok (.aload_n 0, 1) := by decide +kernel
theorem dX10_frees_11 : decode cX10_frees 11 = .ok (.getfield 61, 3) := by decide +kernel
theorem dX10_frees_14 : decode cX10_frees 14 = .ok (.iload_n 1, 1) := by decide +kernel
theorem dX10_frees_15 : decode cX10_frees 15 = .ok (.iaload, 1) := by decide +kernel
theorem dX10_frees_16 : decode cX10_frees 16 = .ok (.ifCond .lt 58, 3) := by decide +kernel
theorem dX10_frees_19 : decode cX10_frees 19 = .ok (.aload_n 0, 1) := by decide +kernel
theorem dX10_frees_20 : decode cX10_frees 20 = .ok (.getfield 144, 3) := by decide +kernel
theorem dX10_frees_23 : decode cX10_frees 23 = .ok (.aload_n 0, 1) := by decide +kernel
theorem dX10_frees_24 : decode cX10_frees 24 = .ok (.getfield 64, 3) := by decide +kernel
theorem dX10_frees_27 : decode cX10_frees 27 = .ok (.iload_n 1, 1) := by decide +kernel
theorem dX10_frees_28 : decode cX10_frees 28 = .ok (.iaload, 1) := by decide +kernel
theorem dX10_frees_29 : decode cX10_frees 29 = .ok (.if_icmp .lt 45, 3) := by decide +kernel
theorem dX10_frees_32 : decode cX10_frees 32 = .ok (.aload_n 0, 1) := by decide +kernel
theorem dX10_frees_33 : decode cX10_frees 33 = .ok (.getfield 52, 3) := by decide +kernel
theorem dX10_frees_36 : decode cX10_frees 36 = .ok (.iload_n 1, 1) := by decide +kernel
theorem dX10_frees_37 : decode cX10_frees 37 = .ok (.aload_n 0, 1) := by decide +kernel
theorem dX10_frees_38 : decode cX10_frees 38 = .ok (.getfield 19, 3) := by decide +kernel
theorem dX10_frees_41 : decode cX10_frees 41 = .ok (.aload_n 0, 1) := by decide +kernel
theorem dX10_frees_42 : decode cX10_frees 42 = .ok (.getfield 61, 3) := by decide +kernel
theorem dX10_frees_45 : decode cX10_frees 45 = .ok (.iload_n 1, 1) := by decide +kernel
theorem dX10_frees_46 : decode cX10_frees 46 = .ok (.iaload, 1) := by decide +kernel
theorem dX10_frees_47 : decode cX10_frees 47 = .ok (.iaload, 1) := by decide +kernel
theorem dX10_frees_48 : decode cX10_frees 48 = .ok (.iastore, 1) := by decide +kernel
theorem dX10_frees_49 : decode cX10_frees 49 = .ok (.aload_n 0, 1) := by decide +kernel
theorem dX10_frees_50 : decode cX10_frees 50 = .ok (.getfield 55, 3) := by decide +kernel
theorem dX10_frees_53 : decode cX10_frees 53 = .ok (.iload_n 1, 1) := by decide +kernel
theorem dX10_frees_54 : decode cX10_frees 54 = .ok (.aload_n 0, 1) := by decide +kernel
theorem dX10_frees_55 : decode cX10_frees 55 = .ok (.getfield 22, 3) := by decide +kernel
theorem dX10_frees_58 : decode cX10_frees 58 = .ok (.aload_n 0, 1) := by decide +kernel
theorem dX10_frees_59 : decode cX10_frees 59 = .ok (.getfield 61, 3) := by decide +kernel
theorem dX10_frees_62 : decode cX10_frees 62 = .ok (.iload_n 1, 1) := by decide +kernel
theorem dX10_frees_63 : decode cX10_frees 63 = .ok (.iaload, 1) := by decide +kernel
theorem dX10_frees_64 : decode cX10_frees 64 = .ok (.iaload, 1) := by decide +kernel
theorem dX10_frees_65 : decode cX10_frees 65 = .ok (.iastore, 1) := by decide +kernel
theorem dX10_frees_66 : decode cX10_frees 66 = .ok (.aload_n 0, 1) := by decide +kernel
theorem dX10_frees_67 : decode cX10_frees 67 = .ok (.getfield 61, 3) := by decide +kernel
theorem dX10_frees_70 : decode cX10_frees 70 = .ok (.iload_n 1, 1) := by decide +kernel
theorem dX10_frees_71 : decode cX10_frees 71 = .ok (.bipush (-4), 2) := by decide +kernel
theorem dX10_frees_73 : decode cX10_frees 73 = .ok (.iastore, 1) := by decide +kernel
theorem dX10_frees_74 : decode cX10_frees 74 = .ok (.iinc 1 1, 3) := by decide +kernel
theorem dX10_frees_77 : decode cX10_frees 77 = .ok (.goto (-75), 3) := by decide +kernel
theorem dX10_frees_80 : decode cX10_frees 80 = .ok (.return_, 1) := by decide +kernel
theorem dX10_wayOf_0 : decode cX10_wayOf 0 = .ok (.aload_n 0, 1) := by decide +kernel
theorem dX10_wayOf_1 : decode cX10_wayOf 1 = .ok (.getfield 52, 3) := by decide +kernel
theorem dX10_wayOf_4 : decode cX10_wayOf 4 = .ok (.iload_n 1, 1) := by decide +kernel
theorem dX10_wayOf_5 : decode cX10_wayOf 5 = .ok (.iaload, 1) := by decide +kernel
theorem dX10_wayOf_6 : decode cX10_wayOf 6 = .ok (.aload_n 0, 1) := by decide +kernel
theorem dX10_wayOf_7 : decode cX10_wayOf 7 = .ok (.getfield 19, 3) := by decide +kernel
theorem dX10_wayOf_10 : decode cX10_wayOf 10 = .ok (.iload_n 2, 1) := by decide +kernel
theorem dX10_wayOf_11 : decode cX10_wayOf 11 = .ok (.iaload, 1) := by decide +kernel
theorem dX10_wayOf_12 : decode cX10_wayOf 12 = .ok (.if_icmp .ne 20, 3) := by decide +kernel
theorem dX10_wayOf_15 : decode cX10_wayOf 15 = .ok (.aload_n 0, 1) := by decide +kernel
theorem dX10_wayOf_16 : decode cX10_wayOf 16 = .ok (.getfield 55, 3) := by decide +kernel
theorem dX10_wayOf_19 : decode cX10_wayOf 19 = .ok (.iload_n 1, 1) := by decide +kernel
theorem dX10_wayOf_20 : decode cX10_wayOf 20 = .ok (.iaload, 1) := by decide +kernel
theorem dX10_wayOf_21 : decode cX10_wayOf 21 = .ok (.aload_n 0, 1) := by decide +kernel
theorem dX10_wayOf_22 : decode cX10_wayOf 22 = .ok (.getfield 22, 3) := by decide +kernel
theorem dX10_wayOf_25 : decode cX10_wayOf 25 = .ok (.iload_n 2, 1) := by decide +kernel
theorem dX10_wayOf_26 : decode cX10_wayOf 26 = .ok (.iaload, 1) := by decide +kernel
theorem dX10_wayOf_27 : decode cX10_wayOf 27 = .ok (.isub, 1) := by decide +kernel
theorem dX10_wayOf_28 : decode cX10_wayOf 28 = .ok (.invokestatic 147, 3) := by decide +kernel
theorem dX10_wayOf_31 : decode cX10_wayOf 31 = .ok (.ireturn, 1) := by decide +kernel
theorem dX10_wayOf_32 : decode cX10_wayOf 32 = .ok (.aload_n 0, 1) := by decide +kernel
theorem dX10_wayOf_33 : decode cX10_wayOf 33 = .ok (.getfield 55, 3) := by decide +kernel
theorem dX10_wayOf_36 : decode cX10_wayOf 36 = .ok (.iload_n 1, 1) := by decide +kernel
theorem dX10_wayOf_37 : decode cX10_wayOf 37 = .ok (.iaload, 1) := by decide +kernel
theorem dX10_wayOf_38 : decode cX10_wayOf 38 = .ok (.bipush 15, 2) := by decide +kernel
theorem dX10_wayOf_40 : decode cX10_wayOf 40 = .ok (.isub, 1) := by decide +kernel
theorem dX10_wayOf_41 : decode cX10_wayOf 41 = .ok (.invokestatic 147, 3) := by decide +kernel
theorem dX10_wayOf_44 : decode cX10_wayOf 44 = .ok (.bipush 6, 2) := by decide +kernel
theorem dX10_wayOf_46 : decode cX10_wayOf 46 = .ok (.aload_n 0, 1) := by decide +kernel
theorem dX10_wayOf_47 : decode cX10_wayOf 47 = .ok (.getfield 52, 3) := by decide +kernel
theorem dX10_wayOf_50 : decode cX10_wayOf 50 = .ok (.iload_n 1, 1) := by decide +kernel
theorem dX10_wayOf_51 : decode cX10_wayOf 51 = .ok (.iaload, 1) := by decide +kernel
theorem dX10_wayOf_52 : decode cX10_wayOf 52 = .ok (.aload_n 0, 1) := by decide +kernel
theorem dX10_wayOf_53 : decode cX10_wayOf 53 = .ok (.getfield 19, 3) := by decide +kernel
theorem dX10_wayOf_56 : decode cX10_wayOf 56 = .ok (.iload_n 2, 1) := by decide +kernel
theorem dX10_wayOf_57 : decode cX10_wayOf 57 = .ok (.iaload, 1) := by decide +kernel
theorem dX10_wayOf_58 : decode cX10_wayOf 58 = .ok (.isub, 1) := by decide +kernel
theorem dX10_wayOf_59 : decode cX10_wayOf 59 = .ok (.invokestatic 147, 3) := by decide +kernel
theorem dX10_wayOf_62 : decode cX10_wayOf 62 = .ok (.imul, 1) := by decide +kernel
theorem dX10_wayOf_63 : decode cX10_wayOf 63 = .ok (.iadd, 1) := by decide +kernel
theorem dX10_wayOf_64 : decode cX10_wayOf 64 = .ok (.bipush 15, 2) := by decide +kernel
theorem dX10_wayOf_66 : decode cX10_wayOf 66 = .ok (.aload_n 0, 1) := by decide +kernel
theorem dX10_wayOf_67 : decode cX10_wayOf 67 = .ok (.getfield 22, 3) := by decide +kernel
theorem dX10_wayOf_70 : decode cX10_wayOf 70 = .ok (.iload_n 2, 1) := by decide +kernel
theorem dX10_wayOf_71 : decode cX10_wayOf 71 = .ok (.iaload, 1) := by decide +kernel
theorem dX10_wayOf_72 : decode cX10_wayOf 72 = .ok (.isub, 1) := by decide +kernel
theorem dX10_wayOf_73 : decode cX10_wayOf 73 = .ok (.invokestatic 147, 3) := by decide +kernel
theorem dX10_wayOf_76 : decode cX10_wayOf 76 = .ok (.iadd, 1) := by decide +kernel
theorem dX10_wayOf_77 : decode cX10_wayOf 77 = .ok (.ireturn, 1) := by decide +kernel
theorem dX10_may_0 : decode cX10_may 0 = .ok (.aload_n 0, 1) := by decide +kernel
theorem dX10_may_1 : decode cX10_may 1 = .ok (.getfield 61, 3) := by decide +kernel
theorem dX10_may_4 : decode cX10_may 4 = .ok (.iload_n 1, 1) := by decide +kernel
theorem dX10_may_5 : decode cX10_may 5 = .ok (.iaload, 1) := by decide +kernel
theorem dX10_may_6 : decode cX10_may 6 = .ok (.ifCond .ge 26, 3) := by decide +kernel
theorem dX10_may_9 : decode cX10_may 9 = .ok (.aload_n 0, 1) := by decide +kernel
theorem dX10_may_10 : decode cX10_may 10 = .ok (.getfield 58, 3) := by decide +kernel
theorem dX10_may_13 : decode cX10_may 13 = .ok (.iload_n 1, 1) := by decide +kernel
theorem dX10_may_14 : decode cX10_may 14 = .ok (.iaload, 1) := by decide +kernel
theorem dX10_may_15 : decode cX10_may 15 = .ok (.aload_n 0, 1) := by decide +kernel
theorem dX10_may_16 : decode cX10_may 16 = .ok (.getfield 25, 3) := by decide +kernel
theorem dX10_may_19 : decode cX10_may 19 = .ok (.iload_n 2, 1) := by decide +kernel
theorem dX10_may_20 : decode cX10_may 20 = .ok (.iaload, 1) := by decide +kernel
theorem dX10_may_21 : decode cX10_may 21 = .ok (.ishr, 1) := by decide +kernel
theorem dX10_may_22 : decode cX10_may 22 = .ok (.iconst 1, 1) := by decide +kernel
theorem dX10_may_23 : decode cX10_may 23 = .ok (.iand, 1) := by decide +kernel
theorem dX10_may_24 : decode cX10_may 24 = .ok (.iconst 1, 1) := by decide +kernel
theorem dX10_may_25 : decode cX10_may 25 = .ok (.if_icmp .ne 7, 3) := by decide +kernel
theorem dX10_may_28 : decode cX10_may 28 = .ok (.iconst 1, 1) := by decide +kernel
theorem dX10_may_29 : decode cX10_may 29 = .ok (.goto 4, 3) := by decide +kernel
theorem dX10_may_32 : decode cX10_may 32 = .ok (.iconst 0, 1) := by decide +kernel
theorem dX10_may_33 : decode cX10_may 33 = .ok (.ireturn, 1) := by decide +kernel
theorem dX10_goes_0 : decode cX10_goes 0 = .ok (.aload_n 0, 1) := by decide +kernel
theorem dX10_goes_1 : decode cX10_goes 1 = .ok (.iload_n 1, 1) := by decide +kernel
theorem dX10_goes_2 : decode cX10_goes 2 = .ok (.iload_n 2, 1) := by decide +kernel
theorem dX10_goes_3 : decode cX10_goes 3 = .ok (.invokevirtual 150, 3) := by decide +kernel
theorem dX10_goes_6 : decode cX10_goes 6 = .ok (.istore_n 3, 1) := by decide +kernel
theorem dX10_goes_7 : decode cX10_goes 7 = .ok (.aload_n 0, 1) := by decide +kernel
theorem dX10_goes_8 : decode cX10_goes 8 = .ok (.getfield 144, 3) := by decide +kernel
theorem dX10_goes_11 : decode cX10_goes 11 = .ok (.aload_n 0, 1) := by decide +kernel
theorem dX10_goes_12 : decode cX10_goes 12 = .ok (.getfield 40, 3) := by decide +kernel
theorem dX10_goes_15 : decode cX10_goes 15 = .ok (.iload_n 2, 1) := by decide +kernel
theorem dX10_goes_16 : decode cX10_goes 16 = .ok (.iaload, 1) := by decide +kernel
theorem dX10_goes_17 : decode cX10_goes 17 = .ok (.isub, 1) := by decide +kernel
theorem dX10_goes_18 : decode cX10_goes 18 = .ok (.iload_n 3, 1) := by decide +kernel
theorem dX10_goes_19 : decode cX10_goes 19 = .ok (.iadd, 1) := by decide +kernel
theorem dX10_goes_20 : decode cX10_goes 20 = .ok (.istore 4, 2) := by decide +kernel
theorem dX10_goes_22 : decode cX10_goes 22 = .ok (.aload_n 0, 1) := by decide +kernel
theorem dX10_goes_23 : decode cX10_goes 23 = .ok (.getfield 61, 3) := by decide +kernel
theorem dX10_goes_26 : decode cX10_goes 26 = .ok (.iload_n 1, 1) := by decide +kernel
theorem dX10_goes_27 : decode cX10_goes 27 = .ok (.iload_n 2, 1) := by decide +kernel
theorem dX10_goes_28 : decode cX10_goes 28 = .ok (.iastore, 1) := by decide +kernel
theorem dX10_goes_29 : decode cX10_goes 29 = .ok (.aload_n 0, 1) := by decide +kernel
theorem dX10_goes_30 : decode cX10_goes 30 = .ok (.getfield 64, 3) := by decide +kernel
theorem dX10_goes_33 : decode cX10_goes 33 = .ok (.iload_n 1, 1) := by decide +kernel
theorem dX10_goes_34 : decode cX10_goes 34 = .ok (.aload_n 0, 1) := by decide +kernel
theorem dX10_goes_35 : decode cX10_goes 35 = .ok (.getfield 144, 3) := by decide +kernel
theorem dX10_goes_38 : decode cX10_goes 38 = .ok (.iload_n 3, 1) := by decide +kernel
theorem dX10_goes_39 : decode cX10_goes 39 = .ok (.iadd, 1) := by decide +kernel
theorem dX10_goes_40 : decode cX10_goes 40 = .ok (.iconst 3, 1) := by decide +kernel
theorem dX10_goes_41 : decode cX10_goes 41 = .ok (.iadd, 1) := by decide +kernel
theorem dX10_goes_42 : decode cX10_goes 42 = .ok (.iastore, 1) := by decide +kernel
theorem dX10_goes_43 : decode cX10_goes 43 = .ok (.aload_n 0, 1) := by decide +kernel
theorem dX10_goes_44 : decode cX10_goes 44 = .ok (.getfield 67, 3) := by decide +kernel
theorem dX10_goes_47 : decode cX10_goes 47 = .ok (.iload_n 1, 1) := by decide +kernel
theorem dX10_goes_48 : decode cX10_goes 48 = .ok (.dup2, 1) := by decide +kernel
theorem dX10_goes_49 : decode cX10_goes 49 = .ok (.iaload, 1) := by decide +kernel
theorem dX10_goes_50 : decode cX10_goes 50 = .ok (.iconst 1, 1) := by decide +kernel
theorem dX10_goes_51 : decode cX10_goes 51 = .ok (.iadd, 1) := by decide +kernel
theorem dX10_goes_52 : decode cX10_goes 52 = .ok (.iastore, 1) := by decide +kernel
theorem dX10_goes_53 : decode cX10_goes 53 = .ok (.aload_n 0, 1) := by decide +kernel
theorem dX10_goes_54 : decode cX10_goes 54 = .ok (.getfield 40, 3) := by decide +kernel
theorem dX10_goes_57 : decode cX10_goes 57 = .ok (.iload_n 2, 1) := by decide +kernel
theorem dX10_goes_58 : decode cX10_goes 58 = .ok (.iconst (-1), 1) := by decide +kernel
theorem dX10_goes_59 : decode cX10_goes 59 = .ok (.iastore, 1) := by decide +kernel
theorem dX10_goes_60 : decode cX10_goes 60 = .ok (.aload_n 0, 1) := by decide +kernel
theorem dX10_goes_61 : decode cX10_goes 61 = .ok (.getfield 43, 3) := by decide +kernel
theorem dX10_goes_64 : decode cX10_goes 64 = .ok (.iload_n 2, 1) := by decide +kernel
theorem dX10_goes_65 : decode cX10_goes 65 = .ok (.dup2, 1) := by decide +kernel
theorem dX10_goes_66 : decode cX10_goes 66 = .ok (.iaload, 1) := by decide +kernel
theorem dX10_goes_67 : decode cX10_goes 67 = .ok (.iconst 1, 1) := by decide +kernel
theorem dX10_goes_68 : decode cX10_goes 68 = .ok (.iadd, 1) := by decide +kernel
theorem dX10_goes_69 : decode cX10_goes 69 = .ok (.iastore, 1) := by decide +kernel
theorem dX10_goes_70 : decode cX10_goes 70 = .ok (.aload_n 0, 1) := by decide +kernel
theorem dX10_goes_71 : decode cX10_goes 71 = .ok (.getfield 46, 3) := by decide +kernel
theorem dX10_goes_74 : decode cX10_goes 74 = .ok (.iload_n 2, 1) := by decide +kernel
theorem dX10_goes_75 : decode cX10_goes 75 = .ok (.dup2, 1) := by decide +kernel
theorem dX10_goes_76 : decode cX10_goes 76 = .ok (.iaload, 1) := by decide +kernel
theorem dX10_goes_77 : decode cX10_goes 77 = .ok (.iload 4, 2) := by decide +kernel
theorem dX10_goes_79 : decode cX10_goes 79 = .ok (.iadd, 1) := by decide +kernel
theorem dX10_goes_80 : decode cX10_goes 80 = .ok (.iastore, 1) := by decide +kernel
theorem dX10_goes_81 : decode cX10_goes 81 = .ok (.aload_n 0, 1) := by decide +kernel
theorem dX10_goes_82 : decode cX10_goes 82 = .ok (.getfield 49, 3) := by decide +kernel
theorem dX10_goes_85 : decode cX10_goes 85 = .ok (.iload_n 2, 1) := by decide +kernel
theorem dX10_goes_86 : decode cX10_goes 86 = .ok (.iload 4, 2) := by decide +kernel
theorem dX10_goes_88 : decode cX10_goes 88 = .ok (.aload_n 0, 1) := by decide +kernel
theorem dX10_goes_89 : decode cX10_goes 89 = .ok (.getfield 49, 3) := by decide +kernel
theorem dX10_goes_92 : decode cX10_goes 92 = .ok (.iload_n 2, 1) := by decide +kernel
theorem dX10_goes_93 : decode cX10_goes 93 = .ok (.iaload, 1) := by decide +kernel
theorem dX10_goes_94 : decode cX10_goes 94 = .ok (.if_icmp .le 8, 3) := by decide +kernel
theorem dX10_goes_97 : decode cX10_goes 97 = .ok (.iload 4, 2) := by decide +kernel
theorem dX10_goes_99 : decode cX10_goes 99 = .ok (.goto 9, 3) := by decide +kernel
theorem dX10_goes_102 : decode cX10_goes 102 = .ok (.aload_n 0, 1) := by decide +kernel
theorem dX10_goes_103 : decode cX10_goes 103 = .ok (.getfield 49, 3) := by decide +kernel
theorem dX10_goes_106 : decode cX10_goes 106 = .ok (.iload_n 2, 1) := by decide +kernel
theorem dX10_goes_107 : decode cX10_goes 107 = .ok (.iaload, 1) := by decide +kernel
theorem dX10_goes_108 : decode cX10_goes 108 = .ok (.iastore, 1) := by decide +kernel
theorem dX10_goes_109 : decode cX10_goes 109 = .ok (.return_, 1) := by decide +kernel
theorem dX10_ring_0 : decode cX10_ring 0 = .ok (.aload_n 0, 1) := by decide +kernel
theorem dX10_ring_1 : decode cX10_ring 1 = .ok (.iload_n 1, 1) := by decide +kernel
theorem dX10_ring_2 : decode cX10_ring 2 = .ok (.invokevirtual 128, 3) := by decide +kernel
theorem dX10_ring_5 : decode cX10_ring 5 = .ok (.ifCond .ne 5, 3) := by decide +kernel
theorem dX10_ring_8 : decode cX10_ring 8 = .ok (.iconst (-1), 1) := by decide +kernel
theorem dX10_ring_9 : decode cX10_ring 9 = .ok (.ireturn, 1) := by decide +kernel
theorem dX10_ring_10 : decode cX10_ring 10 = .ok (.iconst 0, 1) := by decide +kernel
theorem dX10_ring_11 : decode cX10_ring 11 = .ok (.istore_n 2, 1) := by decide +kernel
theorem dX10_ring_12 : decode cX10_ring 12 = .ok (.iconst 0, 1) := by decide +kernel
theorem dX10_ring_13 : decode cX10_ring 13 = .ok (.istore_n 3, 1) := by decide +kernel
theorem dX10_ring_14 : decode cX10_ring 14 = .ok (.iload_n 3, 1) := by decide +kernel
theorem dX10_ring_15 : decode cX10_ring 15 = .ok (.bipush 8, 2) := by decide +kernel
theorem dX10_ring_17 : decode cX10_ring 17 = .ok (.if_icmp .ge 84, 3) := by decide +kernel
theorem dX10_ring_20 : decode cX10_ring 20 = .ok (.aload_n 0, 1) := by decide +kernel
theorem dX10_ring_21 : decode cX10_ring 21 = .ok (.iload_n 1, 1) := by decide +kernel
theorem dX10_ring_22 : decode cX10_ring 22 = .ok (.iload_n 3, 1) := by decide +kernel
theorem dX10_ring_23 : decode cX10_ring 23 = .ok (.invokevirtual 138, 3) := by decide +kernel
theorem dX10_ring_26 : decode cX10_ring 26 = .ok (.istore 4, 2) := by decide +kernel
theorem dX10_ring_28 : decode cX10_ring 28 = .ok (.iload_n 2, 1) := by decide +kernel
theorem dX10_ring_29 : decode cX10_ring 29 = .ok (.iload 4, 2) := by decide +kernel
theorem dX10_ring_31 : decode cX10_ring 31 = .ok (.ifCond .le 9, 3) := by decide +kernel
theorem dX10_ring_34 : decode cX10_ring 34 = .ok (.iconst 1, 1) := by decide +kernel
theorem dX10_ring_35 : decode cX10_ring 35 = .ok (.iload_n 3, 1) := by decide +kernel
theorem dX10_ring_36 : decode cX10_ring 36 = .ok (.ishl, 1) := by decide +kernel
theorem dX10_ring_37 : decode cX10_ring 37 = .ok (.goto 4, 3) := by decide +kernel
theorem dX10_ring_40 : decode cX10_ring 40 = .ok (.iconst 0, 1) := by decide +kernel
theorem dX10_ring_41 : decode cX10_ring 41 = .ok (.ior, 1) := by decide +kernel
theorem dX10_ring_42 : decode cX10_ring 42 = .ok (.istore_n 2, 1) := by decide +kernel
theorem dX10_ring_43 : decode cX10_ring 43 = .ok (.iload 4, 2) := by decide +kernel
theorem dX10_ring_45 : decode cX10_ring 45 = .ok (.iconst 2, 1) := by decide +kernel
theorem dX10_ring_46 : decode cX10_ring 46 = .ok (.if_icmp .ne 8, 3) := by decide +kernel
theorem dX10_ring_49 : decode cX10_ring 49 = .ok (.bipush 8, 2) := by decide +kernel
theorem dX10_ring_51 : decode cX10_ring 51 = .ok (.goto 14, 3) := by decide +kernel
theorem dX10_ring_54 : decode cX10_ring 54 = .ok (.iload 4, 2) := by decide +kernel
theorem dX10_ring_56 : decode cX10_ring 56 = .ok (.iconst 1, 1) := by decide +kernel
theorem dX10_ring_57 : decode cX10_ring 57 = .ok (.if_icmp .ne 7, 3) := by decide +kernel
theorem dX10_ring_60 : decode cX10_ring 60 = .ok (.iconst 4, 1) := by decide +kernel
theorem dX10_ring_61 : decode cX10_ring 61 = .ok (.goto 4, 3) := by decide +kernel
theorem dX10_ring_64 : decode cX10_ring 64 = .ok (.iconst 0, 1) := by decide +kernel
theorem dX10_ring_65 : decode cX10_ring 65 = .ok (.istore 5, 2) := by decide +kernel
theorem dX10_ring_67 : decode cX10_ring 67 = .ok (.aload_n 0, 1) := by decide +kernel
theorem dX10_ring_68 : decode cX10_ring 68 = .ok (.getfield 70, 3) := by decide +kernel
theorem dX10_ring_71 : decode cX10_ring 71 = .ok (.iload_n 3, 1) := by decide +kernel
theorem dX10_ring_72 : decode cX10_ring 72 = .ok (.iload 5, 2) := by decide +kernel
theorem dX10_ring_74 : decode cX10_ring 74 = .ok (.aload_n 0, 1) := by decide +kernel
theorem dX10_ring_75 : decode cX10_ring 75 = .ok (.getfield 70, 3) := by decide +kernel
theorem dX10_ring_78 : decode cX10_ring 78 = .ok (.iload_n 3, 1) := by decide +kernel
theorem dX10_ring_79 : decode cX10_ring 79 = .ok (.iaload, 1) := by decide +kernel
theorem dX10_ring_80 : decode cX10_ring 80 = .ok (.if_icmp .le 8, 3) := by decide +kernel
theorem dX10_ring_83 : decode cX10_ring 83 = .ok (.iload 5, 2) := by decide +kernel
theorem dX10_ring_85 : decode cX10_ring 85 = .ok (.goto 9, 3) := by decide +kernel
theorem dX10_ring_88 : decode cX10_ring 88 = .ok (.aload_n 0, 1) := by decide +kernel
theorem dX10_ring_89 : decode cX10_ring 89 = .ok (.getfield 70, 3) := by decide +kernel
theorem dX10_ring_92 : decode cX10_ring 92 = .ok (.iload_n 3, 1) := by decide +kernel
theorem dX10_ring_93 : decode cX10_ring 93 = .ok (.iaload, 1) := by decide +kernel
theorem dX10_ring_94 : decode cX10_ring 94 = .ok (.iastore, 1) := by decide +kernel
theorem dX10_ring_95 : decode cX10_ring 95 = .ok (.iinc 3 1, 3) := by decide +kernel
theorem dX10_ring_98 : decode cX10_ring 98 = .ok (.goto (-84), 3) := by decide +kernel
theorem dX10_ring_101 : decode cX10_ring 101 = .ok (.iload_n 2, 1) := by decide +kernel
theorem dX10_ring_102 : decode cX10_ring 102 = .ok (.ifCond .eq 51, 3) := by decide +kernel
theorem dX10_ring_105 : decode cX10_ring 105 = .ok (.aload_n 0, 1) := by decide +kernel
theorem dX10_ring_106 : decode cX10_ring 106 = .ok (.dup, 1) := by decide +kernel
theorem dX10_ring_107 : decode cX10_ring 107 = .ok (.getfield 153, 3) := by decide +kernel
theorem dX10_ring_110 : decode cX10_ring 110 = .ok (.iconst 1, 1) := by decide +kernel
theorem dX10_ring_111 : decode cX10_ring 111 = .ok (.iload_n 1, 1) := by decide +kernel
theorem dX10_ring_112 : decode cX10_ring 112 = .ok (.ishl, 1) := by decide +kernel
theorem dX10_ring_113 : decode cX10_ring 113 = .ok (.ior, 1) := by decide +kernel
theorem dX10_ring_114 : decode cX10_ring 114 = .ok (.putfield 153, 3) := by decide +kernel
theorem dX10_ring_117 : decode cX10_ring 117 = .ok (.aload_n 0, 1) := by decide +kernel
theorem dX10_ring_118 : decode cX10_ring 118 = .ok (.getfield 40, 3) := by decide +kernel
theorem dX10_ring_121 : decode cX10_ring 121 = .ok (.iload_n 1, 1) := by decide +kernel
theorem dX10_ring_122 : decode cX10_ring 122 = .ok (.aload_n 0, 1) := by decide +kernel
theorem dX10_ring_123 : decode cX10_ring 123 = .ok (.getfield 40, 3) := by decide +kernel
theorem dX10_ring_126 : decode cX10_ring 126 = .ok (.iload_n 1, 1) := by decide +kernel
theorem dX10_ring_127 : decode cX10_ring 127 = .ok (.iaload, 1) := by decide +kernel
theorem dX10_ring_128 : decode cX10_ring 128 = .ok (.ifCond .ge 18, 3) := by decide +kernel
theorem dX10_ring_131 : decode cX10_ring 131 = .ok (.aload_n 0, 1) := by decide +kernel
theorem dX10_ring_132 : decode cX10_ring 132 = .ok (.iload_n 1, 1) := by decide +kernel
theorem dX10_ring_133 : decode cX10_ring 133 = .ok (.invokevirtual 156, 3) := by decide +kernel
theorem dX10_ring_136 : decode cX10_ring 136 = .ok (.ifCond .ne 10, 3) := by decide +kernel
theorem dX10_ring_139 : decode cX10_ring 139 = .ok (.aload_n 0, 1) := by decide +kernel
theorem dX10_ring_140 : decode cX10_ring 140 = .ok (.getfield 144, 3) := by decide +kernel
theorem dX10_ring_143 : decode cX10_ring 143 = .ok (.goto 9, 3) := by decide +kernel
theorem dX10_ring_146 : decode cX10_ring 146 = .ok (.aload_n 0, 1) := by decide +kernel
theorem dX10_ring_147 : decode cX10_ring 147 = .ok (.getfield 40, 3) := by decide +kernel
theorem dX10_ring_150 : decode cX10_ring 150 = .ok (.iload_n 1, 1) := by decide +kernel
theorem dX10_ring_151 : decode cX10_ring 151 = .ok (.iaload, 1) := by decide +kernel
theorem dX10_ring_152 : decode cX10_ring 152 = .ok (.iastore, 1) := by decide +kernel
theorem dX10_ring_153 : decode cX10_ring 153 = .ok (.iload_n 2, 1) := by decide +kernel
theorem dX10_ring_154 : decode cX10_ring 154 = .ok (.ireturn, 1) := by decide +kernel
theorem dX10_nearest_0 : decode cX10_nearest 0 = .ok (.iconst (-1), 1) := by decide +kernel
theorem dX10_nearest_1 : decode cX10_nearest 1 = .ok (.istore_n 2, 1) := by decide +kernel
theorem dX10_nearest_2 : decode cX10_nearest 2 = .ok (.iconst 0, 1) := by decide +kernel
theorem dX10_nearest_3 : decode cX10_nearest 3 = .ok (.istore_n 3, 1) := by decide +kernel
theorem dX10_nearest_4 : decode cX10_nearest 4 = .ok (.iload_n 3, 1) := by decide +kernel
theorem dX10_nearest_5 : decode cX10_nearest 5 = .ok (.aload_n 0, 1) := by decide +kernel
theorem dX10_nearest_6 : decode cX10_nearest 6 = .ok (.getfield 141, 3) := by decide +kernel
theorem dX10_nearest_9 : decode cX10_nearest 9 = .ok (.if_icmp .ge 43, 3) := by decide +kernel
theorem dX10_nearest_12 : decode cX10_nearest 12 = .ok (.aload_n 0, 1) := by decide +kernel
theorem dX10_nearest_13 : decode cX10_nearest 13 = .ok (.iload_n 3, 1) := by decide +kernel
theorem dX10_nearest_14 : decode cX10_nearest 14 = .ok (.iload_n 1, 1) := by decide +kernel
theorem dX10_nearest_15 : decode cX10_nearest 15 = .ok (.invokevirtual 159, 3) := by decide +kernel
theorem dX10_nearest_18 : decode cX10_nearest 18 = .ok (.ifCond .eq 26, 3) := by decide +kernel
theorem dX10_nearest_21 : decode cX10_nearest 21 = .ok (.iload_n 2, 1) := by decide +kernel
theorem dX10_nearest_22 : decode cX10_nearest 22 = .ok (.ifCond .lt 18, 3) := by decide +kernel
theorem dX10_nearest_25 : decode cX10_nearest 25 = .ok (.aload_n 0, 1) := by decide +kernel
theorem dX10_nearest_26 : decode cX10_nearest 26 = .ok (.iload_n 3, 1) := by decide +kernel
theorem dX10_nearest_27 : decode cX10_nearest 27 = .ok (.iload_n 1, 1) := by decide +kernel
theorem dX10_nearest_28 : decode cX10_nearest 28 = .ok (.invokevirtual 150, 3) := by decide +kernel
theorem dX10_nearest_31 : decode cX10_nearest 31 = .ok (.aload_n 0, 1) := by decide +kernel
theorem dX10_nearest_32 : decode cX10_nearest 32 = .ok (.iload_n 2, 1) := by decide +kernel
theorem dX10_nearest_33 : decode cX10_nearest 33 = .ok (.iload_n 1, 1) := by decide +kernel
theorem dX10_nearest_34 : decode cX10_nearest 34 = .ok (.invokevirtual 150, 3) := by decide +kernel
theorem dX10_nearest_37 : decode cX10_nearest 37 = .ok (.if_icmp .ge 7, 3) := by decide +kernel
theorem dX10_nearest_40 : decode cX10_nearest 40 = .ok (.iload_n 3, 1) := by decide +kernel
theorem dX10_nearest_41 : decode cX10_nearest 41 = .ok (.goto 4, 3) := by decide +kernel
theorem dX10_nearest_44 : decode cX10_nearest 44 = .ok (.iload_n 2, 1) := by decide +kernel
theorem dX10_nearest_45 : decode cX10_nearest 45 = .ok (.istore_n 2, 1) := by decide +kernel
theorem dX10_nearest_46 : decode cX10_nearest 46 = .ok (.iinc 3 1, 3) := by decide +kernel
theorem dX10_nearest_49 : decode cX10_nearest 49 = .ok (.goto (-45), 3) := by decide +kernel
theorem dX10_nearest_52 : decode cX10_nearest 52 = .ok (.iload_n 2, 1) := by decide +kernel
theorem dX10_nearest_53 : decode cX10_nearest 53 = .ok (.ireturn, 1) := by decide +kernel
theorem dX10_isAhead_0 : decode cX10_isAhead 0 = .ok (.aload_n 0, 1) := by decide +kernel
theorem dX10_isAhead_1 : decode cX10_isAhead 1 = .ok (.getfield 25, 3) := by decide +kernel
theorem dX10_isAhead_4 : decode cX10_isAhead 4 = .ok (.iload_n 1, 1) := by decide +kernel
theorem dX10_isAhead_5 : decode cX10_isAhead 5 = .ok (.iaload, 1) := by decide +kernel
theorem dX10_isAhead_6 : decode cX10_isAhead 6 = .ok (.aload_n 0, 1) := by decide +kernel
theorem dX10_isAhead_7 : decode cX10_isAhead 7 = .ok (.getfield 25, 3) := by decide +kernel
theorem dX10_isAhead_10 : decode cX10_isAhead 10 = .ok (.iload_n 2, 1) := by decide +kernel
theorem dX10_isAhead_11 : decode cX10_isAhead 11 = .ok (.iaload, 1) := by decide +kernel
theorem dX10_isAhead_12 : decode cX10_isAhead 12 = .ok (.if_icmp .eq 26, 3) := by decide +kernel
theorem dX10_isAhead_15 : decode cX10_isAhead 15 = .ok (.aload_n 0, 1) := by decide +kernel
theorem dX10_isAhead_16 : decode cX10_isAhead 16 = .ok (.getfield 25, 3) := by decide +kernel
theorem dX10_isAhead_19 : decode cX10_isAhead 19 = .ok (.iload_n 1, 1) := by decide +kernel
theorem dX10_isAhead_20 : decode cX10_isAhead 20 = .ok (.iaload, 1) := by decide +kernel
theorem dX10_isAhead_21 : decode cX10_isAhead 21 = .ok (.aload_n 0, 1) := by decide +kernel
theorem dX10_isAhead_22 : decode cX10_isAhead 22 = .ok (.getfield 25, 3) := by decide +kernel
theorem dX10_isAhead_25 : decode cX10_isAhead 25 = .ok (.iload_n 2, 1) := by decide +kernel
theorem dX10_isAhead_26 : decode cX10_isAhead 26 = .ok (.iaload, 1) := by decide +kernel
theorem dX10_isAhead_27 : decode cX10_isAhead 27 = .ok (.if_icmp .le 7, 3) := by decide +kernel
theorem dX10_isAhead_30 : decode cX10_isAhead 30 = .ok (.iconst 1, 1) := by decide +kernel
theorem dX10_isAhead_31 : decode cX10_isAhead 31 = .ok (.goto 27, 3) := by decide +kernel
theorem dX10_isAhead_34 : decode cX10_isAhead 34 = .ok (.iconst 0, 1) := by decide +kernel
theorem dX10_isAhead_35 : decode cX10_isAhead 35 = .ok (.goto 23, 3) := by decide +kernel
theorem dX10_isAhead_38 : decode cX10_isAhead 38 = .ok (.aload_n 0, 1) := by decide +kernel
theorem dX10_isAhead_39 : decode cX10_isAhead 39 = .ok (.getfield 40, 3) := by decide +kernel
theorem dX10_isAhead_42 : decode cX10_isAhead 42 = .ok (.iload_n 1, 1) := by decide +kernel
theorem dX10_isAhead_43 : decode cX10_isAhead 43 = .ok (.iaload, 1) := by decide +kernel
theorem dX10_isAhead_44 : decode cX10_isAhead 44 = .ok (.aload_n 0, 1) := by decide +kernel
theorem dX10_isAhead_45 : decode cX10_isAhead 45 = .ok (.getfield 40, 3) := by decide +kernel
theorem dX10_isAhead_48 : decode cX10_isAhead 48 = .ok (.iload_n 2, 1) := by decide +kernel
theorem dX10_isAhead_49 : decode cX10_isAhead 49 = .ok (.iaload, 1) := by decide +kernel
theorem dX10_isAhead_50 : decode cX10_isAhead 50 = .ok (.if_icmp .ge 7, 3) := by decide +kernel
theorem dX10_isAhead_53 : decode cX10_isAhead 53 = .ok (.iconst 1, 1) := by decide +kernel
theorem dX10_isAhead_54 : decode cX10_isAhead 54 = .ok (.goto 4, 3) := by decide +kernel
theorem dX10_isAhead_57 : decode cX10_isAhead 57 = .ok (.iconst 0, 1) := by decide +kernel
theorem dX10_isAhead_58 : decode cX10_isAhead 58 = .ok (.ireturn, 1) := by decide +kernel
theorem dX10_passes_0 : decode cX10_passes 0 = .ok (.iconst 1, 1) := by decide +kernel
theorem dX10_passes_1 : decode cX10_passes 1 = .ok (.istore_n 1, 1) := by decide +kernel
theorem dX10_passes_2 : decode cX10_passes 2 = .ok (.iload_n 1, 1) := by decide +kernel
theorem dX10_passes_3 : decode cX10_passes 3 = .ok (.ifCond .eq 84, 3) := by decide +kernel
theorem dX10_passes_6 : decode cX10_passes 6 = .ok (.iconst (-1), 1) := by decide +kernel
theorem dX10_passes_7 : decode cX10_passes 7 = .ok (.istore_n 2, 1) := by decide +kernel
theorem dX10_passes_8 : decode cX10_passes 8 = .ok (.iconst 0, 1) := by decide +kernel
theorem dX10_passes_9 : decode cX10_passes 9 = .ok (.istore_n 3, 1) := by decide +kernel
end
section
theorem dX10_passes_10 : decode cX10_passes 10 = .ok (.iload_n 3, 1) := by decide +kernel
theorem dX10_passes_11 : decode cX10_passes 11 = .ok (.aload_n 0, 1) := by decide +kernel
theorem dX10_passes_12 : decode cX10_passes 12 = .ok (.getfield 91, 3) := by decide +kernel
theorem dX10_passes_15 : decode cX10_passes 15 = .ok (.if_icmp .ge 45, 3) := by decide +kernel
theorem dX10_passes_18 : decode cX10_passes 18 = .ok (.aload_n 0, 1) := by decide +kernel
theorem dX10_passes_19 : decode cX10_passes 19 = .ok (.getfield 40, 3) := by decide +kernel
theorem dX10_passes_22 : decode cX10_passes 22 = .ok (.iload_n 3, 1) := by decide +kernel
theorem dX10_passes_23 : decode cX10_passes 23 = .ok (.iaload, 1) := by decide +kernel
theorem dX10_passes_24 : decode cX10_passes 24 = .ok (.ifCond .lt 28, 3) := by decide +kernel
theorem dX10_passes_27 : decode cX10_passes 27 = .ok (.aload_n 0, 1) := by decide +kernel
theorem dX10_passes_28 : decode cX10_passes 28 = .ok (.iload_n 3, 1) := by decide +kernel
theorem dX10_passes_29 : decode cX10_passes 29 = .ok (.invokevirtual 162, 3) := by decide +kernel
theorem dX10_passes_32 : decode cX10_passes 32 = .ok (.ifCond .lt 20, 3) := by decide +kernel
theorem dX10_passes_35 : decode cX10_passes 35 = .ok (.iload_n 2, 1) := by decide +kernel
theorem dX10_passes_36 : decode cX10_passes 36 = .ok (.ifCond .lt 12, 3) := by decide +kernel
theorem dX10_passes_39 : decode cX10_passes 39 = .ok (.aload_n 0, 1) := by decide +kernel
theorem dX10_passes_40 : decode cX10_passes 40 = .ok (.iload_n 3, 1) := by decide +kernel
theorem dX10_passes_41 : decode cX10_passes 41 = .ok (.iload_n 2, 1) := by decide +kernel
theorem dX10_passes_42 : decode cX10_passes 42 = .ok (.invokevirtual 165, 3) := by decide +kernel
theorem dX10_passes_45 : decode cX10_passes 45 = .ok (.ifCond .eq 7, 3) := by decide +kernel
theorem dX10_passes_48 : decode cX10_passes 48 = .ok (.iload_n 3, 1) := by decide +kernel
theorem dX10_passes_49 : decode cX10_passes 49 = .ok (.goto 4, 3) := by decide +kernel
theorem dX10_passes_52 : decode cX10_passes 52 = .ok (.iload_n 2, 1) := by decide +kernel
theorem dX10_passes_53 : decode cX10_passes 53 = .ok (.istore_n 2, 1) := by decide +kernel
theorem dX10_passes_54 : decode cX10_passes 54 = .ok (.iinc 3 1, 3) := by decide +kernel
theorem dX10_passes_57 : decode cX10_passes 57 = .ok (.goto (-47), 3) := by decide +kernel
theorem dX10_passes_60 : decode cX10_passes 60 = .ok (.iload_n 2, 1) := by decide +kernel
theorem dX10_passes_61 : decode cX10_passes 61 = .ok (.ifCond .lt 7, 3) := by decide +kernel
theorem dX10_passes_64 : decode cX10_passes 64 = .ok (.iconst 1, 1) := by decide +kernel
theorem dX10_passes_65 : decode cX10_passes 65 = .ok (.goto 4, 3) := by decide +kernel
theorem dX10_passes_68 : decode cX10_passes 68 = .ok (.iconst 0, 1) := by decide +kernel
theorem dX10_passes_69 : decode cX10_passes 69 = .ok (.istore_n 1, 1) := by decide +kernel
theorem dX10_passes_70 : decode cX10_passes 70 = .ok (.iload_n 1, 1) := by decide +kernel
theorem dX10_passes_71 : decode cX10_passes 71 = .ok (.ifCond .eq 13, 3) := by decide +kernel
theorem dX10_passes_74 : decode cX10_passes 74 = .ok (.aload_n 0, 1) := by decide +kernel
theorem dX10_passes_75 : decode cX10_passes 75 = .ok (.aload_n 0, 1) := by decide +kernel
theorem dX10_passes_76 : decode cX10_passes 76 = .ok (.iload_n 2, 1) := by decide +kernel
theorem dX10_passes_77 : decode cX10_passes 77 = .ok (.invokevirtual 162, 3) := by decide +kernel
theorem dX10_passes_80 : decode cX10_passes 80 = .ok (.iload_n 2, 1) := by decide +kernel
theorem dX10_passes_81 : decode cX10_passes 81 = .ok (.invokevirtual 168, 3) := by decide +kernel
theorem dX10_passes_84 : decode cX10_passes 84 = .ok (.goto (-82), 3) := by decide +kernel
theorem dX10_passes_87 : decode cX10_passes 87 = .ok (.iconst 0, 1) := by decide +kernel
theorem dX10_passes_88 : decode cX10_passes 88 = .ok (.istore_n 2, 1) := by decide +kernel
theorem dX10_passes_89 : decode cX10_passes 89 = .ok (.iload_n 2, 1) := by decide +kernel
theorem dX10_passes_90 : decode cX10_passes 90 = .ok (.bipush 8, 2) := by decide +kernel
theorem dX10_passes_92 : decode cX10_passes 92 = .ok (.if_icmp .ge 32, 3) := by decide +kernel
theorem dX10_passes_95 : decode cX10_passes 95 = .ok (.aload_n 0, 1) := by decide +kernel
theorem dX10_passes_96 : decode cX10_passes 96 = .ok (.getfield 70, 3) := by decide +kernel
theorem dX10_passes_99 : decode cX10_passes 99 = .ok (.iload_n 2, 1) := by decide +kernel
theorem dX10_passes_100 : decode cX10_passes 100 = .ok (.dup2, 1) := by decide +kernel
theorem dX10_passes_101 : decode cX10_passes 101 = .ok (.iaload, 1) := by decide +kernel
theorem dX10_passes_102 : decode cX10_passes 102 = .ok (.aload_n 0, 1) := by decide +kernel
theorem dX10_passes_103 : decode cX10_passes 103 = .ok (.getfield 70, 3) := by decide +kernel
theorem dX10_passes_106 : decode cX10_passes 106 = .ok (.iload_n 2, 1) := by decide +kernel
theorem dX10_passes_107 : decode cX10_passes 107 = .ok (.iaload, 1) := by decide +kernel
theorem dX10_passes_108 : decode cX10_passes 108 = .ok (.ifCond .le 7, 3) := by decide +kernel
theorem dX10_passes_111 : decode cX10_passes 111 = .ok (.iconst 1, 1) := by decide +kernel
theorem dX10_passes_112 : decode cX10_passes 112 = .ok (.goto 4, 3) := by decide +kernel
theorem dX10_passes_115 : decode cX10_passes 115 = .ok (.iconst 0, 1) := by decide +kernel
theorem dX10_passes_116 : decode cX10_passes 116 = .ok (.isub, 1) := by decide +kernel
theorem dX10_passes_117 : decode cX10_passes 117 = .ok (.iastore, 1) := by decide +kernel
theorem dX10_passes_118 : decode cX10_passes 118 = .ok (.iinc 2 1, 3) := by decide +kernel
theorem dX10_passes_121 : decode cX10_passes 121 = .ok (.goto (-32), 3) := by decide +kernel
theorem dX10_passes_124 : decode cX10_passes 124 = .ok (.aload_n 0, 1) := by decide +kernel
theorem dX10_passes_125 : decode cX10_passes 125 = .ok (.dup, 1) := by decide +kernel
theorem dX10_passes_126 : decode cX10_passes 126 = .ok (.getfield 144, 3) := by decide +kernel
theorem dX10_passes_129 : decode cX10_passes 129 = .ok (.iconst 1, 1) := by decide +kernel
theorem dX10_passes_130 : decode cX10_passes 130 = .ok (.iadd, 1) := by decide +kernel
theorem dX10_passes_131 : decode cX10_passes 131 = .ok (.putfield 144, 3) := by decide +kernel
theorem dX10_passes_134 : decode cX10_passes 134 = .ok (.aload_n 0, 1) := by decide +kernel
theorem dX10_passes_135 : decode cX10_passes 135 = .ok (.invokevirtual 172, 3) := by decide +kernel
theorem dX10_passes_138 : decode cX10_passes 138 = .ok (.return_, 1) := by decide +kernel
theorem dX10_ticks_0 : decode cX10_ticks 0 = .ok (.iload_n 1, 1) := by decide +kernel
theorem dX10_ticks_1 : decode cX10_ticks 1 = .ok (.iconst 1, 1) := by decide +kernel
theorem dX10_ticks_2 : decode cX10_ticks 2 = .ok (.sipush 200, 3) := by decide +kernel
theorem dX10_ticks_5 : decode cX10_ticks 5 = .ok (.invokestatic 95, 3) := by decide +kernel
theorem dX10_ticks_8 : decode cX10_ticks 8 = .ok (.ifCond .ne 5, 3) := by decide +kernel
theorem dX10_ticks_11 : decode cX10_ticks 11 = .ok (.iconst (-1), 1) := by decide +kernel
theorem dX10_ticks_12 : decode cX10_ticks 12 = .ok (.ireturn, 1) := by decide +kernel
theorem dX10_ticks_13 : decode cX10_ticks 13 = .ok (.aload_n 0, 1) := by decide +kernel
theorem dX10_ticks_14 : decode cX10_ticks 14 = .ok (.getfield 144, 3) := by decide +kernel
theorem dX10_ticks_17 : decode cX10_ticks 17 = .ok (.iload_n 1, 1) := by decide +kernel
theorem dX10_ticks_18 : decode cX10_ticks 18 = .ok (.iadd, 1) := by decide +kernel
theorem dX10_ticks_19 : decode cX10_ticks 19 = .ok (.sipush 5000, 3) := by decide +kernel
theorem dX10_ticks_22 : decode cX10_ticks 22 = .ok (.if_icmp .le 6, 3) := by decide +kernel
theorem dX10_ticks_25 : decode cX10_ticks 25 = .ok (.bipush (-3), 2) := by decide +kernel
theorem dX10_ticks_27 : decode cX10_ticks 27 = .ok (.ireturn, 1) := by decide +kernel
theorem dX10_ticks_28 : decode cX10_ticks 28 = .ok (.iconst 0, 1) := by decide +kernel
theorem dX10_ticks_29 : decode cX10_ticks 29 = .ok (.istore_n 2, 1) := by decide +kernel
theorem dX10_ticks_30 : decode cX10_ticks 30 = .ok (.iload_n 2, 1) := by decide +kernel
theorem dX10_ticks_31 : decode cX10_ticks 31 = .ok (.iload_n 1, 1) := by decide +kernel
theorem dX10_ticks_32 : decode cX10_ticks 32 = .ok (.if_icmp .ge 13, 3) := by decide +kernel
theorem dX10_ticks_35 : decode cX10_ticks 35 = .ok (.aload_n 0, 1) := by decide +kernel
theorem dX10_ticks_36 : decode cX10_ticks 36 = .ok (.invokevirtual 175, 3) := by decide +kernel
theorem dX10_ticks_39 : decode cX10_ticks 39 = .ok (.iinc 2 1, 3) := by decide +kernel
theorem dX10_ticks_42 : decode cX10_ticks 42 = .ok (.goto (-12), 3) := by decide +kernel
theorem dX10_ticks_45 : decode cX10_ticks 45 = .ok (.aload_n 0, 1) := by decide +kernel
theorem dX10_ticks_46 : decode cX10_ticks 46 = .ok (.getfield 144, 3) := by decide +kernel
theorem dX10_ticks_49 : decode cX10_ticks 49 = .ok (.ireturn, 1) := by decide +kernel
theorem dX10_takeBack_0 : decode cX10_takeBack 0 = .ok (.aload_n 0, 1) := by decide +kernel
theorem dX10_takeBack_1 : decode cX10_takeBack 1 = .ok (.iload_n 1, 1) := by decide +kernel
theorem dX10_takeBack_2 : decode cX10_takeBack 2 = .ok (.invokevirtual 128, 3) := by decide +kernel
theorem dX10_takeBack_5 : decode cX10_takeBack 5 = .ok (.ifCond .ne 5, 3) := by decide +kernel
theorem dX10_takeBack_8 : decode cX10_takeBack 8 = .ok (.iconst (-1), 1) := by decide +kernel
theorem dX10_takeBack_9 : decode cX10_takeBack 9 = .ok (.ireturn, 1) := by decide +kernel
theorem dX10_takeBack_10 : decode cX10_takeBack 10 = .ok (.aload_n 0, 1) := by decide +kernel
theorem dX10_takeBack_11 : decode cX10_takeBack 11 = .ok (.getfield 40, 3) := by decide +kernel
theorem dX10_takeBack_14 : decode cX10_takeBack 14 = .ok (.iload_n 1, 1) := by decide +kernel
theorem dX10_takeBack_15 : decode cX10_takeBack 15 = .ok (.iaload, 1) := by decide +kernel
theorem dX10_takeBack_16 : decode cX10_takeBack 16 = .ok (.ifCond .ge 6, 3) := by decide +kernel
theorem dX10_takeBack_19 : decode cX10_takeBack 19 = .ok (.bipush (-2), 2) := by decide +kernel
theorem dX10_takeBack_21 : decode cX10_takeBack 21 = .ok (.ireturn, 1) := by decide +kernel
theorem dX10_takeBack_22 : decode cX10_takeBack 22 = .ok (.aload_n 0, 1) := by decide +kernel
theorem dX10_takeBack_23 : decode cX10_takeBack 23 = .ok (.getfield 144, 3) := by decide +kernel
theorem dX10_takeBack_26 : decode cX10_takeBack 26 = .ok (.aload_n 0, 1) := by decide +kernel
theorem dX10_takeBack_27 : decode cX10_takeBack 27 = .ok (.getfield 40, 3) := by decide +kernel
theorem dX10_takeBack_30 : decode cX10_takeBack 30 = .ok (.iload_n 1, 1) := by decide +kernel
theorem dX10_takeBack_31 : decode cX10_takeBack 31 = .ok (.iaload, 1) := by decide +kernel
theorem dX10_takeBack_32 : decode cX10_takeBack 32 = .ok (.isub, 1) := by decide +kernel
theorem dX10_takeBack_33 : decode cX10_takeBack 33 = .ok (.istore_n 2, 1) := by decide +kernel
theorem dX10_takeBack_34 : decode cX10_takeBack 34 = .ok (.aload_n 0, 1) := by decide +kernel
theorem dX10_takeBack_35 : decode cX10_takeBack 35 = .ok (.getfield 40, 3) := by decide +kernel
theorem dX10_takeBack_38 : decode cX10_takeBack 38 = .ok (.iload_n 1, 1) := by decide +kernel
theorem dX10_takeBack_39 : decode cX10_takeBack 39 = .ok (.iconst (-1), 1) := by decide +kernel
theorem dX10_takeBack_40 : decode cX10_takeBack 40 = .ok (.iastore, 1) := by decide +kernel
theorem dX10_takeBack_41 : decode cX10_takeBack 41 = .ok (.aload_n 0, 1) := by decide +kernel
theorem dX10_takeBack_42 : decode cX10_takeBack 42 = .ok (.dup, 1) := by decide +kernel
theorem dX10_takeBack_43 : decode cX10_takeBack 43 = .ok (.getfield 178, 3) := by decide +kernel
theorem dX10_takeBack_46 : decode cX10_takeBack 46 = .ok (.iconst 1, 1) := by decide +kernel
theorem dX10_takeBack_47 : decode cX10_takeBack 47 = .ok (.iadd, 1) := by decide +kernel
theorem dX10_takeBack_48 : decode cX10_takeBack 48 = .ok (.putfield 178, 3) := by decide +kernel
theorem dX10_takeBack_51 : decode cX10_takeBack 51 = .ok (.iload_n 2, 1) := by decide +kernel
theorem dX10_takeBack_52 : decode cX10_takeBack 52 = .ok (.ireturn, 1) := by decide +kernel
theorem dX10_flags_0 : decode cX10_flags 0 = .ok (.iload_n 1, 1) := by decide +kernel
theorem dX10_flags_1 : decode cX10_flags 1 = .ok (.iconst 0, 1) := by decide +kernel
theorem dX10_flags_2 : decode cX10_flags 2 = .ok (.iconst 1, 1) := by decide +kernel
theorem dX10_flags_3 : decode cX10_flags 3 = .ok (.aload_n 0, 1) := by decide +kernel
theorem dX10_flags_4 : decode cX10_flags 4 = .ok (.getfield 91, 3) := by decide +kernel
theorem dX10_flags_7 : decode cX10_flags 7 = .ok (.ishl, 1) := by decide +kernel
theorem dX10_flags_8 : decode cX10_flags 8 = .ok (.iconst 1, 1) := by decide +kernel
theorem dX10_flags_9 : decode cX10_flags 9 = .ok (.isub, 1) := by decide +kernel
theorem dX10_flags_10 : decode cX10_flags 10 = .ok (.invokestatic 95, 3) := by decide +kernel
theorem dX10_flags_13 : decode cX10_flags 13 = .ok (.ifCond .ne 5, 3) := by decide +kernel
theorem dX10_flags_16 : decode cX10_flags 16 = .ok (.iconst (-1), 1) := by decide +kernel
theorem dX10_flags_17 : decode cX10_flags 17 = .ok (.ireturn, 1) := by decide +kernel
theorem dX10_flags_18 : decode cX10_flags 18 = .ok (.aload_n 0, 1) := by decide +kernel
theorem dX10_flags_19 : decode cX10_flags 19 = .ok (.getfield 153, 3) := by decide +kernel
theorem dX10_flags_22 : decode cX10_flags 22 = .ok (.iload_n 1, 1) := by decide +kernel
theorem dX10_flags_23 : decode cX10_flags 23 = .ok (.iand, 1) := by decide +kernel
theorem dX10_flags_24 : decode cX10_flags 24 = .ok (.istore_n 2, 1) := by decide +kernel
theorem dX10_flags_25 : decode cX10_flags 25 = .ok (.aload_n 0, 1) := by decide +kernel
theorem dX10_flags_26 : decode cX10_flags 26 = .ok (.dup, 1) := by decide +kernel
theorem dX10_flags_27 : decode cX10_flags 27 = .ok (.getfield 153, 3) := by decide +kernel
theorem dX10_flags_30 : decode cX10_flags 30 = .ok (.iload_n 1, 1) := by decide +kernel
theorem dX10_flags_31 : decode cX10_flags 31 = .ok (.iconst (-1), 1) := by decide +kernel
theorem dX10_flags_32 : decode cX10_flags 32 = .ok (.ixor, 1) := by decide +kernel
theorem dX10_flags_33 : decode cX10_flags 33 = .ok (.iand, 1) := by decide +kernel
theorem dX10_flags_34 : decode cX10_flags 34 = .ok (.putfield 153, 3) := by decide +kernel
theorem dX10_flags_37 : decode cX10_flags 37 = .ok (.iload_n 2, 1) := by decide +kernel
theorem dX10_flags_38 : decode cX10_flags 38 = .ok (.ireturn, 1) := by decide +kernel
theorem dX10_about_0 : decode cX10_about 0 = .ok (.aload_n 0, 1) := by decide +kernel
theorem dX10_about_1 : decode cX10_about 1 = .ok (.iload_n 1, 1) := by decide +kernel
theorem dX10_about_2 : decode cX10_about 2 = .ok (.invokevirtual 128, 3) := by decide +kernel
theorem dX10_about_5 : decode cX10_about 5 = .ok (.ifCond .eq 12, 3) := by decide +kernel
theorem dX10_about_8 : decode cX10_about 8 = .ok (.iload_n 2, 1) := by decide +kernel
theorem dX10_about_9 : decode cX10_about 9 = .ok (.iconst 0, 1) := by decide +kernel
theorem dX10_about_10 : decode cX10_about 10 = .ok (.iconst 4, 1) := by decide +kernel
theorem dX10_about_11 : decode cX10_about 11 = .ok (.invokestatic 95, 3) := by decide +kernel
theorem dX10_about_14 : decode cX10_about 14 = .ok (.ifCond .ne 5, 3) := by decide +kernel
theorem dX10_about_17 : decode cX10_about 17 = .ok (.iconst (-1), 1) := by decide +kernel
theorem dX10_about_18 : decode cX10_about 18 = .ok (.ireturn, 1) := by decide +kernel
theorem dX10_about_19 : decode cX10_about 19 = .ok (.iload_n 2, 1) := by decide +kernel
theorem dX10_about_20 : decode cX10_about 20 = .ok (.tableswitch 82 0 3 #[32, 59, 68, 75], 32) := by decide +kernel
theorem dX10_about_52 : decode cX10_about 52 = .ok (.aload_n 0, 1) := by decide +kernel
theorem dX10_about_53 : decode cX10_about 53 = .ok (.getfield 40, 3) := by decide +kernel
theorem dX10_about_56 : decode cX10_about 56 = .ok (.iload_n 1, 1) := by decide +kernel
theorem dX10_about_57 : decode cX10_about 57 = .ok (.iaload, 1) := by decide +kernel
theorem dX10_about_58 : decode cX10_about 58 = .ok (.ifCond .lt 7, 3) := by decide +kernel
theorem dX10_about_61 : decode cX10_about 61 = .ok (.iconst 1, 1) := by decide +kernel
theorem dX10_about_62 : decode cX10_about 62 = .ok (.goto 16, 3) := by decide +kernel
theorem dX10_about_65 : decode cX10_about 65 = .ok (.aload_n 0, 1) := by decide +kernel
theorem dX10_about_66 : decode cX10_about 66 = .ok (.iload_n 1, 1) := by decide +kernel
theorem dX10_about_67 : decode cX10_about 67 = .ok (.invokevirtual 156, 3) := by decide +kernel
theorem dX10_about_70 : decode cX10_about 70 = .ok (.ifCond .eq 7, 3) := by decide +kernel
theorem dX10_about_73 : decode cX10_about 73 = .ok (.iconst 2, 1) := by decide +kernel
theorem dX10_about_74 : decode cX10_about 74 = .ok (.goto 4, 3) := by decide +kernel
theorem dX10_about_77 : decode cX10_about 77 = .ok (.iconst 0, 1) := by decide +kernel
theorem dX10_about_78 : decode cX10_about 78 = .ok (.ireturn, 1) := by decide +kernel
theorem dX10_about_79 : decode cX10_about 79 = .ok (.aload_n 0, 1) := by decide +kernel
theorem dX10_about_80 : decode cX10_about 80 = .ok (.getfield 153, 3) := by decide +kernel
theorem dX10_about_83 : decode cX10_about 83 = .ok (.iload_n 1, 1) := by decide +kernel
theorem dX10_about_84 : decode cX10_about 84 = .ok (.ishr, 1) := by decide +kernel
theorem dX10_about_85 : decode cX10_about 85 = .ok (.iconst 1, 1) := by decide +kernel
theorem dX10_about_86 : decode cX10_about 86 = .ok (.iand, 1) := by decide +kernel
theorem dX10_about_87 : decode cX10_about 87 = .ok (.ireturn, 1) := by decide +kernel
theorem dX10_about_88 : decode cX10_about 88 = .ok (.aload_n 0, 1) := by decide +kernel
theorem dX10_about_89 : decode cX10_about 89 = .ok (.getfield 43, 3) := by decide +kernel
theorem dX10_about_92 : decode cX10_about 92 = .ok (.iload_n 1, 1) := by decide +kernel
theorem dX10_about_93 : decode cX10_about 93 = .ok (.iaload, 1) := by decide +kernel
theorem dX10_about_94 : decode cX10_about 94 = .ok (.ireturn, 1) := by decide +kernel
theorem dX10_about_95 : decode cX10_about 95 = .ok (.aload_n 0, 1) := by decide +kernel
theorem dX10_about_96 : decode cX10_about 96 = .ok (.getfield 46, 3) := by decide +kernel
theorem dX10_about_99 : decode cX10_about 99 = .ok (.iload_n 1, 1) := by decide +kernel
theorem dX10_about_100 : decode cX10_about 100 = .ok (.iaload, 1) := by decide +kernel
theorem dX10_about_101 : decode cX10_about 101 = .ok (.ireturn, 1) := by decide +kernel
theorem dX10_about_102 : decode cX10_about 102 = .ok (.aload_n 0, 1) := by decide +kernel
theorem dX10_about_103 : decode cX10_about 103 = .ok (.getfield 49, 3) := by decide +kernel
theorem dX10_about_106 : decode cX10_about 106 = .ok (.iload_n 1, 1) := by decide +kernel
theorem dX10_about_107 : decode cX10_about 107 = .ok (.iaload, 1) := by decide +kernel
theorem dX10_about_108 : decode cX10_about 108 = .ok (.ireturn, 1) := by decide +kernel
theorem dX10_servantTold_0 : decode cX10_servantTold 0 = .ok (.aload_n 0, 1) := by decide +kernel
theorem dX10_servantTold_1 : decode cX10_servantTold 1 = .ok (.iload_n 1, 1) := by decide +kernel
theorem dX10_servantTold_2 : decode cX10_servantTold 2 = .ok (.invokevirtual 181, 3) := by decide +kernel
theorem dX10_servantTold_5 : decode cX10_servantTold 5 = .ok (.ifCond .eq 12, 3) := by decide +kernel
theorem dX10_servantTold_8 : decode cX10_servantTold 8 = .ok (.iload_n 2, 1) := by decide +kernel
theorem dX10_servantTold_9 : decode cX10_servantTold 9 = .ok (.iconst 0, 1) := by decide +kernel
theorem dX10_servantTold_10 : decode cX10_servantTold 10 = .ok (.iconst 4, 1) := by decide +kernel
theorem dX10_servantTold_11 : decode cX10_servantTold 11 = .ok (.invokestatic 95, 3) := by decide +kernel
theorem dX10_servantTold_14 : decode cX10_servantTold 14 = .ok (.ifCond .ne 5, 3) := by decide +kernel
theorem dX10_servantTold_17 : decode cX10_servantTold 17 = .ok (.iconst (-1), 1) := by decide +kernel
theorem dX10_servantTold_18 : decode cX10_servantTold 18 = .ok (.ireturn, 1) := by decide +kernel
theorem dX10_servantTold_19 : decode cX10_servantTold 19 = .ok (.iload_n 2, 1) := by decide +kernel
theorem dX10_servantTold_20 : decode cX10_servantTold 20 = .ok (.tableswitch 78 0 3 #[32, 39, 46, 53], 32) := by decide +kernel
theorem dX10_servantTold_52 : decode cX10_servantTold 52 = .ok (.aload_n 0, 1) := by decide +kernel
theorem dX10_servantTold_53 : decode cX10_servantTold 53 = .ok (.getfield 52, 3) := by decide +kernel
theorem dX10_servantTold_56 : decode cX10_servantTold 56 = .ok (.iload_n 1, 1) := by decide +kernel
theorem dX10_servantTold_57 : decode cX10_servantTold 57 = .ok (.iaload, 1) := by decide +kernel
theorem dX10_servantTold_58 : decode cX10_servantTold 58 = .ok (.ireturn, 1) := by decide +kernel
theorem dX10_servantTold_59 : decode cX10_servantTold 59 = .ok (.aload_n 0, 1) := by decide +kernel
theorem dX10_servantTold_60 : decode cX10_servantTold 60 = .ok (.getfield 55, 3) := by decide +kernel
theorem dX10_servantTold_63 : decode cX10_servantTold 63 = .ok (.iload_n 1, 1) := by decide +kernel
theorem dX10_servantTold_64 : decode cX10_servantTold 64 = .ok (.iaload, 1) := by decide +kernel
theorem dX10_servantTold_65 : decode cX10_servantTold 65 = .ok (.ireturn, 1) := by decide +kernel
theorem dX10_servantTold_66 : decode cX10_servantTold 66 = .ok (.aload_n 0, 1) := by decide +kernel
theorem dX10_servantTold_67 : decode cX10_servantTold 67 = .ok (.getfield 61, 3) := by decide +kernel
theorem dX10_servantTold_70 : decode cX10_servantTold 70 = .ok (.iload_n 1, 1) := by decide +kernel
theorem dX10_servantTold_71 : decode cX10_servantTold 71 = .ok (.iaload, 1) := by decide +kernel
theorem dX10_servantTold_72 : decode cX10_servantTold 72 = .ok (.ireturn, 1) := by decide +kernel
theorem dX10_servantTold_73 : decode cX10_servantTold 73 = .ok (.aload_n 0, 1) := by decide +kernel
theorem dX10_servantTold_74 : decode cX10_servantTold 74 = .ok (.getfield 61, 3) := by decide +kernel
theorem dX10_servantTold_77 : decode cX10_servantTold 77 = .ok (.iload_n 1, 1) := by decide +kernel
theorem dX10_servantTold_78 : decode cX10_servantTold 78 = .ok (.iaload, 1) := by decide +kernel
theorem dX10_servantTold_79 : decode cX10_servantTold 79 = .ok (.ifCond .ge 7, 3) := by decide +kernel
theorem dX10_servantTold_82 : decode cX10_servantTold 82 = .ok (.iconst 0, 1) := by decide +kernel
theorem dX10_servantTold_83 : decode cX10_servantTold 83 = .ok (.goto 14, 3) := by decide +kernel
theorem dX10_servantTold_86 : decode cX10_servantTold 86 = .ok (.aload_n 0, 1) := by decide +kernel
theorem dX10_servantTold_87 : decode cX10_servantTold 87 = .ok (.getfield 64, 3) := by decide +kernel
theorem dX10_servantTold_90 : decode cX10_servantTold 90 = .ok (.iload_n 1, 1) := by decide +kernel
theorem dX10_servantTold_91 : decode cX10_servantTold 91 = .ok (.iaload, 1) := by decide +kernel
theorem dX10_servantTold_92 : decode cX10_servantTold 92 = .ok (.aload_n 0, 1) := by decide +kernel
theorem dX10_servantTold_93 : decode cX10_servantTold 93 = .ok (.getfield 144, 3) := by decide +kernel
theorem dX10_servantTold_96 : decode cX10_servantTold 96 = .ok (.isub, 1) := by decide +kernel
theorem dX10_servantTold_97 : decode cX10_servantTold 97 = .ok (.ireturn, 1) := by decide +kernel
theorem dX10_servantTold_98 : decode cX10_servantTold 98 = .ok (.aload_n 0, 1) := by decide +kernel
theorem dX10_servantTold_99 : decode cX10_servantTold 99 = .ok (.getfield 67, 3) := by decide +kernel
theorem dX10_servantTold_102 : decode cX10_servantTold 102 = .ok (.iload_n 1, 1) := by decide +kernel
theorem dX10_servantTold_103 : decode cX10_servantTold 103 = .ok (.iaload, 1) := by decide +kernel
theorem dX10_servantTold_104 : decode cX10_servantTold 104 = .ok (.ireturn, 1) := by decide +kernel
theorem dX10_way_0 : decode cX10_way 0 = .ok (.aload_n 0, 1) := by decide +kernel
theorem dX10_way_1 : decode cX10_way 1 = .ok (.iload_n 1, 1) := by decide +kernel
theorem dX10_way_2 : decode cX10_way 2 = .ok (.invokevirtual 181, 3) := by decide +kernel
theorem dX10_way_5 : decode cX10_way 5 = .ok (.ifCond .eq 20, 3) := by decide +kernel
theorem dX10_way_8 : decode cX10_way 8 = .ok (.aload_n 0, 1) := by decide +kernel
theorem dX10_way_9 : decode cX10_way 9 = .ok (.iload_n 2, 1) := by decide +kernel
theorem dX10_way_10 : decode cX10_way 10 = .ok (.invokevirtual 128, 3) := by decide +kernel
theorem dX10_way_13 : decode cX10_way 13 = .ok (.ifCond .eq 12, 3) := by decide +kernel
theorem dX10_way_16 : decode cX10_way 16 = .ok (.aload_n 0, 1) := by decide +kernel
theorem dX10_way_17 : decode cX10_way 17 = .ok (.iload_n 1, 1) := by decide +kernel
theorem dX10_way_18 : decode cX10_way 18 = .ok (.iload_n 2, 1) := by decide +kernel
theorem dX10_way_19 : decode cX10_way 19 = .ok (.invokevirtual 150, 3) := by decide +kernel
theorem dX10_way_22 : decode cX10_way 22 = .ok (.goto 4, 3) := by decide +kernel
theorem dX10_way_25 : decode cX10_way 25 = .ok (.iconst (-1), 1) := by decide +kernel
theorem dX10_way_26 : decode cX10_way 26 = .ok (.ireturn, 1) := by decide +kernel
theorem dX10_swings_0 : decode cX10_swings 0 = .ok (.iload_n 1, 1) := by decide +kernel
theorem dX10_swings_1 : decode cX10_swings 1 = .ok (.iconst (-1), 1) := by decide +kernel
theorem dX10_swings_2 : decode cX10_swings 2 = .ok (.bipush 7, 2) := by decide +kernel
theorem dX10_swings_4 : decode cX10_swings 4 = .ok (.invokestatic 95, 3) := by decide +kernel
theorem dX10_swings_7 : decode cX10_swings 7 = .ok (.ifCond .ne 5, 3) := by decide +kernel
theorem dX10_swings_10 : decode cX10_swings 10 = .ok (.iconst (-1), 1) := by decide +kernel
theorem dX10_swings_11 : decode cX10_swings 11 = .ok (.ireturn, 1) := by decide +kernel
theorem dX10_swings_12 : decode cX10_swings 12 = .ok (.iconst 0, 1) := by decide +kernel
theorem dX10_swings_13 : decode cX10_swings 13 = .ok (.istore_n 2, 1) := by decide +kernel
theorem dX10_swings_14 : decode cX10_swings 14 = .ok (.iconst 0, 1) := by decide +kernel
theorem dX10_swings_15 : decode cX10_swings 15 = .ok (.istore_n 3, 1) := by decide +kernel
theorem dX10_swings_16 : decode cX10_swings 16 = .ok (.iload_n 3, 1) := by decide +kernel
theorem dX10_swings_17 : decode cX10_swings 17 = .ok (.bipush 8, 2) := by decide +kernel
theorem dX10_swings_19 : decode cX10_swings 19 = .ok (.if_icmp .ge 28, 3) := by decide +kernel
theorem dX10_swings_22 : decode cX10_swings 22 = .ok (.iload_n 2, 1) := by decide +kernel
theorem dX10_swings_23 : decode cX10_swings 23 = .ok (.aload_n 0, 1) := by decide +kernel
theorem dX10_swings_24 : decode cX10_swings 24 = .ok (.getfield 70, 3) := by decide +kernel
theorem dX10_swings_27 : decode cX10_swings 27 = .ok (.iload_n 3, 1) := by decide +kernel
theorem dX10_swings_28 : decode cX10_swings 28 = .ok (.iaload, 1) := by decide +kernel
theorem dX10_swings_29 : decode cX10_swings 29 = .ok (.ifCond .le 9, 3) := by decide +kernel
theorem dX10_swings_32 : decode cX10_swings 32 = .ok (.iconst 1, 1) := by decide +kernel
theorem dX10_swings_33 : decode cX10_swings 33 = .ok (.iload_n 3, 1) := by decide +kernel
theorem dX10_swings_34 : decode cX10_swings 34 = .ok (.ishl, 1) := by decide +kernel
theorem dX10_swings_35 : decode cX10_swings 35 = .ok (.goto 4, 3) := by decide +kernel
theorem dX10_swings_38 : decode cX10_swings 38 = .ok (.iconst 0, 1) := by decide +kernel
theorem dX10_swings_39 : decode cX10_swings 39 = .ok (.ior, 1) := by decide +kernel
theorem dX10_swings_40 : decode cX10_swings 40 = .ok (.istore_n 2, 1) := by decide +kernel
theorem dX10_swings_41 : decode cX10_swings 41 = .ok (.iinc 3 1, 3) := by decide +kernel
theorem dX10_swings_44 : decode cX10_swings 44 = .ok (.goto (-28), 3) := by decide +kernel
theorem dX10_swings_47 : decode cX10_swings 47 = .ok (.iload_n 1, 1) := by decide +kernel
theorem dX10_swings_48 : decode cX10_swings 48 = .ok (.ifCond .ge 7, 3) := by decide +kernel
theorem dX10_swings_51 : decode cX10_swings 51 = .ok (.iload_n 2, 1) := by decide +kernel
theorem dX10_swings_52 : decode cX10_swings 52 = .ok (.goto 9, 3) := by decide +kernel
theorem dX10_swings_55 : decode cX10_swings 55 = .ok (.aload_n 0, 1) := by decide +kernel
theorem dX10_swings_56 : decode cX10_swings 56 = .ok (.getfield 70, 3) := by decide +kernel
theorem dX10_swings_59 : decode cX10_swings 59 = .ok (.iload_n 1, 1) := by decide +kernel
theorem dX10_swings_60 : decode cX10_swings 60 = .ok (.iaload, 1) := by decide +kernel
theorem dX10_swings_61 : decode cX10_swings 61 = .ok (.ireturn, 1) := by decide +kernel
theorem dX10_waitingNow_0 : decode cX10_waitingNow 0 = .ok (.iconst 0, 1) := by decide +kernel
theorem dX10_waitingNow_1 : decode cX10_waitingNow 1 = .ok (.istore_n 1, 1) := by decide +kernel
theorem dX10_waitingNow_2 : decode cX10_waitingNow 2 = .ok (.iconst 0, 1) := by decide +kernel
theorem dX10_waitingNow_3 : decode cX10_waitingNow 3 = .ok (.istore_n 2, 1) := by decide +kernel
theorem dX10_waitingNow_4 : decode cX10_waitingNow 4 = .ok (.iload_n 2, 1) := by decide +kernel
theorem dX10_waitingNow_5 : decode cX10_waitingNow 5 = .ok (.aload_n 0, 1) := by decide +kernel
theorem dX10_waitingNow_6 : decode cX10_waitingNow 6 = .ok (.getfield 91, 3) := by decide +kernel
theorem dX10_waitingNow_9 : decode cX10_waitingNow 9 = .ok (.if_icmp .ge 26, 3) := by decide +kernel
theorem dX10_waitingNow_12 : decode cX10_waitingNow 12 = .ok (.iload_n 1, 1) := by decide +kernel
theorem dX10_waitingNow_13 : decode cX10_waitingNow 13 = .ok (.aload_n 0, 1) := by decide +kernel
theorem dX10_waitingNow_14 : decode cX10_waitingNow 14 = .ok (.getfield 40, 3) := by decide +kernel
theorem dX10_waitingNow_17 : decode cX10_waitingNow 17 = .ok (.iload_n 2, 1) := by decide +kernel
theorem dX10_waitingNow_18 : decode cX10_waitingNow 18 = .ok (.iaload, 1) := by decide +kernel
theorem dX10_waitingNow_19 : decode cX10_waitingNow 19 = .ok (.ifCond .lt 7, 3) := by decide +kernel
theorem dX10_waitingNow_22 : decode cX10_waitingNow 22 = .ok (.iconst 1, 1) := by decide +kernel
theorem dX10_waitingNow_23 : decode cX10_waitingNow 23 = .ok (.goto 4, 3) := by decide +kernel
theorem dX10_waitingNow_26 : decode cX10_waitingNow 26 = .ok (.iconst 0, 1) := by decide +kernel
theorem dX10_waitingNow_27 : decode cX10_waitingNow 27 = .ok (.iadd, 1) := by decide +kernel
theorem dX10_waitingNow_28 : decode cX10_waitingNow 28 = .ok (.istore_n 1, 1) := by decide +kernel
theorem dX10_waitingNow_29 : decode cX10_waitingNow 29 = .ok (.iinc 2 1, 3) := by decide +kernel
theorem dX10_waitingNow_32 : decode cX10_waitingNow 32 = .ok (.goto (-28), 3) := by decide +kernel
theorem dX10_waitingNow_35 : decode cX10_waitingNow 35 = .ok (.iload_n 1, 1) := by decide +kernel
theorem dX10_waitingNow_36 : decode cX10_waitingNow 36 = .ok (.ireturn, 1) := by decide +kernel
theorem dX10_shares_0 : decode cX10_shares 0 = .ok (.aload_n 0, 1) := by decide +kernel
theorem dX10_shares_1 : decode cX10_shares 1 = .ok (.iconst 0, 1) := by decide +kernel
theorem dX10_shares_2 : decode cX10_shares 2 = .ok (.putfield 184, 3) := by decide +kernel
theorem dX10_shares_5 : decode cX10_shares 5 = .ok (.iconst 0, 1) := by decide +kernel
theorem dX10_shares_6 : decode cX10_shares 6 = .ok (.istore_n 1, 1) := by decide +kernel
theorem dX10_shares_7 : decode cX10_shares 7 = .ok (.iload_n 1, 1) := by decide +kernel
theorem dX10_shares_8 : decode cX10_shares 8 = .ok (.aload_n 0, 1) := by decide +kernel
theorem dX10_shares_9 : decode cX10_shares 9 = .ok (.getfield 91, 3) := by decide +kernel
theorem dX10_shares_12 : decode cX10_shares 12 = .ok (.if_icmp .ge 38, 3) := by decide +kernel
theorem dX10_shares_15 : decode cX10_shares 15 = .ok (.aload_n 0, 1) := by decide +kernel
theorem dX10_shares_16 : decode cX10_shares 16 = .ok (.getfield 40, 3) := by decide +kernel
theorem dX10_shares_19 : decode cX10_shares 19 = .ok (.iload_n 1, 1) := by decide +kernel
theorem dX10_shares_20 : decode cX10_shares 20 = .ok (.iaload, 1) := by decide +kernel
theorem dX10_shares_21 : decode cX10_shares 21 = .ok (.ifCond .lt 23, 3) := by decide +kernel
theorem dX10_shares_24 : decode cX10_shares 24 = .ok (.aload_n 0, 1) := by decide +kernel
theorem dX10_shares_25 : decode cX10_shares 25 = .ok (.getfield 85, 3) := by decide +kernel
theorem dX10_shares_28 : decode cX10_shares 28 = .ok (.aload_n 0, 1) := by decide +kernel
theorem dX10_shares_29 : decode cX10_shares 29 = .ok (.getfield 184, 3) := by decide +kernel
theorem dX10_shares_32 : decode cX10_shares 32 = .ok (.iload_n 1, 1) := by decide +kernel
theorem dX10_shares_33 : decode cX10_shares 33 = .ok (.iastore, 1) := by decide +kernel
theorem dX10_shares_34 : decode cX10_shares 34 = .ok (.aload_n 0, 1) := by decide +kernel
theorem dX10_shares_35 : decode cX10_shares 35 = .ok (.dup, 1) := by decide +kernel
theorem dX10_shares_36 : decode cX10_shares 36 = .ok (.getfield 184, 3) := by decide +kernel
theorem dX10_shares_39 : decode cX10_shares 39 = .ok (.iconst 1, 1) := by decide +kernel
theorem dX10_shares_40 : decode cX10_shares 40 = .ok (.iadd, 1) := by decide +kernel
theorem dX10_shares_41 : decode cX10_shares 41 = .ok (.putfield 184, 3) := by decide +kernel
theorem dX10_shares_44 : decode cX10_shares 44 = .ok (.iinc 1 1, 3) := by decide +kernel
theorem dX10_shares_47 : decode cX10_shares 47 = .ok (.goto (-40), 3) := by decide +kernel
theorem dX10_shares_50 : decode cX10_shares 50 = .ok (.iconst 1, 1) := by decide +kernel
theorem dX10_shares_51 : decode cX10_shares 51 = .ok (.istore_n 1, 1) := by decide +kernel
theorem dX10_shares_52 : decode cX10_shares 52 = .ok (.iconst 0, 1) := by decide +kernel
theorem dX10_shares_53 : decode cX10_shares 53 = .ok (.istore_n 2, 1) := by decide +kernel
theorem dX10_shares_54 : decode cX10_shares 54 = .ok (.iload_n 2, 1) := by decide +kernel
theorem dX10_shares_55 : decode cX10_shares 55 = .ok (.aload_n 0, 1) := by decide +kernel
theorem dX10_shares_56 : decode cX10_shares 56 = .ok (.getfield 184, 3) := by decide +kernel
theorem dX10_shares_59 : decode cX10_shares 59 = .ok (.if_icmp .ge 14, 3) := by decide +kernel
theorem dX10_shares_62 : decode cX10_shares 62 = .ok (.iload_n 1, 1) := by decide +kernel
theorem dX10_shares_63 : decode cX10_shares 63 = .ok (.bipush 6, 2) := by decide +kernel
theorem dX10_shares_65 : decode cX10_shares 65 = .ok (.imul, 1) := by decide +kernel
theorem dX10_shares_66 : decode cX10_shares 66 = .ok (.istore_n 1, 1) := by decide +kernel
theorem dX10_shares_67 : decode cX10_shares 67 = .ok (.iinc 2 1, 3) := by decide +kernel
theorem dX10_shares_70 : decode cX10_shares 70 = .ok (.goto (-16), 3) := by decide +kernel
theorem dX10_shares_73 : decode cX10_shares 73 = .ok (.iconst 0, 1) := by decide +kernel
theorem dX10_shares_74 : decode cX10_shares 74 = .ok (.istore_n 2, 1) := by decide +kernel
theorem dX10_shares_75 : decode cX10_shares 75 = .ok (.aload_n 0, 1) := by decide +kernel
theorem dX10_shares_76 : decode cX10_shares 76 = .ok (.ldc 187, 2) := by decide +kernel
theorem dX10_shares_78 : decode cX10_shares 78 = .ok (.putfield 188, 3) := by decide +kernel
theorem dX10_shares_81 : decode cX10_shares 81 = .ok (.iconst 0, 1) := by decide +kernel
theorem dX10_shares_82 : decode cX10_shares 82 = .ok (.istore_n 3, 1) := by decide +kernel
theorem dX10_shares_83 : decode cX10_shares 83 = .ok (.iload_n 3, 1) := by decide +kernel
theorem dX10_shares_84 : decode cX10_shares 84 = .ok (.iload_n 1, 1) := by decide +kernel
theorem dX10_shares_85 : decode cX10_shares 85 = .ok (.if_icmp .ge 54, 3) := by decide +kernel
theorem dX10_shares_88 : decode cX10_shares 88 = .ok (.aload_n 0, 1) := by decide +kernel
theorem dX10_shares_89 : decode cX10_shares 89 = .ok (.iload_n 3, 1) := by decide +kernel
theorem dX10_shares_90 : decode cX10_shares 90 = .ok (.iload_n 1, 1) := by decide +kernel
theorem dX10_shares_91 : decode cX10_shares 91 = .ok (.invokevirtual 191, 3) := by decide +kernel
theorem dX10_shares_94 : decode cX10_shares 94 = .ok (.istore 4, 2) := by decide +kernel
theorem dX10_shares_96 : decode cX10_shares 96 = .ok (.iload 4, 2) := by decide +kernel
theorem dX10_shares_98 : decode cX10_shares 98 = .ok (.aload_n 0, 1) := by decide +kernel
theorem dX10_shares_99 : decode cX10_shares 99 = .ok (.getfield 188, 3) := by decide +kernel
theorem dX10_shares_102 : decode cX10_shares 102 = .ok (.if_icmp .ge 7, 3) := by decide +kernel
theorem dX10_shares_105 : decode cX10_shares 105 = .ok (.iload_n 3, 1) := by decide +kernel
theorem dX10_shares_106 : decode cX10_shares 106 = .ok (.goto 4, 3) := by decide +kernel
theorem dX10_shares_109 : decode cX10_shares 109 = .ok (.iload_n 2, 1) := by decide +kernel
theorem dX10_shares_110 : decode cX10_shares 110 = .ok (.istore_n 2, 1) := by decide +kernel
theorem dX10_shares_111 : decode cX10_shares 111 = .ok (.aload_n 0, 1) := by decide +kernel
theorem dX10_shares_112 : decode cX10_shares 112 = .ok (.iload 4, 2) := by decide +kernel
theorem dX10_shares_114 : decode cX10_shares 114 = .ok (.aload_n 0, 1) := by decide +kernel
theorem dX10_shares_115 : decode cX10_shares 115 = .ok (.getfield 188, 3) := by decide +kernel
theorem dX10_shares_118 : decode cX10_shares 118 = .ok (.if_icmp .ge 8, 3) := by decide +kernel
theorem dX10_shares_121 : decode cX10_shares 121 = .ok (.iload 4, 2) := by decide +kernel
theorem dX10_shares_123 : decode cX10_shares 123 = .ok (.goto 7, 3) := by decide +kernel
theorem dX10_shares_126 : decode cX10_shares 126 = .ok (.aload_n 0, 1) := by decide +kernel
theorem dX10_shares_127 : decode cX10_shares 127 = .ok (.getfield 188, 3) := by decide +kernel
theorem dX10_shares_130 : decode cX10_shares 130 = .ok (.putfield 188, 3) := by decide +kernel
theorem dX10_shares_133 : decode cX10_shares 133 = .ok (.iinc 3 1, 3) := by decide +kernel
theorem dX10_shares_136 : decode cX10_shares 136 = .ok (.goto (-53), 3) := by decide +kernel
theorem dX10_shares_139 : decode cX10_shares 139 = .ok (.iload_n 2, 1) := by decide +kernel
theorem dX10_shares_140 : decode cX10_shares 140 = .ok (.ireturn, 1) := by decide +kernel
theorem dX10_costOf_0 : decode cX10_costOf 0 = .ok (.iload_n 2, 1) := by decide +kernel
theorem dX10_costOf_1 : decode cX10_costOf 1 = .ok (.istore_n 3, 1) := by decide +kernel
theorem dX10_costOf_2 : decode cX10_costOf 2 = .ok (.iconst 0, 1) := by decide +kernel
theorem dX10_costOf_3 : decode cX10_costOf 3 = .ok (.istore 4, 2) := by decide +kernel
theorem dX10_costOf_5 : decode cX10_costOf 5 = .ok (.iconst 0, 1) := by decide +kernel
theorem dX10_costOf_6 : decode cX10_costOf 6 = .ok (.istore 5, 2) := by decide +kernel
theorem dX10_costOf_8 : decode cX10_costOf 8 = .ok (.iconst 0, 1) := by decide +kernel
theorem dX10_costOf_9 : decode cX10_costOf 9 = .ok (.istore 6, 2) := by decide +kernel
theorem dX10_costOf_11 : decode cX10_costOf 11 = .ok (.iload 6, 2) := by decide +kernel
theorem dX10_costOf_13 : decode cX10_costOf 13 = .ok (.aload_n 0, 1) := by decide +kernel
theorem dX10_costOf_14 : decode cX10_costOf 14 = .ok (.getfield 184, 3) := by decide +kernel
theorem dX10_costOf_17 : decode cX10_costOf 17 = .ok (.if_icmp .ge 123, 3) := by decide +kernel
theorem dX10_costOf_20 : decode cX10_costOf 20 = .ok (.iload_n 3, 1) := by decide +kernel
theorem dX10_costOf_21 : decode cX10_costOf 21 = .ok (.bipush 6, 2) := by decide +kernel
theorem dX10_costOf_23 : decode cX10_costOf 23 = .ok (.idiv, 1) := by decide +kernel
theorem dX10_costOf_24 : decode cX10_costOf 24 = .ok (.istore_n 3, 1) := by decide +kernel
theorem dX10_costOf_25 : decode cX10_costOf 25 = .ok (.iload_n 1, 1) := by decide +kernel
theorem dX10_costOf_26 : decode cX10_costOf 26 = .ok (.iload_n 3, 1) := by decide +kernel
theorem dX10_costOf_27 : decode cX10_costOf 27 = .ok (.idiv, 1) := by decide +kernel
theorem dX10_costOf_28 : decode cX10_costOf 28 = .ok (.bipush 6, 2) := by decide +kernel
theorem dX10_costOf_30 : decode cX10_costOf 30 = .ok (.irem, 1) := by decide +kernel
theorem dX10_costOf_31 : decode cX10_costOf 31 = .ok (.istore 7, 2) := by decide +kernel
theorem dX10_costOf_33 : decode cX10_costOf 33 = .ok (.aload_n 0, 1) := by decide +kernel
theorem dX10_costOf_34 : decode cX10_costOf 34 = .ok (.getfield 85, 3) := by decide +kernel
theorem dX10_costOf_37 : decode cX10_costOf 37 = .ok (.iload 6, 2) := by decide +kernel
theorem dX10_costOf_39 : decode cX10_costOf 39 = .ok (.iaload, 1) := by decide +kernel
theorem dX10_costOf_40 : decode cX10_costOf 40 = .ok (.istore 8, 2) := by decide +kernel
theorem dX10_costOf_42 : decode cX10_costOf 42 = .ok (.iload 7, 2) := by decide +kernel
theorem dX10_costOf_44 : decode cX10_costOf 44 = .ok (.iconst 5, 1) := by decide +kernel
theorem dX10_costOf_45 : decode cX10_costOf 45 = .ok (.if_icmp .ne 23, 3) := by decide +kernel
theorem dX10_costOf_48 : decode cX10_costOf 48 = .ok (.iload 5, 2) := by decide +kernel
theorem dX10_costOf_50 : decode cX10_costOf 50 = .ok (.aload_n 0, 1) := by decide +kernel
theorem dX10_costOf_51 : decode cX10_costOf 51 = .ok (.getfield 25, 3) := by decide +kernel
theorem dX10_costOf_54 : decode cX10_costOf 54 = .ok (.iload 8, 2) := by decide +kernel
theorem dX10_costOf_56 : decode cX10_costOf 56 = .ok (.iaload, 1) := by decide +kernel
theorem dX10_costOf_57 : decode cX10_costOf 57 = .ok (.iconst 1, 1) := by decide +kernel
theorem dX10_costOf_58 : decode cX10_costOf 58 = .ok (.iadd, 1) := by decide +kernel
theorem dX10_costOf_59 : decode cX10_costOf 59 = .ok (.bipush 100, 2) := by decide +kernel
theorem dX10_costOf_61 : decode cX10_costOf 61 = .ok (.imul, 1) := by decide +kernel
theorem dX10_costOf_62 : decode cX10_costOf 62 = .ok (.iadd, 1) := by decide +kernel
theorem dX10_costOf_63 : decode cX10_costOf 63 = .ok (.istore 5, 2) := by decide +kernel
theorem dX10_costOf_65 : decode cX10_costOf 65 = .ok (.goto 69, 3) := by decide +kernel
theorem dX10_costOf_68 : decode cX10_costOf 68 = .ok (.iload 7, 2) := by decide +kernel
theorem dX10_costOf_70 : decode cX10_costOf 70 = .ok (.aload_n 0, 1) := by decide +kernel
theorem dX10_costOf_71 : decode cX10_costOf 71 = .ok (.getfield 141, 3) := by decide +kernel
theorem dX10_costOf_74 : decode cX10_costOf 74 = .ok (.if_icmp .ge 25, 3) := by decide +kernel
theorem dX10_costOf_77 : decode cX10_costOf 77 = .ok (.iload 4, 2) := by decide +kernel
theorem dX10_costOf_79 : decode cX10_costOf 79 = .ok (.iload 7, 2) := by decide +kernel
theorem dX10_costOf_81 : decode cX10_costOf 81 = .ok (.ishr, 1) := by decide +kernel
theorem dX10_costOf_82 : decode cX10_costOf 82 = .ok (.iconst 1, 1) := by decide +kernel
theorem dX10_costOf_83 : decode cX10_costOf 83 = .ok (.iand, 1) := by decide +kernel
theorem dX10_costOf_84 : decode cX10_costOf 84 = .ok (.iconst 1, 1) := by decide +kernel
theorem dX10_costOf_85 : decode cX10_costOf 85 = .ok (.if_icmp .eq 14, 3) := by decide +kernel
theorem dX10_costOf_88 : decode cX10_costOf 88 = .ok (.aload_n 0, 1) := by decide +kernel
theorem dX10_costOf_89 : decode cX10_costOf 89 = .ok (.iload 7, 2) := by decide +kernel
theorem dX10_costOf_91 : decode cX10_costOf 91 = .ok (.iload 8, 2) := by decide +kernel
theorem dX10_costOf_93 : decode cX10_costOf 93 = .ok (.invokevirtual 159, 3) := by decide +kernel
theorem dX10_costOf_96 : decode cX10_costOf 96 = .ok (.ifCond .ne 6, 3) := by decide +kernel
theorem dX10_costOf_99 : decode cX10_costOf 99 = .ok (.ldc 187, 2) := by decide +kernel
theorem dX10_costOf_101 : decode cX10_costOf 101 = .ok (.ireturn, 1) := by decide +kernel
theorem dX10_costOf_102 : decode cX10_costOf 102 = .ok (.iload 4, 2) := by decide +kernel
theorem dX10_costOf_104 : decode cX10_costOf 104 = .ok (.iconst 1, 1) := by decide +kernel
theorem dX10_costOf_105 : decode cX10_costOf 105 = .ok (.iload 7, 2) := by decide +kernel
theorem dX10_costOf_107 : decode cX10_costOf 107 = .ok (.ishl, 1) := by decide +kernel
theorem dX10_costOf_108 : decode cX10_costOf 108 = .ok (.ior, 1) := by decide +kernel
theorem dX10_costOf_109 : decode cX10_costOf 109 = .ok (.istore 4, 2) := by decide +kernel
theorem dX10_costOf_111 : decode cX10_costOf 111 = .ok (.iload 5, 2) := by decide +kernel
theorem dX10_costOf_113 : decode cX10_costOf 113 = .ok (.aload_n 0, 1) := by decide +kernel
theorem dX10_costOf_114 : decode cX10_costOf 114 = .ok (.getfield 25, 3) := by decide +kernel
theorem dX10_costOf_117 : decode cX10_costOf 117 = .ok (.iload 8, 2) := by decide +kernel
theorem dX10_costOf_119 : decode cX10_costOf 119 = .ok (.iaload, 1) := by decide +kernel
theorem dX10_costOf_120 : decode cX10_costOf 120 = .ok (.iconst 1, 1) := by decide +kernel
theorem dX10_costOf_121 : decode cX10_costOf 121 = .ok (.iadd, 1) := by decide +kernel
theorem dX10_costOf_122 : decode cX10_costOf 122 = .ok (.aload_n 0, 1) := by decide +kernel
theorem dX10_costOf_123 : decode cX10_costOf 123 = .ok (.iload 7, 2) := by decide +kernel
theorem dX10_costOf_125 : decode cX10_costOf 125 = .ok (.iload 8, 2) := by decide +kernel
theorem dX10_costOf_127 : decode cX10_costOf 127 = .ok (.invokevirtual 150, 3) := by decide +kernel
theorem dX10_costOf_130 : decode cX10_costOf 130 = .ok (.imul, 1) := by decide +kernel
theorem dX10_costOf_131 : decode cX10_costOf 131 = .ok (.iadd, 1) := by decide +kernel
theorem dX10_costOf_132 : decode cX10_costOf 132 = .ok (.istore 5, 2) := by decide +kernel
theorem dX10_costOf_134 : decode cX10_costOf 134 = .ok (.iinc 6 1, 3) := by decide +kernel
theorem dX10_costOf_137 : decode cX10_costOf 137 = .ok (.goto (-126), 3) := by decide +kernel
theorem dX10_costOf_140 : decode cX10_costOf 140 = .ok (.iload 5, 2) := by decide +kernel
theorem dX10_costOf_142 : decode cX10_costOf 142 = .ok (.ireturn, 1) := by decide +kernel
theorem dX10_shareOf_0 : decode cX10_shareOf 0 = .ok (.iconst 1, 1) := by decide +kernel
theorem dX10_shareOf_1 : decode cX10_shareOf 1 = .ok (.istore_n 3, 1) := by decide +kernel
theorem dX10_shareOf_2 : decode cX10_shareOf 2 = .ok (.iload_n 2, 1) := by decide +kernel
theorem dX10_shareOf_3 : decode cX10_shareOf 3 = .ok (.iconst 1, 1) := by decide +kernel
theorem dX10_shareOf_4 : decode cX10_shareOf 4 = .ok (.iadd, 1) := by decide +kernel
theorem dX10_shareOf_5 : decode cX10_shareOf 5 = .ok (.istore 4, 2) := by decide +kernel
theorem dX10_shareOf_7 : decode cX10_shareOf 7 = .ok (.iload 4, 2) := by decide +kernel
theorem dX10_shareOf_9 : decode cX10_shareOf 9 = .ok (.aload_n 0, 1) := by decide +kernel
theorem dX10_shareOf_10 : decode cX10_shareOf 10 = .ok (.getfield 184, 3) := by decide +kernel
theorem dX10_shareOf_13 : decode cX10_shareOf 13 = .ok (.if_icmp .ge 14, 3) := by decide +kernel
theorem dX10_shareOf_16 : decode cX10_shareOf 16 = .ok (.iload_n 3, 1) := by decide +kernel
theorem dX10_shareOf_17 : decode cX10_shareOf 17 = .ok (.bipush 6, 2) := by decide +kernel
theorem dX10_shareOf_19 : decode cX10_shareOf 19 = .ok (.imul, 1) := by decide +kernel
theorem dX10_shareOf_20 : decode cX10_shareOf 20 = .ok (.istore_n 3, 1) := by decide +kernel
theorem dX10_shareOf_21 : decode cX10_shareOf 21 = .ok (.iinc 4 1, 3) := by decide +kernel
theorem dX10_shareOf_24 : decode cX10_shareOf 24 = .ok (.goto (-17), 3) := by decide +kernel
theorem dX10_shareOf_27 : decode cX10_shareOf 27 = .ok (.iload_n 1, 1) := by decide +kernel
theorem dX10_shareOf_28 : decode cX10_shareOf 28 = .ok (.iload_n 3, 1) := by decide +kernel
theorem dX10_shareOf_29 : decode cX10_shareOf 29 = .ok (.idiv, 1) := by decide +kernel
theorem dX10_shareOf_30 : decode cX10_shareOf 30 = .ok (.bipush 6, 2) := by decide +kernel
theorem dX10_shareOf_32 : decode cX10_shareOf 32 = .ok (.irem, 1) := by decide +kernel
theorem dX10_shareOf_33 : decode cX10_shareOf 33 = .ok (.ireturn, 1) := by decide +kernel
theorem dX10_share_0 : decode cX10_share 0 = .ok (.iload_n 1, 1) := by decide +kernel
theorem dX10_share_1 : decode cX10_share 1 = .ok (.iconst (-1), 1) := by decide +kernel
theorem dX10_share_2 : decode cX10_share 2 = .ok (.if_icmp .eq 13, 3) := by decide +kernel
theorem dX10_share_5 : decode cX10_share 5 = .ok (.aload_n 0, 1) := by decide +kernel
theorem dX10_share_6 : decode cX10_share 6 = .ok (.iload_n 1, 1) := by decide +kernel
theorem dX10_share_7 : decode cX10_share 7 = .ok (.invokevirtual 128, 3) := by decide +kernel
theorem dX10_share_10 : decode cX10_share 10 = .ok (.ifCond .ne 5, 3) := by decide +kernel
theorem dX10_share_13 : decode cX10_share 13 = .ok (.iconst (-1), 1) := by decide +kernel
theorem dX10_share_14 : decode cX10_share 14 = .ok (.ireturn, 1) := by decide +kernel
theorem dX10_share_15 : decode cX10_share 15 = .ok (.aload_n 0, 1) := by decide +kernel
theorem dX10_share_16 : decode cX10_share 16 = .ok (.invokevirtual 194, 3) := by decide +kernel
theorem dX10_share_19 : decode cX10_share 19 = .ok (.iconst 4, 1) := by decide +kernel
theorem dX10_share_20 : decode cX10_share 20 = .ok (.if_icmp .le 6, 3) := by decide +kernel
theorem dX10_share_23 : decode cX10_share 23 = .ok (.bipush (-2), 2) := by decide +kernel
theorem dX10_share_25 : decode cX10_share 25 = .ok (.ireturn, 1) := by decide +kernel
theorem dX10_share_26 : decode cX10_share 26 = .ok (.aload_n 0, 1) := by decide +kernel
theorem dX10_share_27 : decode cX10_share 27 = .ok (.invokevirtual 198, 3) := by decide +kernel
theorem dX10_share_30 : decode cX10_share 30 = .ok (.istore_n 2, 1) := by decide +kernel
theorem dX10_share_31 : decode cX10_share 31 = .ok (.iload_n 1, 1) := by decide +kernel
theorem dX10_share_32 : decode cX10_share 32 = .ok (.ifCond .ge 8, 3) := by decide +kernel
theorem dX10_share_35 : decode cX10_share 35 = .ok (.aload_n 0, 1) := by decide +kernel
theorem dX10_share_36 : decode cX10_share 36 = .ok (.getfield 188, 3) := by decide +kernel
theorem dX10_share_39 : decode cX10_share 39 = .ok (.ireturn, 1) := by decide +kernel
theorem dX10_share_40 : decode cX10_share 40 = .ok (.iconst 0, 1) := by decide +kernel
theorem dX10_share_41 : decode cX10_share 41 = .ok (.istore_n 3, 1) := by decide +kernel
theorem dX10_share_42 : decode cX10_share 42 = .ok (.iload_n 3, 1) := by decide +kernel
theorem dX10_share_43 : decode cX10_share 43 = .ok (.aload_n 0, 1) := by decide +kernel
theorem dX10_share_44 : decode cX10_share 44 = .ok (.getfield 184, 3) := by decide +kernel
theorem dX10_share_47 : decode cX10_share 47 = .ok (.if_icmp .ge 36, 3) := by decide +kernel
theorem dX10_share_50 : decode cX10_share 50 = .ok (.aload_n 0, 1) := by decide +kernel
theorem dX10_share_51 : decode cX10_share 51 = .ok (.getfield 85, 3) := by decide +kernel
theorem dX10_share_54 : decode cX10_share 54 = .ok (.iload_n 3, 1) := by decide +kernel
theorem dX10_share_55 : decode cX10_share 55 = .ok (.iaload, 1) := by decide +kernel
theorem dX10_share_56 : decode cX10_share 56 = .ok (.iload_n 1, 1) := by decide +kernel
theorem dX10_share_57 : decode cX10_share 57 = .ok (.if_icmp .ne 20, 3) := by decide +kernel
theorem dX10_share_60 : decode cX10_share 60 = .ok (.aload_n 0, 1) := by decide +kernel
theorem dX10_share_61 : decode cX10_share 61 = .ok (.iload_n 2, 1) := by decide +kernel
theorem dX10_share_62 : decode cX10_share 62 = .ok (.iload_n 3, 1) := by decide +kernel
theorem dX10_share_63 : decode cX10_share 63 = .ok (.invokevirtual 201, 3) := by decide +kernel
theorem dX10_share_66 : decode cX10_share 66 = .ok (.iconst 5, 1) := by decide +kernel
theorem dX10_share_67 : decode cX10_share 67 = .ok (.if_icmp .ge 10, 3) := by decide +kernel
theorem dX10_share_70 : decode cX10_share 70 = .ok (.aload_n 0, 1) := by decide +kernel
theorem dX10_share_71 : decode cX10_share 71 = .ok (.iload_n 2, 1) := by decide +kernel
theorem dX10_share_72 : decode cX10_share 72 = .ok (.iload_n 3, 1) := by decide +kernel
theorem dX10_share_73 : decode cX10_share 73 = .ok (.invokevirtual 201, 3) := by decide +kernel
theorem dX10_share_76 : decode cX10_share 76 = .ok (.ireturn, 1) := by decide +kernel
theorem dX10_share_77 : decode cX10_share 77 = .ok (.iinc 3 1, 3) := by decide +kernel
theorem dX10_share_80 : decode cX10_share 80 = .ok (.goto (-38), 3) := by decide +kernel
theorem dX10_share_83 : decode cX10_share 83 = .ok (.bipush (-4), 2) := by decide +kernel
theorem dX10_share_85 : decode cX10_share 85 = .ok (.ireturn, 1) := by decide +kernel
theorem dX10_send_0 : decode cX10_send 0 = .ok (.aload_n 0, 1) := by decide +kernel
theorem dX10_send_1 : decode cX10_send 1 = .ok (.invokevirtual 194, 3) := by decide +kernel
theorem dX10_send_4 : decode cX10_send 4 = .ok (.iconst 4, 1) := by decide +kernel
theorem dX10_send_5 : decode cX10_send 5 = .ok (.if_icmp .le 6, 3) := by decide +kernel
theorem dX10_send_8 : decode cX10_send 8 = .ok (.bipush (-2), 2) := by decide +kernel
theorem dX10_send_10 : decode cX10_send 10 = .ok (.ireturn, 1) := by decide +kernel
theorem dX10_send_11 : decode cX10_send 11 = .ok (.aload_n 0, 1) := by decide +kernel
theorem dX10_send_12 : decode cX10_send 12 = .ok (.invokevirtual 198, 3) := by decide +kernel
theorem dX10_send_15 : decode cX10_send 15 = .ok (.istore_n 1, 1) := by decide +kernel
theorem dX10_send_16 : decode cX10_send 16 = .ok (.iconst 0, 1) := by decide +kernel
theorem dX10_send_17 : decode cX10_send 17 = .ok (.istore_n 2, 1) := by decide +kernel
theorem dX10_send_18 : decode cX10_send 18 = .ok (.iconst 0, 1) := by decide +kernel
theorem dX10_send_19 : decode cX10_send 19 = .ok (.istore_n 3, 1) := by decide +kernel
theorem dX10_send_20 : decode cX10_send 20 = .ok (.iload_n 3, 1) := by decide +kernel
theorem dX10_send_21 : decode cX10_send 21 = .ok (.aload_n 0, 1) := by decide +kernel
theorem dX10_send_22 : decode cX10_send 22 = .ok (.getfield 184, 3) := by decide +kernel
theorem dX10_send_25 : decode cX10_send 25 = .ok (.if_icmp .ge 38, 3) := by decide +kernel
theorem dX10_send_28 : decode cX10_send 28 = .ok (.aload_n 0, 1) := by decide +kernel
theorem dX10_send_29 : decode cX10_send 29 = .ok (.iload_n 1, 1) := by decide +kernel
theorem dX10_send_30 : decode cX10_send 30 = .ok (.iload_n 3, 1) := by decide +kernel
theorem dX10_send_31 : decode cX10_send 31 = .ok (.invokevirtual 201, 3) := by decide +kernel
theorem dX10_send_34 : decode cX10_send 34 = .ok (.istore 4, 2) := by decide +kernel
theorem dX10_send_36 : decode cX10_send 36 = .ok (.iload 4, 2) := by decide +kernel
theorem dX10_send_38 : decode cX10_send 38 = .ok (.iconst 5, 1) := by decide +kernel
theorem dX10_send_39 : decode cX10_send 39 = .ok (.if_icmp .ge 18, 3) := by decide +kernel
theorem dX10_send_42 : decode cX10_send 42 = .ok (.aload_n 0, 1) := by decide +kernel
theorem dX10_send_43 : decode cX10_send 43 = .ok (.iload 4, 2) := by decide +kernel
theorem dX10_send_45 : decode cX10_send 45 = .ok (.aload_n 0, 1) := by decide +kernel
theorem dX10_send_46 : decode cX10_send 46 = .ok (.getfield 85, 3) := by decide +kernel
theorem dX10_send_49 : decode cX10_send 49 = .ok (.iload_n 3, 1) := by decide +kernel
theorem dX10_send_50 : decode cX10_send 50 = .ok (.iaload, 1) := by decide +kernel
theorem dX10_send_51 : decode cX10_send 51 = .ok (.invokevirtual 168, 3) := by decide +kernel
theorem dX10_send_54 : decode cX10_send 54 = .ok (.iinc 2 1, 3) := by decide +kernel
theorem dX10_send_57 : decode cX10_send 57 = .ok (.iinc 3 1, 3) := by decide +kernel
theorem dX10_send_60 : decode cX10_send 60 = .ok (.goto (-40), 3) := by decide +kernel
theorem dX10_send_63 : decode cX10_send 63 = .ok (.iload_n 2, 1) := by decide +kernel
theorem dX10_send_64 : decode cX10_send 64 = .ok (.ireturn, 1) := by decide +kernel
theorem dX10_test_0 : decode cX10_test 0 = .ok (.aload_n 0, 1) := by decide +kernel
theorem dX10_test_1 : decode cX10_test 1 = .ok (.iload_n 1, 1) := by decide +kernel
theorem dX10_test_2 : decode cX10_test 2 = .ok (.invokevirtual 128, 3) := by decide +kernel
theorem dX10_test_5 : decode cX10_test 5 = .ok (.ifCond .eq 22, 3) := by decide +kernel
theorem dX10_test_8 : decode cX10_test 8 = .ok (.iload_n 2, 1) := by decide +kernel
theorem dX10_test_9 : decode cX10_test 9 = .ok (.iconst 0, 1) := by decide +kernel
theorem dX10_test_10 : decode cX10_test 10 = .ok (.bipush 40, 2) := by decide +kernel
theorem dX10_test_12 : decode cX10_test 12 = .ok (.invokestatic 95, 3) := by decide +kernel
theorem dX10_test_15 : decode cX10_test 15 = .ok (.ifCond .eq 12, 3) := by decide +kernel
theorem dX10_test_18 : decode cX10_test 18 = .ok (.iload_n 3, 1) := by decide +kernel
theorem dX10_test_19 : decode cX10_test 19 = .ok (.iconst (-1), 1) := by decide +kernel
theorem dX10_test_20 : decode cX10_test 20 = .ok (.iconst 2, 1) := by decide +kernel
theorem dX10_test_21 : decode cX10_test 21 = .ok (.invokestatic 95, 3) := by decide +kernel
theorem dX10_test_24 : decode cX10_test 24 = .ok (.ifCond .ne 5, 3) := by decide +kernel
theorem dX10_test_27 : decode cX10_test 27 = .ok (.iconst (-1), 1) := by decide +kernel
theorem dX10_test_28 : decode cX10_test 28 = .ok (.ireturn, 1) := by decide +kernel
theorem dX10_test_29 : decode cX10_test 29 = .ok (.aload_n 0, 1) := by decide +kernel
theorem dX10_test_30 : decode cX10_test 30 = .ok (.getfield 204, 3) := by decide +kernel
theorem dX10_test_33 : decode cX10_test 33 = .ok (.bipush 12, 2) := by decide +kernel
theorem dX10_test_35 : decode cX10_test 35 = .ok (.if_icmp .ne 6, 3) := by decide +kernel
theorem dX10_test_38 : decode cX10_test 38 = .ok (.bipush (-3), 2) := by decide +kernel
theorem dX10_test_40 : decode cX10_test 40 = .ok (.ireturn, 1) := by decide +kernel
theorem dX10_test_41 : decode cX10_test 41 = .ok (.aload_n 0, 1) := by decide +kernel
theorem dX10_test_42 : decode cX10_test 42 = .ok (.getfield 73, 3) := by decide +kernel
theorem dX10_test_45 : decode cX10_test 45 = .ok (.aload_n 0, 1) := by decide +kernel
theorem dX10_test_46 : decode cX10_test 46 = .ok (.getfield 204, 3) := by decide +kernel
theorem dX10_test_49 : decode cX10_test 49 = .ok (.iload_n 1, 1) := by decide +kernel
theorem dX10_test_50 : decode cX10_test 50 = .ok (.iastore, 1) := by decide +kernel
theorem dX10_test_51 : decode cX10_test 51 = .ok (.aload_n 0, 1) := by decide +kernel
theorem dX10_test_52 : decode cX10_test 52 = .ok (.getfield 76, 3) := by decide +kernel
theorem dX10_test_55 : decode cX10_test 55 = .ok (.aload_n 0, 1) := by decide +kernel
theorem dX10_test_56 : decode cX10_test 56 = .ok (.getfield 204, 3) := by decide +kernel
theorem dX10_test_59 : decode cX10_test 59 = .ok (.iload_n 2, 1) := by decide +kernel
theorem dX10_test_60 : decode cX10_test 60 = .ok (.iastore, 1) := by decide +kernel
theorem dX10_test_61 : decode cX10_test 61 = .ok (.aload_n 0, 1) := by decide +kernel
theorem dX10_test_62 : decode cX10_test 62 = .ok (.getfield 79, 3) := by decide +kernel
theorem dX10_test_65 : decode cX10_test 65 = .ok (.aload_n 0, 1) := by decide +kernel
theorem dX10_test_66 : decode cX10_test 66 = .ok (.getfield 204, 3) := by decide +kernel
theorem dX10_test_69 : decode cX10_test 69 = .ok (.iload_n 3, 1) := by decide +kernel
theorem dX10_test_70 : decode cX10_test 70 = .ok (.iastore, 1) := by decide +kernel
theorem dX10_test_71 : decode cX10_test 71 = .ok (.aload_n 0, 1) := by decide +kernel
theorem dX10_test_72 : decode cX10_test 72 = .ok (.dup, 1) := by decide +kernel
theorem dX10_test_73 : decode cX10_test 73 = .ok (.getfield 204, 3) := by decide +kernel
theorem dX10_test_76 : decode cX10_test 76 = .ok (.iconst 1, 1) := by decide +kernel
theorem dX10_test_77 : decode cX10_test 77 = .ok (.iadd, 1) := by decide +kernel
theorem dX10_test_78 : decode cX10_test 78 = .ok (.putfield 204, 3) := by decide +kernel
theorem dX10_test_81 : decode cX10_test 81 = .ok (.aload_n 0, 1) := by decide +kernel
theorem dX10_test_82 : decode cX10_test 82 = .ok (.getfield 204, 3) := by decide +kernel
theorem dX10_test_85 : decode cX10_test 85 = .ok (.ireturn, 1) := by decide +kernel
theorem dX10_noTests_0 : decode cX10_noTests 0 = .ok (.aload_n 0, 1) := by decide +kernel
theorem dX10_noTests_1 : decode cX10_noTests 1 = .ok (.getfield 204, 3) := by decide +kernel
theorem dX10_noTests_4 : decode cX10_noTests 4 = .ok (.istore_n 1, 1) := by decide +kernel
theorem dX10_noTests_5 : decode cX10_noTests 5 = .ok (.aload_n 0, 1) := by decide +kernel
theorem dX10_noTests_6 : decode cX10_noTests 6 = .ok (.iconst 0, 1) := by decide +kernel
theorem dX10_noTests_7 : decode cX10_noTests 7 = .ok (.putfield 204, 3) := by decide +kernel
theorem dX10_noTests_10 : decode cX10_noTests 10 = .ok (.iload_n 1, 1) := by decide +kernel
theorem dX10_noTests_11 : decode cX10_noTests 11 = .ok (.ireturn, 1) := by decide +kernel
theorem dX10_explains_0 : decode cX10_explains 0 = .ok (.iconst 1, 1) := by decide +kernel
theorem dX10_explains_1 : decode cX10_explains 1 = .ok (.istore_n 2, 1) := by decide +kernel
theorem dX10_explains_2 : decode cX10_explains 2 = .ok (.iconst 0, 1) := by decide +kernel
theorem dX10_explains_3 : decode cX10_explains 3 = .ok (.istore_n 3, 1) := by decide +kernel
theorem dX10_explains_4 : decode cX10_explains 4 = .ok (.iload_n 3, 1) := by decide +kernel
theorem dX10_explains_5 : decode cX10_explains 5 = .ok (.aload_n 0, 1) := by decide +kernel
theorem dX10_explains_6 : decode cX10_explains 6 = .ok (.getfield 204, 3) := by decide +kernel
theorem dX10_explains_9 : decode cX10_explains 9 = .ok (.if_icmp .ge 54, 3) := by decide +kernel
theorem dX10_explains_12 : decode cX10_explains 12 = .ok (.iload_n 2, 1) := by decide +kernel
theorem dX10_explains_13 : decode cX10_explains 13 = .ok (.ifCond .eq 42, 3) := by decide +kernel
theorem dX10_explains_16 : decode cX10_explains 16 = .ok (.aload_n 0, 1) := by decide +kernel
theorem dX10_explains_17 : decode cX10_explains 17 = .ok (.getfield 79, 3) := by decide +kernel
theorem dX10_explains_20 : decode cX10_explains 20 = .ok (.iload_n 3, 1) := by decide +kernel
theorem dX10_explains_21 : decode cX10_explains 21 = .ok (.iaload, 1) := by decide +kernel
theorem dX10_explains_22 : decode cX10_explains 22 = .ok (.ifCond .lt 29, 3) := by decide +kernel
theorem dX10_explains_25 : decode cX10_explains 25 = .ok (.aload_n 0, 1) := by decide +kernel
theorem dX10_explains_26 : decode cX10_explains 26 = .ok (.aload_n 0, 1) := by decide +kernel
theorem dX10_explains_27 : decode cX10_explains 27 = .ok (.getfield 73, 3) := by decide +kernel
theorem dX10_explains_30 : decode cX10_explains 30 = .ok (.iload_n 3, 1) := by decide +kernel
theorem dX10_explains_31 : decode cX10_explains 31 = .ok (.iaload, 1) := by decide +kernel
theorem dX10_explains_32 : decode cX10_explains 32 = .ok (.aload_n 0, 1) := by decide +kernel
theorem dX10_explains_33 : decode cX10_explains 33 = .ok (.getfield 76, 3) := by decide +kernel
theorem dX10_explains_36 : decode cX10_explains 36 = .ok (.iload_n 3, 1) := by decide +kernel
theorem dX10_explains_37 : decode cX10_explains 37 = .ok (.iaload, 1) := by decide +kernel
theorem dX10_explains_38 : decode cX10_explains 38 = .ok (.iload_n 1, 1) := by decide +kernel
theorem dX10_explains_39 : decode cX10_explains 39 = .ok (.invokevirtual 132, 3) := by decide +kernel
theorem dX10_explains_42 : decode cX10_explains 42 = .ok (.aload_n 0, 1) := by decide +kernel
theorem dX10_explains_43 : decode cX10_explains 43 = .ok (.getfield 79, 3) := by decide +kernel
theorem dX10_explains_46 : decode cX10_explains 46 = .ok (.iload_n 3, 1) := by decide +kernel
theorem dX10_explains_47 : decode cX10_explains 47 = .ok (.iaload, 1) := by decide +kernel
theorem dX10_explains_48 : decode cX10_explains 48 = .ok (.if_icmp .ne 7, 3) := by decide +kernel
theorem dX10_explains_51 : decode cX10_explains 51 = .ok (.iconst 1, 1) := by decide +kernel
theorem dX10_explains_52 : decode cX10_explains 52 = .ok (.goto 4, 3) := by decide +kernel
theorem dX10_explains_55 : decode cX10_explains 55 = .ok (.iconst 0, 1) := by decide +kernel
theorem dX10_explains_56 : decode cX10_explains 56 = .ok (.istore_n 2, 1) := by decide +kernel
theorem dX10_explains_57 : decode cX10_explains 57 = .ok (.iinc 3 1, 3) := by decide +kernel
theorem dX10_explains_60 : decode cX10_explains 60 = .ok (.goto (-56), 3) := by decide +kernel
theorem dX10_explains_63 : decode cX10_explains 63 = .ok (.iload_n 2, 1) := by decide +kernel
theorem dX10_explains_64 : decode cX10_explains 64 = .ok (.ireturn, 1) := by decide +kernel
theorem dX10_fault_0 : decode cX10_fault 0 = .ok (.iload_n 1, 1) := by decide +kernel
theorem dX10_fault_1 : decode cX10_fault 1 = .ok (.iconst (-1), 1) := by decide +kernel
theorem dX10_fault_2 : decode cX10_fault 2 = .ok (.if_icmp .ge 5, 3) := by decide +kernel
theorem dX10_fault_5 : decode cX10_fault 5 = .ok (.iconst (-1), 1) := by decide +kernel
theorem dX10_fault_6 : decode cX10_fault 6 = .ok (.ireturn, 1) := by decide +kernel
theorem dX10_fault_7 : decode cX10_fault 7 = .ok (.iconst 0, 1) := by decide +kernel
theorem dX10_fault_8 : decode cX10_fault 8 = .ok (.istore_n 2, 1) := by decide +kernel
theorem dX10_fault_9 : decode cX10_fault 9 = .ok (.iconst 0, 1) := by decide +kernel
theorem dX10_fault_10 : decode cX10_fault 10 = .ok (.istore_n 3, 1) := by decide +kernel
theorem dX10_fault_11 : decode cX10_fault 11 = .ok (.iload_n 3, 1) := by decide +kernel
theorem dX10_fault_12 : decode cX10_fault 12 = .ok (.sipush 168, 3) := by decide +kernel
theorem dX10_fault_15 : decode cX10_fault 15 = .ok (.if_icmp .ge 27, 3) := by decide +kernel
theorem dX10_fault_18 : decode cX10_fault 18 = .ok (.aload_n 0, 1) := by decide +kernel
theorem dX10_fault_19 : decode cX10_fault 19 = .ok (.iload_n 3, 1) := by decide +kernel
theorem dX10_fault_20 : decode cX10_fault 20 = .ok (.invokevirtual 207, 3) := by decide +kernel
theorem dX10_fault_23 : decode cX10_fault 23 = .ok (.ifCond .eq 13, 3) := by decide +kernel
theorem dX10_fault_26 : decode cX10_fault 26 = .ok (.iload_n 2, 1) := by decide +kernel
theorem dX10_fault_27 : decode cX10_fault 27 = .ok (.iload_n 1, 1) := by decide +kernel
theorem dX10_fault_28 : decode cX10_fault 28 = .ok (.if_icmp .ne 5, 3) := by decide +kernel
theorem dX10_fault_31 : decode cX10_fault 31 = .ok (.iload_n 3, 1) := by decide +kernel
theorem dX10_fault_32 : decode cX10_fault 32 = .ok (.ireturn, 1) := by decide +kernel
theorem dX10_fault_33 : decode cX10_fault 33 = .ok (.iinc 2 1, 3) := by decide +kernel
theorem dX10_fault_36 : decode cX10_fault 36 = .ok (.iinc 3 1, 3) := by decide +kernel
theorem dX10_fault_39 : decode cX10_fault 39 = .ok (.goto (-28), 3) := by decide +kernel
theorem dX10_fault_42 : decode cX10_fault 42 = .ok (.iload_n 1, 1) := by decide +kernel
theorem dX10_fault_43 : decode cX10_fault 43 = .ok (.ifCond .ge 7, 3) := by decide +kernel
theorem dX10_fault_46 : decode cX10_fault 46 = .ok (.iload_n 2, 1) := by decide +kernel
theorem dX10_fault_47 : decode cX10_fault 47 = .ok (.goto 5, 3) := by decide +kernel
theorem dX10_fault_50 : decode cX10_fault 50 = .ok (.bipush (-4), 2) := by decide +kernel
theorem dX10_fault_52 : decode cX10_fault 52 = .ok (.ireturn, 1) := by decide +kernel
theorem dX10_nextTest_0 : decode cX10_nextTest 0 = .ok (.aload_n 0, 1) := by decide +kernel
theorem dX10_nextTest_1 : decode cX10_nextTest 1 = .ok (.iconst (-1), 1) := by decide +kernel
theorem dX10_nextTest_2 : decode cX10_nextTest 2 = .ok (.invokevirtual 210, 3) := by decide +kernel
theorem dX10_nextTest_5 : decode cX10_nextTest 5 = .ok (.iconst 2, 1) := by decide +kernel
theorem dX10_nextTest_6 : decode cX10_nextTest 6 = .ok (.if_icmp .ge 6, 3) := by decide +kernel
theorem dX10_nextTest_9 : decode cX10_nextTest 9 = .ok (.bipush (-4), 2) := by decide +kernel
theorem dX10_nextTest_11 : decode cX10_nextTest 11 = .ok (.ireturn, 1) := by decide +kernel
theorem dX10_nextTest_12 : decode cX10_nextTest 12 = .ok (.bipush (-4), 2) := by decide +kernel
theorem dX10_nextTest_14 : decode cX10_nextTest 14 = .ok (.istore_n 1, 1) := by decide +kernel
theorem dX10_nextTest_15 : decode cX10_nextTest 15 = .ok (.sipush 9999, 3) := by decide +kernel
theorem dX10_nextTest_18 : decode cX10_nextTest 18 = .ok (.istore_n 2, 1) := by decide +kernel
theorem dX10_nextTest_19 : decode cX10_nextTest 19 = .ok (.iconst 0, 1) := by decide +kernel
theorem dX10_nextTest_20 : decode cX10_nextTest 20 = .ok (.istore_n 3, 1) := by decide +kernel
theorem dX10_nextTest_21 : decode cX10_nextTest 21 = .ok (.iload_n 3, 1) := by decide +kernel
theorem dX10_nextTest_22 : decode cX10_nextTest 22 = .ok (.aload_n 0, 1) := by decide +kernel
theorem dX10_nextTest_23 : decode cX10_nextTest 23 = .ok (.getfield 91, 3) := by decide +kernel
theorem dX10_nextTest_26 : decode cX10_nextTest 26 = .ok (.if_icmp .ge 165, 3) := by decide +kernel
theorem dX10_nextTest_29 : decode cX10_nextTest 29 = .ok (.iconst 0, 1) := by decide +kernel
theorem dX10_nextTest_30 : decode cX10_nextTest 30 = .ok (.istore 4, 2) := by decide +kernel
theorem dX10_nextTest_32 : decode cX10_nextTest 32 = .ok (.iconst 0, 1) := by decide +kernel
theorem dX10_nextTest_33 : decode cX10_nextTest 33 = .ok (.istore 5, 2) := by decide +kernel
theorem dX10_nextTest_35 : decode cX10_nextTest 35 = .ok (.iconst 0, 1) := by decide +kernel
theorem dX10_nextTest_36 : decode cX10_nextTest 36 = .ok (.istore 6, 2) := by decide +kernel
theorem dX10_nextTest_38 : decode cX10_nextTest 38 = .ok (.iconst 0, 1) := by decide +kernel
theorem dX10_nextTest_39 : decode cX10_nextTest 39 = .ok (.istore 7, 2) := by decide +kernel
theorem dX10_nextTest_41 : decode cX10_nextTest 41 = .ok (.iload 7, 2) := by decide +kernel
theorem dX10_nextTest_43 : decode cX10_nextTest 43 = .ok (.sipush 168, 3) := by decide +kernel
theorem dX10_nextTest_46 : decode cX10_nextTest 46 = .ok (.if_icmp .ge 82, 3) := by decide +kernel
theorem dX10_nextTest_49 : decode cX10_nextTest 49 = .ok (.aload_n 0, 1) := by decide +kernel
theorem dX10_nextTest_50 : decode cX10_nextTest 50 = .ok (.iload 7, 2) := by decide +kernel
theorem dX10_nextTest_52 : decode cX10_nextTest 52 = .ok (.invokevirtual 207, 3) := by decide +kernel
theorem dX10_nextTest_55 : decode cX10_nextTest 55 = .ok (.ifCond .eq 17, 3) := by decide +kernel
theorem dX10_nextTest_58 : decode cX10_nextTest 58 = .ok (.aload_n 0, 1) := by decide +kernel
theorem dX10_nextTest_59 : decode cX10_nextTest 59 = .ok (.iload_n 3, 1) := by decide +kernel
theorem dX10_nextTest_60 : decode cX10_nextTest 60 = .ok (.aload_n 0, 1) := by decide +kernel
theorem dX10_nextTest_61 : decode cX10_nextTest 61 = .ok (.getfield 99, 3) := by decide +kernel
theorem dX10_nextTest_64 : decode cX10_nextTest 64 = .ok (.iload 7, 2) := by decide +kernel
theorem dX10_nextTest_66 : decode cX10_nextTest 66 = .ok (.invokevirtual 132, 3) := by decide +kernel
theorem dX10_nextTest_69 : decode cX10_nextTest 69 = .ok (.goto 4, 3) := by decide +kernel
theorem dX10_nextTest_72 : decode cX10_nextTest 72 = .ok (.iconst (-1), 1) := by decide +kernel
theorem dX10_nextTest_73 : decode cX10_nextTest 73 = .ok (.istore 8, 2) := by decide +kernel
theorem dX10_nextTest_75 : decode cX10_nextTest 75 = .ok (.iload 4, 2) := by decide +kernel
theorem dX10_nextTest_77 : decode cX10_nextTest 77 = .ok (.iload 8, 2) := by decide +kernel
theorem dX10_nextTest_79 : decode cX10_nextTest 79 = .ok (.ifCond .ne 7, 3) := by decide +kernel
theorem dX10_nextTest_82 : decode cX10_nextTest 82 = .ok (.iconst 1, 1) := by decide +kernel
theorem dX10_nextTest_83 : decode cX10_nextTest 83 = .ok (.goto 4, 3) := by decide +kernel
theorem dX10_nextTest_86 : decode cX10_nextTest 86 = .ok (.iconst 0, 1) := by decide +kernel
theorem dX10_nextTest_87 : decode cX10_nextTest 87 = .ok (.iadd, 1) := by decide +kernel
theorem dX10_nextTest_88 : decode cX10_nextTest 88 = .ok (.istore 4, 2) := by decide +kernel
theorem dX10_nextTest_90 : decode cX10_nextTest 90 = .ok (.iload 5, 2) := by decide +kernel
theorem dX10_nextTest_92 : decode cX10_nextTest 92 = .ok (.iload 8, 2) := by decide +kernel
theorem dX10_nextTest_94 : decode cX10_nextTest 94 = .ok (.iconst 1, 1) := by decide +kernel
theorem dX10_nextTest_95 : decode cX10_nextTest 95 = .ok (.if_icmp .ne 7, 3) := by decide +kernel
theorem dX10_nextTest_98 : decode cX10_nextTest 98 = .ok (.iconst 1, 1) := by decide +kernel
theorem dX10_nextTest_99 : decode cX10_nextTest 99 = .ok (.goto 4, 3) := by decide +kernel
theorem dX10_nextTest_102 : decode cX10_nextTest 102 = .ok (.iconst 0, 1) := by decide +kernel
theorem dX10_nextTest_103 : decode cX10_nextTest 103 = .ok (.iadd, 1) := by decide +kernel
theorem dX10_nextTest_104 : decode cX10_nextTest 104 = .ok (.istore 5, 2) := by decide +kernel
theorem dX10_nextTest_106 : decode cX10_nextTest 106 = .ok (.iload 6, 2) := by decide +kernel
theorem dX10_nextTest_108 : decode cX10_nextTest 108 = .ok (.iload 8, 2) := by decide +kernel
theorem dX10_nextTest_110 : decode cX10_nextTest 110 = .ok (.iconst 2, 1) := by decide +kernel
theorem dX10_nextTest_111 : decode cX10_nextTest 111 = .ok (.if_icmp .ne 7, 3) := by decide +kernel
theorem dX10_nextTest_114 : decode cX10_nextTest 114 = .ok (.iconst 1, 1) := by decide +kernel
theorem dX10_nextTest_115 : decode cX10_nextTest 115 = .ok (.goto 4, 3) := by decide +kernel
theorem dX10_nextTest_118 : decode cX10_nextTest 118 = .ok (.iconst 0, 1) := by decide +kernel
theorem dX10_nextTest_119 : decode cX10_nextTest 119 = .ok (.iadd, 1) := by decide +kernel
theorem dX10_nextTest_120 : decode cX10_nextTest 120 = .ok (.istore 6, 2) := by decide +kernel
theorem dX10_nextTest_122 : decode cX10_nextTest 122 = .ok (.iinc 7 1, 3) := by decide +kernel
theorem dX10_nextTest_125 : decode cX10_nextTest 125 = .ok (.goto (-84), 3) := by decide +kernel
theorem dX10_nextTest_128 : decode cX10_nextTest 128 = .ok (.iload 4, 2) := by decide +kernel
theorem dX10_nextTest_130 : decode cX10_nextTest 130 = .ok (.iload 5, 2) := by decide +kernel
theorem dX10_nextTest_132 : decode cX10_nextTest 132 = .ok (.if_icmp .le 8, 3) := by decide +kernel
theorem dX10_nextTest_135 : decode cX10_nextTest 135 = .ok (.iload 4, 2) := by decide +kernel
theorem dX10_nextTest_137 : decode cX10_nextTest 137 = .ok (.goto 5, 3) := by decide +kernel
theorem dX10_nextTest_140 : decode cX10_nextTest 140 = .ok (.iload 5, 2) := by decide +kernel
theorem dX10_nextTest_142 : decode cX10_nextTest 142 = .ok (.istore 7, 2) := by decide +kernel
theorem dX10_nextTest_144 : decode cX10_nextTest 144 = .ok (.iload 6, 2) := by decide +kernel
theorem dX10_nextTest_146 : decode cX10_nextTest 146 = .ok (.iload 7, 2) := by decide +kernel
theorem dX10_nextTest_148 : decode cX10_nextTest 148 = .ok (.if_icmp .le 8, 3) := by decide +kernel
theorem dX10_nextTest_151 : decode cX10_nextTest 151 = .ok (.iload 6, 2) := by decide +kernel
theorem dX10_nextTest_153 : decode cX10_nextTest 153 = .ok (.goto 5, 3) := by decide +kernel
theorem dX10_nextTest_156 : decode cX10_nextTest 156 = .ok (.iload 7, 2) := by decide +kernel
theorem dX10_nextTest_158 : decode cX10_nextTest 158 = .ok (.istore 7, 2) := by decide +kernel
theorem dX10_nextTest_160 : decode cX10_nextTest 160 = .ok (.iload 7, 2) := by decide +kernel
theorem dX10_nextTest_162 : decode cX10_nextTest 162 = .ok (.iload_n 2, 1) := by decide +kernel
theorem dX10_nextTest_163 : decode cX10_nextTest 163 = .ok (.if_icmp .ge 7, 3) := by decide +kernel
theorem dX10_nextTest_166 : decode cX10_nextTest 166 = .ok (.iload_n 3, 1) := by decide +kernel
theorem dX10_nextTest_167 : decode cX10_nextTest 167 = .ok (.goto 4, 3) := by decide +kernel
theorem dX10_nextTest_170 : decode cX10_nextTest 170 = .ok (.iload_n 1, 1) := by decide +kernel
theorem dX10_nextTest_171 : decode cX10_nextTest 171 = .ok (.istore_n 1, 1) := by decide +kernel
theorem dX10_nextTest_172 : decode cX10_nextTest 172 = .ok (.iload 7, 2) := by decide +kernel
theorem dX10_nextTest_174 : decode cX10_nextTest 174 = .ok (.iload_n 2, 1) := by decide +kernel
theorem dX10_nextTest_175 : decode cX10_nextTest 175 = .ok (.if_icmp .ge 8, 3) := by decide +kernel
theorem dX10_nextTest_178 : decode cX10_nextTest 178 = .ok (.iload 7, 2) := by decide +kernel
theorem dX10_nextTest_180 : decode cX10_nextTest 180 = .ok (.goto 4, 3) := by decide +kernel
theorem dX10_nextTest_183 : decode cX10_nextTest 183 = .ok (.iload_n 2, 1) := by decide +kernel
theorem dX10_nextTest_184 : decode cX10_nextTest 184 = .ok (.istore_n 2, 1) := by decide +kernel
theorem dX10_nextTest_185 : decode cX10_nextTest 185 = .ok (.iinc 3 1, 3) := by decide +kernel
theorem dX10_nextTest_188 : decode cX10_nextTest 188 = .ok (.goto (-167), 3) := by decide +kernel
theorem dX10_nextTest_191 : decode cX10_nextTest 191 = .ok (.iload_n 1, 1) := by decide +kernel
theorem dX10_nextTest_192 : decode cX10_nextTest 192 = .ok (.ireturn, 1) := by decide +kernel
theorem dX10_edge_0 : decode cX10_edge 0 = .ok (.iload_n 0, 1) := by decide +kernel
theorem dX10_edge_1 : decode cX10_edge 1 = .ok (.iload_n 1, 1) := by decide +kernel
theorem dX10_edge_2 : decode cX10_edge 2 = .ok (.if_icmp .ge 7, 3) := by decide +kernel
theorem dX10_edge_5 : decode cX10_edge 5 = .ok (.iload_n 0, 1) := by decide +kernel
theorem dX10_edge_6 : decode cX10_edge 6 = .ok (.goto 4, 3) := by decide +kernel
theorem dX10_edge_9 : decode cX10_edge 9 = .ok (.iload_n 1, 1) := by decide +kernel
theorem dX10_edge_10 : decode cX10_edge 10 = .ok (.istore_n 2, 1) := by decide +kernel
theorem dX10_edge_11 : decode cX10_edge 11 = .ok (.iload_n 0, 1) := by decide +kernel
theorem dX10_edge_12 : decode cX10_edge 12 = .ok (.iload_n 1, 1) := by decide +kernel
theorem dX10_edge_13 : decode cX10_edge 13 = .ok (.if_icmp .ge 7, 3) := by decide +kernel
theorem dX10_edge_16 : decode cX10_edge 16 = .ok (.iload_n 1, 1) := by decide +kernel
theorem dX10_edge_17 : decode cX10_edge 17 = .ok (.goto 4, 3) := by decide +kernel
theorem dX10_edge_20 : decode cX10_edge 20 = .ok (.iload_n 0, 1) := by decide +kernel
theorem dX10_edge_21 : decode cX10_edge 21 = .ok (.istore_n 3, 1) := by decide +kernel
theorem dX10_edge_22 : decode cX10_edge 22 = .ok (.iload_n 3, 1) := by decide +kernel
theorem dX10_edge_23 : decode cX10_edge 23 = .ok (.iload_n 2, 1) := by decide +kernel
theorem dX10_edge_24 : decode cX10_edge 24 = .ok (.isub, 1) := by decide +kernel
theorem dX10_edge_25 : decode cX10_edge 25 = .ok (.bipush 6, 2) := by decide +kernel
theorem dX10_edge_27 : decode cX10_edge 27 = .ok (.if_icmp .ne 8, 3) := by decide +kernel
theorem dX10_edge_30 : decode cX10_edge 30 = .ok (.bipush 24, 2) := by decide +kernel
theorem dX10_edge_32 : decode cX10_edge 32 = .ok (.iload_n 2, 1) := by decide +kernel
theorem dX10_edge_33 : decode cX10_edge 33 = .ok (.iadd, 1) := by decide +kernel
theorem dX10_edge_34 : decode cX10_edge 34 = .ok (.ireturn, 1) := by decide +kernel
theorem dX10_edge_35 : decode cX10_edge 35 = .ok (.iload_n 3, 1) := by decide +kernel
theorem dX10_edge_36 : decode cX10_edge 36 = .ok (.iload_n 2, 1) := by decide +kernel
theorem dX10_edge_37 : decode cX10_edge 37 = .ok (.isub, 1) := by decide +kernel
theorem dX10_edge_38 : decode cX10_edge 38 = .ok (.iconst 1, 1) := by decide +kernel
theorem dX10_edge_39 : decode cX10_edge 39 = .ok (.if_icmp .ne 15, 3) := by decide +kernel
theorem dX10_edge_42 : decode cX10_edge 42 = .ok (.iload_n 2, 1) := by decide +kernel
theorem dX10_edge_43 : decode cX10_edge 43 = .ok (.bipush 6, 2) := by decide +kernel
theorem dX10_edge_45 : decode cX10_edge 45 = .ok (.irem, 1) := by decide +kernel
theorem dX10_edge_46 : decode cX10_edge 46 = .ok (.iconst 5, 1) := by decide +kernel
theorem dX10_edge_47 : decode cX10_edge 47 = .ok (.if_icmp .ge 7, 3) := by decide +kernel
theorem dX10_edge_50 : decode cX10_edge 50 = .ok (.iload_n 2, 1) := by decide +kernel
theorem dX10_edge_51 : decode cX10_edge 51 = .ok (.goto 4, 3) := by decide +kernel
theorem dX10_edge_54 : decode cX10_edge 54 = .ok (.iconst (-1), 1) := by decide +kernel
theorem dX10_edge_55 : decode cX10_edge 55 = .ok (.ireturn, 1) := by decide +kernel
theorem dX10_frame_0 : decode cX10_frame 0 = .ok (.iload_n 1, 1) := by decide +kernel
theorem dX10_frame_1 : decode cX10_frame 1 = .ok (.iconst 0, 1) := by decide +kernel
theorem dX10_frame_2 : decode cX10_frame 2 = .ok (.bipush 23, 2) := by decide +kernel
theorem dX10_frame_4 : decode cX10_frame 4 = .ok (.invokestatic 95, 3) := by decide +kernel
theorem dX10_frame_7 : decode cX10_frame 7 = .ok (.ifCond .eq 30, 3) := by decide +kernel
theorem dX10_frame_10 : decode cX10_frame 10 = .ok (.iload_n 2, 1) := by decide +kernel
theorem dX10_frame_11 : decode cX10_frame 11 = .ok (.iconst 0, 1) := by decide +kernel
theorem dX10_frame_12 : decode cX10_frame 12 = .ok (.bipush 23, 2) := by decide +kernel
theorem dX10_frame_14 : decode cX10_frame 14 = .ok (.invokestatic 95, 3) := by decide +kernel
theorem dX10_frame_17 : decode cX10_frame 17 = .ok (.ifCond .eq 20, 3) := by decide +kernel
theorem dX10_frame_20 : decode cX10_frame 20 = .ok (.iload_n 1, 1) := by decide +kernel
theorem dX10_frame_21 : decode cX10_frame 21 = .ok (.iload_n 2, 1) := by decide +kernel
theorem dX10_frame_22 : decode cX10_frame 22 = .ok (.invokestatic 213, 3) := by decide +kernel
theorem dX10_frame_25 : decode cX10_frame 25 = .ok (.ifCond .lt 12, 3) := by decide +kernel
theorem dX10_frame_28 : decode cX10_frame 28 = .ok (.iload_n 3, 1) := by decide +kernel
theorem dX10_frame_29 : decode cX10_frame 29 = .ok (.iconst 0, 1) := by decide +kernel
theorem dX10_frame_30 : decode cX10_frame 30 = .ok (.iconst 2, 1) := by decide +kernel
theorem dX10_frame_31 : decode cX10_frame 31 = .ok (.invokestatic 95, 3) := by decide +kernel
theorem dX10_frame_34 : decode cX10_frame 34 = .ok (.ifCond .ne 5, 3) := by decide +kernel
theorem dX10_frame_37 : decode cX10_frame 37 = .ok (.iconst (-1), 1) := by decide +kernel
theorem dX10_frame_38 : decode cX10_frame 38 = .ok (.ireturn, 1) := by decide +kernel
theorem dX10_frame_39 : decode cX10_frame 39 = .ok (.aload_n 0, 1) := by decide +kernel
theorem dX10_frame_40 : decode cX10_frame 40 = .ok (.getfield 82, 3) := by decide +kernel
theorem dX10_frame_43 : decode cX10_frame 43 = .ok (.iload_n 1, 1) := by decide +kernel
theorem dX10_frame_44 : decode cX10_frame 44 = .ok (.iload_n 2, 1) := by decide +kernel
theorem dX10_frame_45 : decode cX10_frame 45 = .ok (.invokestatic 213, 3) := by decide +kernel
theorem dX10_frame_48 : decode cX10_frame 48 = .ok (.iaload, 1) := by decide +kernel
theorem dX10_frame_49 : decode cX10_frame 49 = .ok (.istore 4, 2) := by decide +kernel
theorem dX10_frame_51 : decode cX10_frame 51 = .ok (.aload_n 0, 1) := by decide +kernel
theorem dX10_frame_52 : decode cX10_frame 52 = .ok (.getfield 82, 3) := by decide +kernel
theorem dX10_frame_55 : decode cX10_frame 55 = .ok (.iload_n 1, 1) := by decide +kernel
theorem dX10_frame_56 : decode cX10_frame 56 = .ok (.iload_n 2, 1) := by decide +kernel
theorem dX10_frame_57 : decode cX10_frame 57 = .ok (.invokestatic 213, 3) := by decide +kernel
theorem dX10_frame_60 : decode cX10_frame 60 = .ok (.iload_n 3, 1) := by decide +kernel
theorem dX10_frame_61 : decode cX10_frame 61 = .ok (.iastore, 1) := by decide +kernel
theorem dX10_frame_62 : decode cX10_frame 62 = .ok (.iload 4, 2) := by decide +kernel
theorem dX10_frame_64 : decode cX10_frame 64 = .ok (.ireturn, 1) := by decide +kernel
theorem dX10_spreads_0 : decode cX10_spreads 0 = .ok (.iconst 1, 1) := by decide +kernel
theorem dX10_spreads_1 : decode cX10_spreads 1 = .ok (.istore_n 2, 1) := by decide +kernel
theorem dX10_spreads_2 : decode cX10_spreads 2 = .ok (.iload_n 2, 1) := by decide +kernel
theorem dX10_spreads_3 : decode cX10_spreads 3 = .ok (.ifCond .eq 125, 3) := by decide +kernel
theorem dX10_spreads_6 : decode cX10_spreads 6 = .ok (.iconst 0, 1) := by decide +kernel
theorem dX10_spreads_7 : decode cX10_spreads 7 = .ok (.istore_n 2, 1) := by decide +kernel
theorem dX10_spreads_8 : decode cX10_spreads 8 = .ok (.iconst 0, 1) := by decide +kernel
theorem dX10_spreads_9 : decode cX10_spreads 9 = .ok (.istore_n 3, 1) := by decide +kernel
theorem dX10_spreads_10 : decode cX10_spreads 10 = .ok (.iload_n 3, 1) := by decide +kernel
theorem dX10_spreads_11 : decode cX10_spreads 11 = .ok (.bipush 24, 2) := by decide +kernel
theorem dX10_spreads_13 : decode cX10_spreads 13 = .ok (.if_icmp .ge 112, 3) := by decide +kernel
theorem dX10_spreads_16 : decode cX10_spreads 16 = .ok (.iconst 0, 1) := by decide +kernel
theorem dX10_spreads_17 : decode cX10_spreads 17 = .ok (.istore 4, 2) := by decide +kernel
theorem dX10_spreads_19 : decode cX10_spreads 19 = .ok (.iload 4, 2) := by decide +kernel
theorem dX10_spreads_21 : decode cX10_spreads 21 = .ok (.bipush 24, 2) := by decide +kernel
theorem dX10_spreads_23 : decode cX10_spreads 23 = .ok (.if_icmp .ge 96, 3) := by decide +kernel
theorem dX10_spreads_26 : decode cX10_spreads 26 = .ok (.iload_n 3, 1) := by decide +kernel
theorem dX10_spreads_27 : decode cX10_spreads 27 = .ok (.iload 4, 2) := by decide +kernel
theorem dX10_spreads_29 : decode cX10_spreads 29 = .ok (.invokestatic 213, 3) := by decide +kernel
theorem dX10_spreads_32 : decode cX10_spreads 32 = .ok (.istore 5, 2) := by decide +kernel
theorem dX10_spreads_34 : decode cX10_spreads 34 = .ok (.iload 5, 2) := by decide +kernel
theorem dX10_spreads_36 : decode cX10_spreads 36 = .ok (.ifCond .lt 77, 3) := by decide +kernel
theorem dX10_spreads_39 : decode cX10_spreads 39 = .ok (.aload_n 0, 1) := by decide +kernel
theorem dX10_spreads_40 : decode cX10_spreads 40 = .ok (.getfield 82, 3) := by decide +kernel
theorem dX10_spreads_43 : decode cX10_spreads 43 = .ok (.iload 5, 2) := by decide +kernel
theorem dX10_spreads_45 : decode cX10_spreads 45 = .ok (.iaload, 1) := by decide +kernel
theorem dX10_spreads_46 : decode cX10_spreads 46 = .ok (.iconst 1, 1) := by decide +kernel
theorem dX10_spreads_47 : decode cX10_spreads 47 = .ok (.if_icmp .eq 66, 3) := by decide +kernel
theorem dX10_spreads_50 : decode cX10_spreads 50 = .ok (.aload_n 0, 1) := by decide +kernel
theorem dX10_spreads_51 : decode cX10_spreads 51 = .ok (.getfield 88, 3) := by decide +kernel
theorem dX10_spreads_54 : decode cX10_spreads 54 = .ok (.bipush 24, 2) := by decide +kernel
theorem dX10_spreads_56 : decode cX10_spreads 56 = .ok (.iload_n 1, 1) := by decide +kernel
theorem dX10_spreads_57 : decode cX10_spreads 57 = .ok (.imul, 1) := by decide +kernel
theorem dX10_spreads_58 : decode cX10_spreads 58 = .ok (.iload_n 3, 1) := by decide +kernel
theorem dX10_spreads_59 : decode cX10_spreads 59 = .ok (.iadd, 1) := by decide +kernel
theorem dX10_spreads_60 : decode cX10_spreads 60 = .ok (.iaload, 1) := by decide +kernel
theorem dX10_spreads_61 : decode cX10_spreads 61 = .ok (.aload_n 0, 1) := by decide +kernel
theorem dX10_spreads_62 : decode cX10_spreads 62 = .ok (.getfield 82, 3) := by decide +kernel
theorem dX10_spreads_65 : decode cX10_spreads 65 = .ok (.iload 5, 2) := by decide +kernel
theorem dX10_spreads_67 : decode cX10_spreads 67 = .ok (.iaload, 1) := by decide +kernel
theorem dX10_spreads_68 : decode cX10_spreads 68 = .ok (.iconst 2, 1) := by decide +kernel
theorem dX10_spreads_69 : decode cX10_spreads 69 = .ok (.if_icmp .ne 7, 3) := by decide +kernel
theorem dX10_spreads_72 : decode cX10_spreads 72 = .ok (.iconst 0, 1) := by decide +kernel
theorem dX10_spreads_73 : decode cX10_spreads 73 = .ok (.goto 4, 3) := by decide +kernel
theorem dX10_spreads_76 : decode cX10_spreads 76 = .ok (.iconst 1, 1) := by decide +kernel
theorem dX10_spreads_77 : decode cX10_spreads 77 = .ok (.iadd, 1) := by decide +kernel
theorem dX10_spreads_78 : decode cX10_spreads 78 = .ok (.istore 6, 2) := by decide +kernel
theorem dX10_spreads_80 : decode cX10_spreads 80 = .ok (.iload 6, 2) := by decide +kernel
theorem dX10_spreads_82 : decode cX10_spreads 82 = .ok (.aload_n 0, 1) := by decide +kernel
theorem dX10_spreads_83 : decode cX10_spreads 83 = .ok (.getfield 88, 3) := by decide +kernel
theorem dX10_spreads_86 : decode cX10_spreads 86 = .ok (.bipush 24, 2) := by decide +kernel
theorem dX10_spreads_88 : decode cX10_spreads 88 = .ok (.iload_n 1, 1) := by decide +kernel
theorem dX10_spreads_89 : decode cX10_spreads 89 = .ok (.imul, 1) := by decide +kernel
theorem dX10_spreads_90 : decode cX10_spreads 90 = .ok (.iload 4, 2) := by decide +kernel
theorem dX10_spreads_92 : decode cX10_spreads 92 = .ok (.iadd, 1) := by decide +kernel
theorem dX10_spreads_93 : decode cX10_spreads 93 = .ok (.iaload, 1) := by decide +kernel
theorem dX10_spreads_94 : decode cX10_spreads 94 = .ok (.if_icmp .ge 19, 3) := by decide +kernel
theorem dX10_spreads_97 : decode cX10_spreads 97 = .ok (.aload_n 0, 1) := by decide +kernel
theorem dX10_spreads_98 : decode cX10_spreads 98 = .ok (.getfield 88, 3) := by decide +kernel
theorem dX10_spreads_101 : decode cX10_spreads 101 = .ok (.bipush 24, 2) := by decide +kernel
theorem dX10_spreads_103 : decode cX10_spreads 103 = .ok (.iload_n 1, 1) := by decide +kernel
theorem dX10_spreads_104 : decode cX10_spreads 104 = .ok (.imul, 1) := by decide +kernel
theorem dX10_spreads_105 : decode cX10_spreads 105 = .ok (.iload 4, 2) := by decide +kernel
theorem dX10_spreads_107 : decode cX10_spreads 107 = .ok (.iadd, 1) := by decide +kernel
theorem dX10_spreads_108 : decode cX10_spreads 108 = .ok (.iload 6, 2) := by decide +kernel
theorem dX10_spreads_110 : decode cX10_spreads 110 = .ok (.iastore, 1) := by decide +kernel
theorem dX10_spreads_111 : decode cX10_spreads 111 = .ok (.iconst 1, 1) := by decide +kernel
theorem dX10_spreads_112 : decode cX10_spreads 112 = .ok (.istore_n 2, 1) := by decide +kernel
theorem dX10_spreads_113 : decode cX10_spreads 113 = .ok (.iinc 4 1, 3) := by decide +kernel
theorem dX10_spreads_116 : decode cX10_spreads 116 = .ok (.goto (-97), 3) := by decide +kernel
theorem dX10_spreads_119 : decode cX10_spreads 119 = .ok (.iinc 3 1, 3) := by decide +kernel
theorem dX10_spreads_122 : decode cX10_spreads 122 = .ok (.goto (-112), 3) := by decide +kernel
theorem dX10_spreads_125 : decode cX10_spreads 125 = .ok (.goto (-123), 3) := by decide +kernel
theorem dX10_spreads_128 : decode cX10_spreads 128 = .ok (.return_, 1) := by decide +kernel
theorem dX10_wires_0 : decode cX10_wires 0 = .ok (.iload_n 1, 1) := by decide +kernel
theorem dX10_wires_1 : decode cX10_wires 1 = .ok (.iconst 1, 1) := by decide +kernel
theorem dX10_wires_2 : decode cX10_wires 2 = .ok (.ldc 216, 2) := by decide +kernel
theorem dX10_wires_4 : decode cX10_wires 4 = .ok (.invokestatic 95, 3) := by decide +kernel
theorem dX10_wires_7 : decode cX10_wires 7 = .ok (.ifCond .eq 11, 3) := by decide +kernel
theorem dX10_wires_10 : decode cX10_wires 10 = .ok (.iload_n 1, 1) := by decide +kernel
theorem dX10_wires_11 : decode cX10_wires 11 = .ok (.invokestatic 103, 3) := by decide +kernel
theorem dX10_wires_14 : decode cX10_wires 14 = .ok (.iconst 5, 1) := by decide +kernel
theorem dX10_wires_15 : decode cX10_wires 15 = .ok (.if_icmp .le 5, 3) := by decide +kernel
theorem dX10_wires_18 : decode cX10_wires 18 = .ok (.iconst (-1), 1) := by decide +kernel
theorem dX10_wires_19 : decode cX10_wires 19 = .ok (.ireturn, 1) := by decide +kernel
theorem dX10_wires_20 : decode cX10_wires 20 = .ok (.iload_n 1, 1) := by decide +kernel
theorem dX10_wires_21 : decode cX10_wires 21 = .ok (.invokestatic 103, 3) := by decide +kernel
theorem dX10_wires_24 : decode cX10_wires 24 = .ok (.istore_n 2, 1) := by decide +kernel
theorem dX10_wires_25 : decode cX10_wires 25 = .ok (.iconst 0, 1) := by decide +kernel
theorem dX10_wires_26 : decode cX10_wires 26 = .ok (.istore_n 3, 1) := by decide +kernel
theorem dX10_wires_27 : decode cX10_wires 27 = .ok (.iload_n 3, 1) := by decide +kernel
theorem dX10_wires_28 : decode cX10_wires 28 = .ok (.sipush 768, 3) := by decide +kernel
theorem dX10_wires_31 : decode cX10_wires 31 = .ok (.if_icmp .ge 18, 3) := by decide +kernel
theorem dX10_wires_34 : decode cX10_wires 34 = .ok (.aload_n 0, 1) := by decide +kernel
theorem dX10_wires_35 : decode cX10_wires 35 = .ok (.getfield 88, 3) := by decide +kernel
theorem dX10_wires_38 : decode cX10_wires 38 = .ok (.iload_n 3, 1) := by decide +kernel
theorem dX10_wires_39 : decode cX10_wires 39 = .ok (.sipush 9999, 3) := by decide +kernel
theorem dX10_wires_42 : decode cX10_wires 42 = .ok (.iastore, 1) := by decide +kernel
theorem dX10_wires_43 : decode cX10_wires 43 = .ok (.iinc 3 1, 3) := by decide +kernel
theorem dX10_wires_46 : decode cX10_wires 46 = .ok (.goto (-19), 3) := by decide +kernel
theorem dX10_wires_49 : decode cX10_wires 49 = .ok (.iconst 0, 1) := by decide +kernel
theorem dX10_wires_50 : decode cX10_wires 50 = .ok (.istore_n 3, 1) := by decide +kernel
theorem dX10_wires_51 : decode cX10_wires 51 = .ok (.iconst 0, 1) := by decide +kernel
theorem dX10_wires_52 : decode cX10_wires 52 = .ok (.istore 4, 2) := by decide +kernel
theorem dX10_wires_54 : decode cX10_wires 54 = .ok (.iload 4, 2) := by decide +kernel
theorem dX10_wires_56 : decode cX10_wires 56 = .ok (.bipush 24, 2) := by decide +kernel
theorem dX10_wires_58 : decode cX10_wires 58 = .ok (.if_icmp .ge 37, 3) := by decide +kernel
theorem dX10_wires_61 : decode cX10_wires 61 = .ok (.iload_n 1, 1) := by decide +kernel
theorem dX10_wires_62 : decode cX10_wires 62 = .ok (.iload 4, 2) := by decide +kernel
theorem dX10_wires_64 : decode cX10_wires 64 = .ok (.ishr, 1) := by decide +kernel
theorem dX10_wires_65 : decode cX10_wires 65 = .ok (.iconst 1, 1) := by decide +kernel
theorem dX10_wires_66 : decode cX10_wires 66 = .ok (.iand, 1) := by decide +kernel
theorem dX10_wires_67 : decode cX10_wires 67 = .ok (.iconst 1, 1) := by decide +kernel
theorem dX10_wires_68 : decode cX10_wires 68 = .ok (.if_icmp .ne 21, 3) := by decide +kernel
theorem dX10_wires_71 : decode cX10_wires 71 = .ok (.aload_n 0, 1) := by decide +kernel
theorem dX10_wires_72 : decode cX10_wires 72 = .ok (.getfield 88, 3) := by decide +kernel
theorem dX10_wires_75 : decode cX10_wires 75 = .ok (.bipush 24, 2) := by decide +kernel
theorem dX10_wires_77 : decode cX10_wires 77 = .ok (.iconst 1, 1) := by decide +kernel
theorem dX10_wires_78 : decode cX10_wires 78 = .ok (.iload_n 3, 1) := by decide +kernel
theorem dX10_wires_79 : decode cX10_wires 79 = .ok (.ishl, 1) := by decide +kernel
theorem dX10_wires_80 : decode cX10_wires 80 = .ok (.imul, 1) := by decide +kernel
theorem dX10_wires_81 : decode cX10_wires 81 = .ok (.iload 4, 2) := by decide +kernel
theorem dX10_wires_83 : decode cX10_wires 83 = .ok (.iadd, 1) := by decide +kernel
theorem dX10_wires_84 : decode cX10_wires 84 = .ok (.iconst 0, 1) := by decide +kernel
theorem dX10_wires_85 : decode cX10_wires 85 = .ok (.iastore, 1) := by decide +kernel
theorem dX10_wires_86 : decode cX10_wires 86 = .ok (.iinc 3 1, 3) := by decide +kernel
theorem dX10_wires_89 : decode cX10_wires 89 = .ok (.iinc 4 1, 3) := by decide +kernel
theorem dX10_wires_92 : decode cX10_wires 92 = .ok (.goto (-38), 3) := by decide +kernel
theorem dX10_wires_95 : decode cX10_wires 95 = .ok (.iconst 1, 1) := by decide +kernel
theorem dX10_wires_96 : decode cX10_wires 96 = .ok (.istore 4, 2) := by decide +kernel
theorem dX10_wires_98 : decode cX10_wires 98 = .ok (.iload 4, 2) := by decide +kernel
theorem dX10_wires_100 : decode cX10_wires 100 = .ok (.iconst 1, 1) := by decide +kernel
theorem dX10_wires_101 : decode cX10_wires 101 = .ok (.iload_n 2, 1) := by decide +kernel
theorem dX10_wires_102 : decode cX10_wires 102 = .ok (.ishl, 1) := by decide +kernel
theorem dX10_wires_103 : decode cX10_wires 103 = .ok (.if_icmp .ge 140, 3) := by decide +kernel
theorem dX10_wires_106 : decode cX10_wires 106 = .ok (.iload 4, 2) := by decide +kernel
theorem dX10_wires_108 : decode cX10_wires 108 = .ok (.iconst 1, 1) := by decide +kernel
theorem dX10_wires_109 : decode cX10_wires 109 = .ok (.isub, 1) := by decide +kernel
theorem dX10_wires_110 : decode cX10_wires 110 = .ok (.iload 4, 2) := by decide +kernel
theorem dX10_wires_112 : decode cX10_wires 112 = .ok (.iand, 1) := by decide +kernel
theorem dX10_wires_113 : decode cX10_wires 113 = .ok (.istore 5, 2) := by decide +kernel
theorem dX10_wires_115 : decode cX10_wires 115 = .ok (.iload 5, 2) := by decide +kernel
theorem dX10_wires_117 : decode cX10_wires 117 = .ok (.ifCond .le 114, 3) := by decide +kernel
theorem dX10_wires_120 : decode cX10_wires 120 = .ok (.iconst 0, 1) := by decide +kernel
theorem dX10_wires_121 : decode cX10_wires 121 = .ok (.istore 6, 2) := by decide +kernel
theorem dX10_wires_123 : decode cX10_wires 123 = .ok (.iload 6, 2) := by decide +kernel
theorem dX10_wires_125 : decode cX10_wires 125 = .ok (.bipush 24, 2) := by decide +kernel
theorem dX10_wires_127 : decode cX10_wires 127 = .ok (.if_icmp .ge 92, 3) := by decide +kernel
theorem dX10_wires_130 : decode cX10_wires 130 = .ok (.aload_n 0, 1) := by decide +kernel
theorem dX10_wires_131 : decode cX10_wires 131 = .ok (.getfield 88, 3) := by decide +kernel
theorem dX10_wires_134 : decode cX10_wires 134 = .ok (.bipush 24, 2) := by decide +kernel
theorem dX10_wires_136 : decode cX10_wires 136 = .ok (.iload 5, 2) := by decide +kernel
theorem dX10_wires_138 : decode cX10_wires 138 = .ok (.imul, 1) := by decide +kernel
theorem dX10_wires_139 : decode cX10_wires 139 = .ok (.iload 6, 2) := by decide +kernel
theorem dX10_wires_141 : decode cX10_wires 141 = .ok (.iadd, 1) := by decide +kernel
theorem dX10_wires_142 : decode cX10_wires 142 = .ok (.iaload, 1) := by decide +kernel
theorem dX10_wires_143 : decode cX10_wires 143 = .ok (.aload_n 0, 1) := by decide +kernel
theorem dX10_wires_144 : decode cX10_wires 144 = .ok (.getfield 88, 3) := by decide +kernel
theorem dX10_wires_147 : decode cX10_wires 147 = .ok (.bipush 24, 2) := by decide +kernel
theorem dX10_wires_149 : decode cX10_wires 149 = .ok (.iload 4, 2) := by decide +kernel
theorem dX10_wires_151 : decode cX10_wires 151 = .ok (.iload 5, 2) := by decide +kernel
theorem dX10_wires_153 : decode cX10_wires 153 = .ok (.iconst (-1), 1) := by decide +kernel
theorem dX10_wires_154 : decode cX10_wires 154 = .ok (.ixor, 1) := by decide +kernel
theorem dX10_wires_155 : decode cX10_wires 155 = .ok (.iand, 1) := by decide +kernel
theorem dX10_wires_156 : decode cX10_wires 156 = .ok (.imul, 1) := by decide +kernel
theorem dX10_wires_157 : decode cX10_wires 157 = .ok (.iload 6, 2) := by decide +kernel
theorem dX10_wires_159 : decode cX10_wires 159 = .ok (.iadd, 1) := by decide +kernel
theorem dX10_wires_160 : decode cX10_wires 160 = .ok (.iaload, 1) := by decide +kernel
theorem dX10_wires_161 : decode cX10_wires 161 = .ok (.iadd, 1) := by decide +kernel
theorem dX10_wires_162 : decode cX10_wires 162 = .ok (.istore 7, 2) := by decide +kernel
theorem dX10_wires_164 : decode cX10_wires 164 = .ok (.aload_n 0, 1) := by decide +kernel
theorem dX10_wires_165 : decode cX10_wires 165 = .ok (.getfield 88, 3) := by decide +kernel
theorem dX10_wires_168 : decode cX10_wires 168 = .ok (.bipush 24, 2) := by decide +kernel
theorem dX10_wires_170 : decode cX10_wires 170 = .ok (.iload 4, 2) := by decide +kernel
theorem dX10_wires_172 : decode cX10_wires 172 = .ok (.imul, 1) := by decide +kernel
theorem dX10_wires_173 : decode cX10_wires 173 = .ok (.iload 6, 2) := by decide +kernel
theorem dX10_wires_175 : decode cX10_wires 175 = .ok (.iadd, 1) := by decide +kernel
theorem dX10_wires_176 : decode cX10_wires 176 = .ok (.iload 7, 2) := by decide +kernel
theorem dX10_wires_178 : decode cX10_wires 178 = .ok (.aload_n 0, 1) := by decide +kernel
theorem dX10_wires_179 : decode cX10_wires 179 = .ok (.getfield 88, 3) := by decide +kernel
theorem dX10_wires_182 : decode cX10_wires 182 = .ok (.bipush 24, 2) := by decide +kernel
theorem dX10_wires_184 : decode cX10_wires 184 = .ok (.iload 4, 2) := by decide +kernel
theorem dX10_wires_186 : decode cX10_wires 186 = .ok (.imul, 1) := by decide +kernel
theorem dX10_wires_187 : decode cX10_wires 187 = .ok (.iload 6, 2) := by decide +kernel
theorem dX10_wires_189 : decode cX10_wires 189 = .ok (.iadd, 1) := by decide +kernel
theorem dX10_wires_190 : decode cX10_wires 190 = .ok (.iaload, 1) := by decide +kernel
theorem dX10_wires_191 : decode cX10_wires 191 = .ok (.if_icmp .ge 8, 3) := by decide +kernel
theorem dX10_wires_194 : decode cX10_wires 194 = .ok (.iload 7, 2) := by decide +kernel
theorem dX10_wires_196 : decode cX10_wires 196 = .ok (.goto 16, 3) := by decide +kernel
theorem dX10_wires_199 : decode cX10_wires 199 = .ok (.aload_n 0, 1) := by decide +kernel
theorem dX10_wires_200 : decode cX10_wires 200 = .ok (.getfield 88, 3) := by decide +kernel
theorem dX10_wires_203 : decode cX10_wires 203 = .ok (.bipush 24, 2) := by decide +kernel
theorem dX10_wires_205 : decode cX10_wires 205 = .ok (.iload 4, 2) := by decide +kernel
theorem dX10_wires_207 : decode cX10_wires 207 = .ok (.imul, 1) := by decide +kernel
theorem dX10_wires_208 : decode cX10_wires 208 = .ok (.iload 6, 2) := by decide +kernel
theorem dX10_wires_210 : decode cX10_wires 210 = .ok (.iadd, 1) := by decide +kernel
theorem dX10_wires_211 : decode cX10_wires 211 = .ok (.iaload, 1) := by decide +kernel
theorem dX10_wires_212 : decode cX10_wires 212 = .ok (.iastore, 1) := by decide +kernel
theorem dX10_wires_213 : decode cX10_wires 213 = .ok (.iinc 6 1, 3) := by decide +kernel
theorem dX10_wires_216 : decode cX10_wires 216 = .ok (.goto (-93), 3) := by decide +kernel
theorem dX10_wires_219 : decode cX10_wires 219 = .ok (.iload 5, 2) := by decide +kernel
theorem dX10_wires_221 : decode cX10_wires 221 = .ok (.iconst 1, 1) := by decide +kernel
theorem dX10_wires_222 : decode cX10_wires 222 = .ok (.isub, 1) := by decide +kernel
theorem dX10_wires_223 : decode cX10_wires 223 = .ok (.iload 4, 2) := by decide +kernel
theorem dX10_wires_225 : decode cX10_wires 225 = .ok (.iand, 1) := by decide +kernel
theorem dX10_wires_226 : decode cX10_wires 226 = .ok (.istore 5, 2) := by decide +kernel
theorem dX10_wires_228 : decode cX10_wires 228 = .ok (.goto (-113), 3) := by decide +kernel
theorem dX10_wires_231 : decode cX10_wires 231 = .ok (.aload_n 0, 1) := by decide +kernel
theorem dX10_wires_232 : decode cX10_wires 232 = .ok (.iload 4, 2) := by decide +kernel
theorem dX10_wires_234 : decode cX10_wires 234 = .ok (.invokevirtual 217, 3) := by decide +kernel
theorem dX10_wires_237 : decode cX10_wires 237 = .ok (.iinc 4 1, 3) := by decide +kernel
theorem dX10_wires_240 : decode cX10_wires 240 = .ok (.goto (-142), 3) := by decide +kernel
theorem dX10_wires_243 : decode cX10_wires 243 = .ok (.sipush 9999, 3) := by decide +kernel
theorem dX10_wires_246 : decode cX10_wires 246 = .ok (.istore 4, 2) := by decide +kernel
theorem dX10_wires_248 : decode cX10_wires 248 = .ok (.iconst 0, 1) := by decide +kernel
theorem dX10_wires_249 : decode cX10_wires 249 = .ok (.istore 5, 2) := by decide +kernel
theorem dX10_wires_251 : decode cX10_wires 251 = .ok (.iload 5, 2) := by decide +kernel
theorem dX10_wires_253 : decode cX10_wires 253 = .ok (.bipush 24, 2) := by decide +kernel
theorem dX10_wires_255 : decode cX10_wires 255 = .ok (.if_icmp .ge 43, 3) := by decide +kernel
theorem dX10_wires_258 : decode cX10_wires 258 = .ok (.aload_n 0, 1) := by decide +kernel
theorem dX10_wires_259 : decode cX10_wires 259 = .ok (.getfield 88, 3) := by decide +kernel
theorem dX10_wires_262 : decode cX10_wires 262 = .ok (.bipush 24, 2) := by decide +kernel
theorem dX10_wires_264 : decode cX10_wires 264 = .ok (.iconst 1, 1) := by decide +kernel
theorem dX10_wires_265 : decode cX10_wires 265 = .ok (.iload_n 2, 1) := by decide +kernel
theorem dX10_wires_266 : decode cX10_wires 266 = .ok (.ishl, 1) := by decide +kernel
theorem dX10_wires_267 : decode cX10_wires 267 = .ok (.iconst 1, 1) := by decide +kernel
theorem dX10_wires_268 : decode cX10_wires 268 = .ok (.isub, 1) := by decide +kernel
theorem dX10_wires_269 : decode cX10_wires 269 = .ok (.imul, 1) := by decide +kernel
theorem dX10_wires_270 : decode cX10_wires 270 = .ok (.iload 5, 2) := by decide +kernel
theorem dX10_wires_272 : decode cX10_wires 272 = .ok (.iadd, 1) := by decide +kernel
theorem dX10_wires_273 : decode cX10_wires 273 = .ok (.iaload, 1) := by decide +kernel
theorem dX10_wires_274 : decode cX10_wires 274 = .ok (.istore 6, 2) := by decide +kernel
theorem dX10_wires_276 : decode cX10_wires 276 = .ok (.iload 6, 2) := by decide +kernel
theorem dX10_wires_278 : decode cX10_wires 278 = .ok (.iload 4, 2) := by decide +kernel
theorem dX10_wires_280 : decode cX10_wires 280 = .ok (.if_icmp .ge 8, 3) := by decide +kernel
theorem dX10_wires_283 : decode cX10_wires 283 = .ok (.iload 6, 2) := by decide +kernel
theorem dX10_wires_285 : decode cX10_wires 285 = .ok (.goto 5, 3) := by decide +kernel
theorem dX10_wires_288 : decode cX10_wires 288 = .ok (.iload 4, 2) := by decide +kernel
theorem dX10_wires_290 : decode cX10_wires 290 = .ok (.istore 4, 2) := by decide +kernel
theorem dX10_wires_292 : decode cX10_wires 292 = .ok (.iinc 5 1, 3) := by decide +kernel
theorem dX10_wires_295 : decode cX10_wires 295 = .ok (.goto (-44), 3) := by decide +kernel
theorem dX10_wires_298 : decode cX10_wires 298 = .ok (.iload 4, 2) := by decide +kernel
theorem dX10_wires_300 : decode cX10_wires 300 = .ok (.sipush 9999, 3) := by decide +kernel
theorem dX10_wires_303 : decode cX10_wires 303 = .ok (.if_icmp .ne 8, 3) := by decide +kernel
theorem dX10_wires_306 : decode cX10_wires 306 = .ok (.bipush (-4), 2) := by decide +kernel
theorem dX10_wires_308 : decode cX10_wires 308 = .ok (.goto 5, 3) := by decide +kernel
theorem dX10_wires_311 : decode cX10_wires 311 = .ok (.iload 4, 2) := by decide +kernel
theorem dX10_wires_313 : decode cX10_wires 313 = .ok (.ireturn, 1) := by decide +kernel
theorem dX10_count_0 : decode cX10_count 0 = .ok (.iconst 0, 1) := by decide +kernel
theorem dX10_count_1 : decode cX10_count 1 = .ok (.istore_n 2, 1) := by decide +kernel
theorem dX10_count_2 : decode cX10_count 2 = .ok (.iconst 0, 1) := by decide +kernel
theorem dX10_count_3 : decode cX10_count 3 = .ok (.istore_n 3, 1) := by decide +kernel
theorem dX10_count_4 : decode cX10_count 4 = .ok (.iconst 0, 1) := by decide +kernel
theorem dX10_count_5 : decode cX10_count 5 = .ok (.istore 4, 2) := by decide +kernel
theorem dX10_count_7 : decode cX10_count 7 = .ok (.iload 4, 2) := by decide +kernel
theorem dX10_count_9 : decode cX10_count 9 = .ok (.aload_n 0, 1) := by decide +kernel
theorem dX10_count_10 : decode cX10_count 10 = .ok (.getfield 91, 3) := by decide +kernel
theorem dX10_count_13 : decode cX10_count 13 = .ok (.if_icmp .ge 26, 3) := by decide +kernel
theorem dX10_count_16 : decode cX10_count 16 = .ok (.iload_n 2, 1) := by decide +kernel
theorem dX10_count_17 : decode cX10_count 17 = .ok (.aload_n 0, 1) := by decide +kernel
theorem dX10_count_18 : decode cX10_count 18 = .ok (.iload 4, 2) := by decide +kernel
theorem dX10_count_20 : decode cX10_count 20 = .ok (.invokevirtual 156, 3) := by decide +kernel
theorem dX10_count_23 : decode cX10_count 23 = .ok (.ifCond .eq 7, 3) := by decide +kernel
theorem dX10_count_26 : decode cX10_count 26 = .ok (.iconst 1, 1) := by decide +kernel
theorem dX10_count_27 : decode cX10_count 27 = .ok (.goto 4, 3) := by decide +kernel
theorem dX10_count_30 : decode cX10_count 30 = .ok (.iconst 0, 1) := by decide +kernel
theorem dX10_count_31 : decode cX10_count 31 = .ok (.iadd, 1) := by decide +kernel
theorem dX10_count_32 : decode cX10_count 32 = .ok (.istore_n 2, 1) := by decide +kernel
theorem dX10_count_33 : decode cX10_count 33 = .ok (.iinc 4 1, 3) := by decide +kernel
theorem dX10_count_36 : decode cX10_count 36 = .ok (.goto (-29), 3) := by decide +kernel
theorem dX10_count_39 : decode cX10_count 39 = .ok (.iconst 0, 1) := by decide +kernel
theorem dX10_count_40 : decode cX10_count 40 = .ok (.istore 4, 2) := by decide +kernel
theorem dX10_count_42 : decode cX10_count 42 = .ok (.iload 4, 2) := by decide +kernel
theorem dX10_count_44 : decode cX10_count 44 = .ok (.bipush 48, 2) := by decide +kernel
theorem dX10_count_46 : decode cX10_count 46 = .ok (.if_icmp .ge 28, 3) := by decide +kernel
theorem dX10_count_49 : decode cX10_count 49 = .ok (.iload_n 3, 1) := by decide +kernel
theorem dX10_count_50 : decode cX10_count 50 = .ok (.aload_n 0, 1) := by decide +kernel
theorem dX10_count_51 : decode cX10_count 51 = .ok (.getfield 82, 3) := by decide +kernel
theorem dX10_count_54 : decode cX10_count 54 = .ok (.iload 4, 2) := by decide +kernel
theorem dX10_count_56 : decode cX10_count 56 = .ok (.iaload, 1) := by decide +kernel
theorem dX10_count_57 : decode cX10_count 57 = .ok (.iconst 2, 1) := by decide +kernel
theorem dX10_count_58 : decode cX10_count 58 = .ok (.if_icmp .ne 7, 3) := by decide +kernel
theorem dX10_count_61 : decode cX10_count 61 = .ok (.iconst 1, 1) := by decide +kernel
theorem dX10_count_62 : decode cX10_count 62 = .ok (.goto 4, 3) := by decide +kernel
theorem dX10_count_65 : decode cX10_count 65 = .ok (.iconst 0, 1) := by decide +kernel
theorem dX10_count_66 : decode cX10_count 66 = .ok (.iadd, 1) := by decide +kernel
theorem dX10_count_67 : decode cX10_count 67 = .ok (.istore_n 3, 1) := by decide +kernel
theorem dX10_count_68 : decode cX10_count 68 = .ok (.iinc 4 1, 3) := by decide +kernel
theorem dX10_count_71 : decode cX10_count 71 = .ok (.goto (-29), 3) := by decide +kernel
theorem dX10_count_74 : decode cX10_count 74 = .ok (.iload_n 1, 1) := by decide +kernel
theorem dX10_count_75 : decode cX10_count 75 = .ok (.tableswitch 91 0 8 #[49, 54, 59, 64, 69, 71, 79, 84, 86], 49) := by decide +kernel
theorem dX10_count_124 : decode cX10_count 124 = .ok (.aload_n 0, 1) := by decide +kernel
theorem dX10_count_125 : decode cX10_count 125 = .ok (.getfield 91, 3) := by decide +kernel
theorem dX10_count_128 : decode cX10_count 128 = .ok (.ireturn, 1) := by decide +kernel
theorem dX10_count_129 : decode cX10_count 129 = .ok (.aload_n 0, 1) := by decide +kernel
theorem dX10_count_130 : decode cX10_count 130 = .ok (.getfield 141, 3) := by decide +kernel
theorem dX10_count_133 : decode cX10_count 133 = .ok (.ireturn, 1) := by decide +kernel
theorem dX10_count_134 : decode cX10_count 134 = .ok (.aload_n 0, 1) := by decide +kernel
theorem dX10_count_135 : decode cX10_count 135 = .ok (.getfield 144, 3) := by decide +kernel
theorem dX10_count_138 : decode cX10_count 138 = .ok (.ireturn, 1) := by decide +kernel
theorem dX10_count_139 : decode cX10_count 139 = .ok (.aload_n 0, 1) := by decide +kernel
theorem dX10_count_140 : decode cX10_count 140 = .ok (.invokevirtual 194, 3) := by decide +kernel
theorem dX10_count_143 : decode cX10_count 143 = .ok (.ireturn, 1) := by decide +kernel
theorem dX10_count_144 : decode cX10_count 144 = .ok (.iload_n 2, 1) := by decide +kernel
theorem dX10_count_145 : decode cX10_count 145 = .ok (.ireturn, 1) := by decide +kernel
theorem dX10_count_146 : decode cX10_count 146 = .ok (.aload_n 0, 1) := by decide +kernel
theorem dX10_count_147 : decode cX10_count 147 = .ok (.getfield 153, 3) := by decide +kernel
theorem dX10_count_150 : decode cX10_count 150 = .ok (.invokestatic 103, 3) := by decide +kernel
theorem dX10_count_153 : decode cX10_count 153 = .ok (.ireturn, 1) := by decide +kernel
theorem dX10_count_154 : decode cX10_count 154 = .ok (.aload_n 0, 1) := by decide +kernel
theorem dX10_count_155 : decode cX10_count 155 = .ok (.getfield 204, 3) := by decide +kernel
theorem dX10_count_158 : decode cX10_count 158 = .ok (.ireturn, 1) := by decide +kernel
theorem dX10_count_159 : decode cX10_count 159 = .ok (.iload_n 3, 1) := by decide +kernel
theorem dX10_count_160 : decode cX10_count 160 = .ok (.ireturn, 1) := by decide +kernel
theorem dX10_count_161 : decode cX10_count 161 = .ok (.aload_n 0, 1) := by decide +kernel
theorem dX10_count_162 : decode cX10_count 162 = .ok (.getfield 178, 3) := by decide +kernel
theorem dX10_count_165 : decode cX10_count 165 = .ok (.ireturn, 1) := by decide +kernel
theorem dX10_count_166 : decode cX10_count 166 = .ok (.iconst (-1), 1) := by decide +kernel
theorem dX10_count_167 : decode cX10_count 167 = .ok (.ireturn, 1) := by decide +kernel
theorem dJ6_bitCount_0f7a4_0 : decode cJ6_bitCount_0f7a4 0 = .ok (.iload_n 0, 1) := by decide +kernel
theorem dJ6_bitCount_0f7a4_1 : decode cJ6_bitCount_0f7a4 1 = .ok (.iload_n 0, 1) := by decide +kernel
theorem dJ6_bitCount_0f7a4_2 : decode cJ6_bitCount_0f7a4 2 = .ok (.iconst 1, 1) := by decide +kernel
theorem dJ6_bitCount_0f7a4_3 : decode cJ6_bitCount_0f7a4 3 = .ok (.iushr, 1) := by decide +kernel
theorem dJ6_bitCount_0f7a4_4 : decode cJ6_bitCount_0f7a4 4 = .ok (.ldc_w 265, 3) := by decide +kernel
theorem dJ6_bitCount_0f7a4_7 : decode cJ6_bitCount_0f7a4 7 = .ok (.iand, 1) := by decide +kernel
theorem dJ6_bitCount_0f7a4_8 : decode cJ6_bitCount_0f7a4 8 = .ok (.isub, 1) := by decide +kernel
theorem dJ6_bitCount_0f7a4_9 : decode cJ6_bitCount_0f7a4 9 = .ok (.istore_n 0, 1) := by decide +kernel
theorem dJ6_bitCount_0f7a4_10 : decode cJ6_bitCount_0f7a4 10 = .ok (.iload_n 0, 1) := by decide +kernel
theorem dJ6_bitCount_0f7a4_11 : decode cJ6_bitCount_0f7a4 11 = .ok (.ldc_w 266, 3) := by decide +kernel
theorem dJ6_bitCount_0f7a4_14 : decode cJ6_bitCount_0f7a4 14 = .ok (.iand, 1) := by decide +kernel
theorem dJ6_bitCount_0f7a4_15 : decode cJ6_bitCount_0f7a4 15 = .ok (.iload_n 0, 1) := by decide +kernel
theorem dJ6_bitCount_0f7a4_16 : decode cJ6_bitCount_0f7a4 16 = .ok (.iconst 2, 1) := by decide +kernel
theorem dJ6_bitCount_0f7a4_17 : decode cJ6_bitCount_0f7a4 17 = .ok (.iushr, 1) := by decide +kernel
theorem dJ6_bitCount_0f7a4_18 : decode cJ6_bitCount_0f7a4 18 = .ok (.ldc_w 266, 3) := by decide +kernel
theorem dJ6_bitCount_0f7a4_21 : decode cJ6_bitCount_0f7a4 21 = .ok (.iand, 1) := by decide +kernel
theorem dJ6_bitCount_0f7a4_22 : decode cJ6_bitCount_0f7a4 22 = .ok (.iadd, 1) := by decide +kernel
theorem dJ6_bitCount_0f7a4_23 : decode cJ6_bitCount_0f7a4 23 = .ok (.istore_n 0, 1) := by decide +kernel
theorem dJ6_bitCount_0f7a4_24 : decode cJ6_bitCount_0f7a4 24 = .ok (.iload_n 0, 1) := by decide +kernel
theorem dJ6_bitCount_0f7a4_25 : decode cJ6_bitCount_0f7a4 25 = .ok (.iload_n 0, 1) := by decide +kernel
theorem dJ6_bitCount_0f7a4_26 : decode cJ6_bitCount_0f7a4 26 = .ok (.iconst 4, 1) := by decide +kernel
theorem dJ6_bitCount_0f7a4_27 : decode cJ6_bitCount_0f7a4 27 = .ok (.iushr, 1) := by decide +kernel
theorem dJ6_bitCount_0f7a4_28 : decode cJ6_bitCount_0f7a4 28 = .ok (.iadd, 1) := by decide +kernel
theorem dJ6_bitCount_0f7a4_29 : decode cJ6_bitCount_0f7a4 29 = .ok (.ldc_w 267, 3) := by decide +kernel
theorem dJ6_bitCount_0f7a4_32 : decode cJ6_bitCount_0f7a4 32 = .ok (.iand, 1) := by decide +kernel
theorem dJ6_bitCount_0f7a4_33 : decode cJ6_bitCount_0f7a4 33 = .ok (.istore_n 0, 1) := by decide +kernel
theorem dJ6_bitCount_0f7a4_34 : decode cJ6_bitCount_0f7a4 34 = .ok (.iload_n 0, 1) := by decide +kernel
theorem dJ6_bitCount_0f7a4_35 : decode cJ6_bitCount_0f7a4 35 = .ok (.iload_n 0, 1) := by decide +kernel
theorem dJ6_bitCount_0f7a4_36 : decode cJ6_bitCount_0f7a4 36 = .ok (.bipush 8, 2) := by decide +kernel
theorem dJ6_bitCount_0f7a4_38 : decode cJ6_bitCount_0f7a4 38 = .ok (.iushr, 1) := by decide +kernel
theorem dJ6_bitCount_0f7a4_39 : decode cJ6_bitCount_0f7a4 39 = .ok (.iadd, 1) := by decide +kernel
theorem dJ6_bitCount_0f7a4_40 : decode cJ6_bitCount_0f7a4 40 = .ok (.istore_n 0, 1) := by decide +kernel
theorem dJ6_bitCount_0f7a4_41 : decode cJ6_bitCount_0f7a4 41 = .ok (.iload_n 0, 1) := by decide +kernel
theorem dJ6_bitCount_0f7a4_42 : decode cJ6_bitCount_0f7a4 42 = .ok (.iload_n 0, 1) := by decide +kernel
theorem dJ6_bitCount_0f7a4_43 : decode cJ6_bitCount_0f7a4 43 = .ok (.bipush 16, 2) := by decide +kernel
theorem dJ6_bitCount_0f7a4_45 : decode cJ6_bitCount_0f7a4 45 = .ok (.iushr, 1) := by decide +kernel
theorem dJ6_bitCount_0f7a4_46 : decode cJ6_bitCount_0f7a4 46 = .ok (.iadd, 1) := by decide +kernel
theorem dJ6_bitCount_0f7a4_47 : decode cJ6_bitCount_0f7a4 47 = .ok (.istore_n 0, 1) := by decide +kernel
theorem dJ6_bitCount_0f7a4_48 : decode cJ6_bitCount_0f7a4 48 = .ok (.iload_n 0, 1) := by decide +kernel
theorem dJ6_bitCount_0f7a4_49 : decode cJ6_bitCount_0f7a4 49 = .ok (.bipush 63, 2) := by decide +kernel
theorem dJ6_bitCount_0f7a4_51 : decode cJ6_bitCount_0f7a4 51 = .ok (.iand, 1) := by decide +kernel
theorem dJ6_bitCount_0f7a4_52 : decode cJ6_bitCount_0f7a4 52 = .ok (.ireturn, 1) := by decide +kernel
theorem dJ9_abs_0f7a4_0 : decode cJ9_abs_0f7a4 0 = .ok (.iload_n 0, 1) := by decide +kernel
theorem dJ9_abs_0f7a4_1 : decode cJ9_abs_0f7a4 1 = .ok (.ifCond .ge 8, 3) := by decide +kernel
theorem dJ9_abs_0f7a4_4 : decode cJ9_abs_0f7a4 4 = .ok (.iload_n 0, 1) := by decide +kernel
theorem dJ9_abs_0f7a4_5 : decode cJ9_abs_0f7a4 5 = .ok (.ineg, 1) := by decide +kernel
theorem dJ9_abs_0f7a4_6 : decode cJ9_abs_0f7a4 6 = .ok (.goto 4, 3) := by decide +kernel
theorem dJ9_abs_0f7a4_9 : decode cJ9_abs_0f7a4 9 = .ok (.iload_n 0, 1) := by decide +kernel
theorem dJ9_abs_0f7a4_10 : decode cJ9_abs_0f7a4 10 = .ok (.ireturn, 1) := by decide +kernel
theorem dJ9_max_7cf53_0 : decode cJ9_max_7cf53 0 = .ok (.iload_n 0, 1) := by decide +kernel
theorem dJ9_max_7cf53_1 : decode cJ9_max_7cf53 1 = .ok (.iload_n 1, 1) := by decide +kernel
theorem dJ9_max_7cf53_2 : decode cJ9_max_7cf53 2 = .ok (.if_icmp .lt 7, 3) := by decide +kernel
theorem dJ9_max_7cf53_5 : decode cJ9_max_7cf53 5 = .ok (.iload_n 0, 1) := by decide +kernel
theorem dJ9_max_7cf53_6 : decode cJ9_max_7cf53 6 = .ok (.goto 4, 3) := by decide +kernel
theorem dJ9_max_7cf53_9 : decode cJ9_max_7cf53 9 = .ok (.iload_n 1, 1) := by decide +kernel
theorem dJ9_max_7cf53_10 : decode cJ9_max_7cf53 10 = .ok (.ireturn, 1) := by decide +kernel
theorem dJ9_min_7cf53_0 : decode cJ9_min_7cf53 0 = .ok (.iload_n 0, 1) := by decide +kernel
theorem dJ9_min_7cf53_1 : decode cJ9_min_7cf53 1 = .ok (.iload_n 1, 1) := by decide +kernel
theorem dJ9_min_7cf53_2 : decode cJ9_min_7cf53 2 = .ok (.if_icmp .gt 7, 3) := by decide +kernel
theorem dJ9_min_7cf53_5 : decode cJ9_min_7cf53 5 = .ok (.iload_n 0, 1) := by decide +kernel
theorem dJ9_min_7cf53_6 : decode cJ9_min_7cf53 6 = .ok (.goto 4, 3) := by decide +kernel
theorem dJ9_min_7cf53_9 : decode cJ9_min_7cf53 9 = .ok (.iload_n 1, 1) := by decide +kernel
theorem dJ9_min_7cf53_10 : decode cJ9_min_7cf53 10 = .ok (.ireturn, 1) := by decide +kernel
theorem dL_law_0 : decode cL_law 0 = .ok (.new 7, 3) := by decide +kernel
theorem dL_law_3 : decode cL_law 3 = .ok (.dup, 1) := by decide +kernel
theorem dL_law_4 : decode cL_law 4 = .ok (.invokespecial 9, 3) := by decide +kernel
theorem dL_law_7 : decode cL_law 7 = .ok (.astore_n 1, 1) := by decide +kernel
theorem dL_law_8 : decode cL_law 8 = .ok (.new 10, 3) := by decide +kernel
theorem dL_law_11 : decode cL_law 11 = .ok (.dup, 1) := by decide +kernel
theorem dL_law_12 : decode cL_law 12 = .ok (.invokespecial 12, 3) := by decide +kernel
theorem dL_law_15 : decode cL_law 15 = .ok (.astore_n 2, 1) := by decide +kernel
theorem dL_law_16 : decode cL_law 16 = .ok (.iconst 0, 1) := by decide +kernel
theorem dL_law_17 : decode cL_law 17 = .ok (.istore_n 3, 1) := by decide +kernel
theorem dL_law_18 : decode cL_law 18 = .ok (.iload_n 3, 1) := by decide +kernel
theorem dL_law_19 : decode cL_law 19 = .ok (.aload_n 0, 1) := by decide +kernel
theorem dL_law_20 : decode cL_law 20 = .ok (.arraylength, 1) := by decide +kernel
theorem dL_law_21 : decode cL_law 21 = .ok (.bipush 6, 2) := by decide +kernel
theorem dL_law_23 : decode cL_law 23 = .ok (.isub, 1) := by decide +kernel
theorem dL_law_24 : decode cL_law 24 = .ok (.if_icmp .gt 919, 3) := by decide +kernel
theorem dL_law_27 : decode cL_law 27 = .ok (.aload_n 0, 1) := by decide +kernel
theorem dL_law_28 : decode cL_law 28 = .ok (.iload_n 3, 1) := by decide +kernel
theorem dL_law_29 : decode cL_law 29 = .ok (.iaload, 1) := by decide +kernel
theorem dL_law_30 : decode cL_law 30 = .ok (.bipush 31, 2) := by decide +kernel
theorem dL_law_32 : decode cL_law 32 = .ok (.iand, 1) := by decide +kernel
theorem dL_law_33 : decode cL_law 33 = .ok (.tableswitch 904 0 26 #[123, 156, 199, 222, 285, 318, 331, 354, 387, 430, 473, 496, 519, 542, 565, 598, 631, 664, 687, 710, 723, 766, 779, 802, 815, 858, 881], 123) := by decide +kernel
theorem dL_law_156 : decode cL_law 156 = .ok (.aload_n 1, 1) := by decide +kernel
theorem dL_law_157 : decode cL_law 157 = .ok (.aload_n 0, 1) := by decide +kernel
theorem dL_law_158 : decode cL_law 158 = .ok (.iload_n 3, 1) := by decide +kernel
theorem dL_law_159 : decode cL_law 159 = .ok (.iconst 1, 1) := by decide +kernel
theorem dL_law_160 : decode cL_law 160 = .ok (.iadd, 1) := by decide +kernel
theorem dL_law_161 : decode cL_law 161 = .ok (.iaload, 1) := by decide +kernel
theorem dL_law_162 : decode cL_law 162 = .ok (.aload_n 0, 1) := by decide +kernel
theorem dL_law_163 : decode cL_law 163 = .ok (.iload_n 3, 1) := by decide +kernel
theorem dL_law_164 : decode cL_law 164 = .ok (.iconst 2, 1) := by decide +kernel
theorem dL_law_165 : decode cL_law 165 = .ok (.iadd, 1) := by decide +kernel
theorem dL_law_166 : decode cL_law 166 = .ok (.iaload, 1) := by decide +kernel
theorem dL_law_167 : decode cL_law 167 = .ok (.invokevirtual 13, 3) := by decide +kernel
theorem dL_law_170 : decode cL_law 170 = .ok (.aload_n 2, 1) := by decide +kernel
theorem dL_law_171 : decode cL_law 171 = .ok (.aload_n 0, 1) := by decide +kernel
theorem dL_law_172 : decode cL_law 172 = .ok (.iload_n 3, 1) := by decide +kernel
theorem dL_law_173 : decode cL_law 173 = .ok (.iconst 1, 1) := by decide +kernel
theorem dL_law_174 : decode cL_law 174 = .ok (.iadd, 1) := by decide +kernel
theorem dL_law_175 : decode cL_law 175 = .ok (.iaload, 1) := by decide +kernel
theorem dL_law_176 : decode cL_law 176 = .ok (.aload_n 0, 1) := by decide +kernel
theorem dL_law_177 : decode cL_law 177 = .ok (.iload_n 3, 1) := by decide +kernel
theorem dL_law_178 : decode cL_law 178 = .ok (.iconst 2, 1) := by decide +kernel
theorem dL_law_179 : decode cL_law 179 = .ok (.iadd, 1) := by decide +kernel
theorem dL_law_180 : decode cL_law 180 = .ok (.iaload, 1) := by decide +kernel
theorem dL_law_181 : decode cL_law 181 = .ok (.invokevirtual 17, 3) := by decide +kernel
theorem dL_law_184 : decode cL_law 184 = .ok (.if_icmp .eq 753, 3) := by decide +kernel
theorem dL_law_187 : decode cL_law 187 = .ok (.iconst 0, 1) := by decide +kernel
theorem dL_law_188 : decode cL_law 188 = .ok (.ireturn, 1) := by decide +kernel
theorem dL_law_189 : decode cL_law 189 = .ok (.aload_n 1, 1) := by decide +kernel
theorem dL_law_190 : decode cL_law 190 = .ok (.aload_n 0, 1) := by decide +kernel
theorem dL_law_191 : decode cL_law 191 = .ok (.iload_n 3, 1) := by decide +kernel
theorem dL_law_192 : decode cL_law 192 = .ok (.iconst 1, 1) := by decide +kernel
theorem dL_law_193 : decode cL_law 193 = .ok (.iadd, 1) := by decide +kernel
theorem dL_law_194 : decode cL_law 194 = .ok (.iaload, 1) := by decide +kernel
theorem dL_law_195 : decode cL_law 195 = .ok (.aload_n 0, 1) := by decide +kernel
theorem dL_law_196 : decode cL_law 196 = .ok (.iload_n 3, 1) := by decide +kernel
theorem dL_law_197 : decode cL_law 197 = .ok (.iconst 2, 1) := by decide +kernel
theorem dL_law_198 : decode cL_law 198 = .ok (.iadd, 1) := by decide +kernel
theorem dL_law_199 : decode cL_law 199 = .ok (.iaload, 1) := by decide +kernel
theorem dL_law_200 : decode cL_law 200 = .ok (.aload_n 0, 1) := by decide +kernel
theorem dL_law_201 : decode cL_law 201 = .ok (.iload_n 3, 1) := by decide +kernel
theorem dL_law_202 : decode cL_law 202 = .ok (.iconst 3, 1) := by decide +kernel
theorem dL_law_203 : decode cL_law 203 = .ok (.iadd, 1) := by decide +kernel
theorem dL_law_204 : decode cL_law 204 = .ok (.iaload, 1) := by decide +kernel
theorem dL_law_205 : decode cL_law 205 = .ok (.invokevirtual 18, 3) := by decide +kernel
theorem dL_law_208 : decode cL_law 208 = .ok (.aload_n 2, 1) := by decide +kernel
theorem dL_law_209 : decode cL_law 209 = .ok (.aload_n 0, 1) := by decide +kernel
theorem dL_law_210 : decode cL_law 210 = .ok (.iload_n 3, 1) := by decide +kernel
theorem dL_law_211 : decode cL_law 211 = .ok (.iconst 1, 1) := by decide +kernel
theorem dL_law_212 : decode cL_law 212 = .ok (.iadd, 1) := by decide +kernel
theorem dL_law_213 : decode cL_law 213 = .ok (.iaload, 1) := by decide +kernel
theorem dL_law_214 : decode cL_law 214 = .ok (.aload_n 0, 1) := by decide +kernel
theorem dL_law_215 : decode cL_law 215 = .ok (.iload_n 3, 1) := by decide +kernel
theorem dL_law_216 : decode cL_law 216 = .ok (.iconst 2, 1) := by decide +kernel
theorem dL_law_217 : decode cL_law 217 = .ok (.iadd, 1) := by decide +kernel
theorem dL_law_218 : decode cL_law 218 = .ok (.iaload, 1) := by decide +kernel
theorem dL_law_219 : decode cL_law 219 = .ok (.aload_n 0, 1) := by decide +kernel
theorem dL_law_220 : decode cL_law 220 = .ok (.iload_n 3, 1) := by decide +kernel
theorem dL_law_221 : decode cL_law 221 = .ok (.iconst 3, 1) := by decide +kernel
theorem dL_law_222 : decode cL_law 222 = .ok (.iadd, 1) := by decide +kernel
theorem dL_law_223 : decode cL_law 223 = .ok (.iaload, 1) := by decide +kernel
theorem dL_law_224 : decode cL_law 224 = .ok (.invokevirtual 22, 3) := by decide +kernel
theorem dL_law_227 : decode cL_law 227 = .ok (.if_icmp .eq 710, 3) := by decide +kernel
theorem dL_law_230 : decode cL_law 230 = .ok (.iconst 0, 1) := by decide +kernel
theorem dL_law_231 : decode cL_law 231 = .ok (.ireturn, 1) := by decide +kernel
theorem dL_law_232 : decode cL_law 232 = .ok (.aload_n 1, 1) := by decide +kernel
theorem dL_law_233 : decode cL_law 233 = .ok (.aload_n 0, 1) := by decide +kernel
theorem dL_law_234 : decode cL_law 234 = .ok (.iload_n 3, 1) := by decide +kernel
theorem dL_law_235 : decode cL_law 235 = .ok (.iconst 1, 1) := by decide +kernel
theorem dL_law_236 : decode cL_law 236 = .ok (.iadd, 1) := by decide +kernel
theorem dL_law_237 : decode cL_law 237 = .ok (.iaload, 1) := by decide +kernel
theorem dL_law_238 : decode cL_law 238 = .ok (.invokevirtual 23, 3) := by decide +kernel
theorem dL_law_241 : decode cL_law 241 = .ok (.aload_n 2, 1) := by decide +kernel
theorem dL_law_242 : decode cL_law 242 = .ok (.aload_n 0, 1) := by decide +kernel
theorem dL_law_243 : decode cL_law 243 = .ok (.iload_n 3, 1) := by decide +kernel
theorem dL_law_244 : decode cL_law 244 = .ok (.iconst 1, 1) := by decide +kernel
theorem dL_law_245 : decode cL_law 245 = .ok (.iadd, 1) := by decide +kernel
theorem dL_law_246 : decode cL_law 246 = .ok (.iaload, 1) := by decide +kernel
theorem dL_law_247 : decode cL_law 247 = .ok (.invokevirtual 27, 3) := by decide +kernel
theorem dL_law_250 : decode cL_law 250 = .ok (.if_icmp .eq 687, 3) := by decide +kernel
theorem dL_law_253 : decode cL_law 253 = .ok (.iconst 0, 1) := by decide +kernel
theorem dL_law_254 : decode cL_law 254 = .ok (.ireturn, 1) := by decide +kernel
theorem dL_law_255 : decode cL_law 255 = .ok (.aload_n 1, 1) := by decide +kernel
theorem dL_law_256 : decode cL_law 256 = .ok (.aload_n 0, 1) := by decide +kernel
theorem dL_law_257 : decode cL_law 257 = .ok (.iload_n 3, 1) := by decide +kernel
theorem dL_law_258 : decode cL_law 258 = .ok (.iconst 1, 1) := by decide +kernel
theorem dL_law_259 : decode cL_law 259 = .ok (.iadd, 1) := by decide +kernel
theorem dL_law_260 : decode cL_law 260 = .ok (.iaload, 1) := by decide +kernel
theorem dL_law_261 : decode cL_law 261 = .ok (.aload_n 0, 1) := by decide +kernel
theorem dL_law_262 : decode cL_law 262 = .ok (.iload_n 3, 1) := by decide +kernel
theorem dL_law_263 : decode cL_law 263 = .ok (.iconst 2, 1) := by decide +kernel
theorem dL_law_264 : decode cL_law 264 = .ok (.iadd, 1) := by decide +kernel
theorem dL_law_265 : decode cL_law 265 = .ok (.iaload, 1) := by decide +kernel
theorem dL_law_266 : decode cL_law 266 = .ok (.aload_n 0, 1) := by decide +kernel
theorem dL_law_267 : decode cL_law 267 = .ok (.iload_n 3, 1) := by decide +kernel
theorem dL_law_268 : decode cL_law 268 = .ok (.iconst 3, 1) := by decide +kernel
theorem dL_law_269 : decode cL_law 269 = .ok (.iadd, 1) := by decide +kernel
theorem dL_law_270 : decode cL_law 270 = .ok (.iaload, 1) := by decide +kernel
theorem dL_law_271 : decode cL_law 271 = .ok (.aload_n 0, 1) := by decide +kernel
theorem dL_law_272 : decode cL_law 272 = .ok (.iload_n 3, 1) := by decide +kernel
theorem dL_law_273 : decode cL_law 273 = .ok (.iconst 4, 1) := by decide +kernel
theorem dL_law_274 : decode cL_law 274 = .ok (.iadd, 1) := by decide +kernel
theorem dL_law_275 : decode cL_law 275 = .ok (.iaload, 1) := by decide +kernel
theorem dL_law_276 : decode cL_law 276 = .ok (.aload_n 0, 1) := by decide +kernel
theorem dL_law_277 : decode cL_law 277 = .ok (.iload_n 3, 1) := by decide +kernel
theorem dL_law_278 : decode cL_law 278 = .ok (.iconst 5, 1) := by decide +kernel
theorem dL_law_279 : decode cL_law 279 = .ok (.iadd, 1) := by decide +kernel
theorem dL_law_280 : decode cL_law 280 = .ok (.iaload, 1) := by decide +kernel
theorem dL_law_281 : decode cL_law 281 = .ok (.invokevirtual 28, 3) := by decide +kernel
theorem dL_law_284 : decode cL_law 284 = .ok (.aload_n 2, 1) := by decide +kernel
theorem dL_law_285 : decode cL_law 285 = .ok (.aload_n 0, 1) := by decide +kernel
theorem dL_law_286 : decode cL_law 286 = .ok (.iload_n 3, 1) := by decide +kernel
theorem dL_law_287 : decode cL_law 287 = .ok (.iconst 1, 1) := by decide +kernel
theorem dL_law_288 : decode cL_law 288 = .ok (.iadd, 1) := by decide +kernel
theorem dL_law_289 : decode cL_law 289 = .ok (.iaload, 1) := by decide +kernel
theorem dL_law_290 : decode cL_law 290 = .ok (.aload_n 0, 1) := by decide +kernel
theorem dL_law_291 : decode cL_law 291 = .ok (.iload_n 3, 1) := by decide +kernel
theorem dL_law_292 : decode cL_law 292 = .ok (.iconst 2, 1) := by decide +kernel
theorem dL_law_293 : decode cL_law 293 = .ok (.iadd, 1) := by decide +kernel
theorem dL_law_294 : decode cL_law 294 = .ok (.iaload, 1) := by decide +kernel
theorem dL_law_295 : decode cL_law 295 = .ok (.aload_n 0, 1) := by decide +kernel
theorem dL_law_296 : decode cL_law 296 = .ok (.iload_n 3, 1) := by decide +kernel
theorem dL_law_297 : decode cL_law 297 = .ok (.iconst 3, 1) := by decide +kernel
theorem dL_law_298 : decode cL_law 298 = .ok (.iadd, 1) := by decide +kernel
theorem dL_law_299 : decode cL_law 299 = .ok (.iaload, 1) := by decide +kernel
theorem dL_law_300 : decode cL_law 300 = .ok (.aload_n 0, 1) := by decide +kernel
theorem dL_law_301 : decode cL_law 301 = .ok (.iload_n 3, 1) := by decide +kernel
theorem dL_law_302 : decode cL_law 302 = .ok (.iconst 4, 1) := by decide +kernel
theorem dL_law_303 : decode cL_law 303 = .ok (.iadd, 1) := by decide +kernel
theorem dL_law_304 : decode cL_law 304 = .ok (.iaload, 1) := by decide +kernel
theorem dL_law_305 : decode cL_law 305 = .ok (.aload_n 0, 1) := by decide +kernel
theorem dL_law_306 : decode cL_law 306 = .ok (.iload_n 3, 1) := by decide +kernel
theorem dL_law_307 : decode cL_law 307 = .ok (.iconst 5, 1) := by decide +kernel
theorem dL_law_308 : decode cL_law 308 = .ok (.iadd, 1) := by decide +kernel
theorem dL_law_309 : decode cL_law 309 = .ok (.iaload, 1) := by decide +kernel
theorem dL_law_310 : decode cL_law 310 = .ok (.invokevirtual 32, 3) := by decide +kernel
theorem dL_law_313 : decode cL_law 313 = .ok (.if_icmp .eq 624, 3) := by decide +kernel
theorem dL_law_316 : decode cL_law 316 = .ok (.iconst 0, 1) := by decide +kernel
theorem dL_law_317 : decode cL_law 317 = .ok (.ireturn, 1) := by decide +kernel
theorem dL_law_318 : decode cL_law 318 = .ok (.aload_n 1, 1) := by decide +kernel
theorem dL_law_319 : decode cL_law 319 = .ok (.aload_n 0, 1) := by decide +kernel
theorem dL_law_320 : decode cL_law 320 = .ok (.iload_n 3, 1) := by decide +kernel
theorem dL_law_321 : decode cL_law 321 = .ok (.iconst 1, 1) := by decide +kernel
theorem dL_law_322 : decode cL_law 322 = .ok (.iadd, 1) := by decide +kernel
theorem dL_law_323 : decode cL_law 323 = .ok (.iaload, 1) := by decide +kernel
theorem dL_law_324 : decode cL_law 324 = .ok (.aload_n 0, 1) := by decide +kernel
theorem dL_law_325 : decode cL_law 325 = .ok (.iload_n 3, 1) := by decide +kernel
theorem dL_law_326 : decode cL_law 326 = .ok (.iconst 2, 1) := by decide +kernel
theorem dL_law_327 : decode cL_law 327 = .ok (.iadd, 1) := by decide +kernel
theorem dL_law_328 : decode cL_law 328 = .ok (.iaload, 1) := by decide +kernel
theorem dL_law_329 : decode cL_law 329 = .ok (.invokevirtual 33, 3) := by decide +kernel
theorem dL_law_332 : decode cL_law 332 = .ok (.aload_n 2, 1) := by decide +kernel
theorem dL_law_333 : decode cL_law 333 = .ok (.aload_n 0, 1) := by decide +kernel
theorem dL_law_334 : decode cL_law 334 = .ok (.iload_n 3, 1) := by decide +kernel
theorem dL_law_335 : decode cL_law 335 = .ok (.iconst 1, 1) := by decide +kernel
theorem dL_law_336 : decode cL_law 336 = .ok (.iadd, 1) := by decide +kernel
theorem dL_law_337 : decode cL_law 337 = .ok (.iaload, 1) := by decide +kernel
theorem dL_law_338 : decode cL_law 338 = .ok (.aload_n 0, 1) := by decide +kernel
theorem dL_law_339 : decode cL_law 339 = .ok (.iload_n 3, 1) := by decide +kernel
theorem dL_law_340 : decode cL_law 340 = .ok (.iconst 2, 1) := by decide +kernel
theorem dL_law_341 : decode cL_law 341 = .ok (.iadd, 1) := by decide +kernel
theorem dL_law_342 : decode cL_law 342 = .ok (.iaload, 1) := by decide +kernel
theorem dL_law_343 : decode cL_law 343 = .ok (.invokevirtual 36, 3) := by decide +kernel
theorem dL_law_346 : decode cL_law 346 = .ok (.if_icmp .eq 591, 3) := by decide +kernel
theorem dL_law_349 : decode cL_law 349 = .ok (.iconst 0, 1) := by decide +kernel
theorem dL_law_350 : decode cL_law 350 = .ok (.ireturn, 1) := by decide +kernel
theorem dL_law_351 : decode cL_law 351 = .ok (.aload_n 1, 1) := by decide +kernel
theorem dL_law_352 : decode cL_law 352 = .ok (.invokevirtual 37, 3) := by decide +kernel
theorem dL_law_355 : decode cL_law 355 = .ok (.aload_n 2, 1) := by decide +kernel
theorem dL_law_356 : decode cL_law 356 = .ok (.invokevirtual 41, 3) := by decide +kernel
theorem dL_law_359 : decode cL_law 359 = .ok (.if_icmp .eq 578, 3) := by decide +kernel
theorem dL_law_362 : decode cL_law 362 = .ok (.iconst 0, 1) := by decide +kernel
theorem dL_law_363 : decode cL_law 363 = .ok (.ireturn, 1) := by decide +kernel
theorem dL_law_364 : decode cL_law 364 = .ok (.aload_n 1, 1) := by decide +kernel
theorem dL_law_365 : decode cL_law 365 = .ok (.aload_n 0, 1) := by decide +kernel
theorem dL_law_366 : decode cL_law 366 = .ok (.iload_n 3, 1) := by decide +kernel
theorem dL_law_367 : decode cL_law 367 = .ok (.iconst 1, 1) := by decide +kernel
theorem dL_law_368 : decode cL_law 368 = .ok (.iadd, 1) := by decide +kernel
theorem dL_law_369 : decode cL_law 369 = .ok (.iaload, 1) := by decide +kernel
theorem dL_law_370 : decode cL_law 370 = .ok (.invokevirtual 42, 3) := by decide +kernel
theorem dL_law_373 : decode cL_law 373 = .ok (.aload_n 2, 1) := by decide +kernel
theorem dL_law_374 : decode cL_law 374 = .ok (.aload_n 0, 1) := by decide +kernel
theorem dL_law_375 : decode cL_law 375 = .ok (.iload_n 3, 1) := by decide +kernel
theorem dL_law_376 : decode cL_law 376 = .ok (.iconst 1, 1) := by decide +kernel
theorem dL_law_377 : decode cL_law 377 = .ok (.iadd, 1) := by decide +kernel
theorem dL_law_378 : decode cL_law 378 = .ok (.iaload, 1) := by decide +kernel
theorem dL_law_379 : decode cL_law 379 = .ok (.invokevirtual 45, 3) := by decide +kernel
theorem dL_law_382 : decode cL_law 382 = .ok (.if_icmp .eq 555, 3) := by decide +kernel
theorem dL_law_385 : decode cL_law 385 = .ok (.iconst 0, 1) := by decide +kernel
theorem dL_law_386 : decode cL_law 386 = .ok (.ireturn, 1) := by decide +kernel
theorem dL_law_387 : decode cL_law 387 = .ok (.aload_n 1, 1) := by decide +kernel
theorem dL_law_388 : decode cL_law 388 = .ok (.aload_n 0, 1) := by decide +kernel
theorem dL_law_389 : decode cL_law 389 = .ok (.iload_n 3, 1) := by decide +kernel
theorem dL_law_390 : decode cL_law 390 = .ok (.iconst 1, 1) := by decide +kernel
theorem dL_law_391 : decode cL_law 391 = .ok (.iadd, 1) := by decide +kernel
theorem dL_law_392 : decode cL_law 392 = .ok (.iaload, 1) := by decide +kernel
theorem dL_law_393 : decode cL_law 393 = .ok (.aload_n 0, 1) := by decide +kernel
theorem dL_law_394 : decode cL_law 394 = .ok (.iload_n 3, 1) := by decide +kernel
theorem dL_law_395 : decode cL_law 395 = .ok (.iconst 2, 1) := by decide +kernel
theorem dL_law_396 : decode cL_law 396 = .ok (.iadd, 1) := by decide +kernel
theorem dL_law_397 : decode cL_law 397 = .ok (.iaload, 1) := by decide +kernel
theorem dL_law_398 : decode cL_law 398 = .ok (.invokevirtual 46, 3) := by decide +kernel
theorem dL_law_401 : decode cL_law 401 = .ok (.aload_n 2, 1) := by decide +kernel
theorem dL_law_402 : decode cL_law 402 = .ok (.aload_n 0, 1) := by decide +kernel
theorem dL_law_403 : decode cL_law 403 = .ok (.iload_n 3, 1) := by decide +kernel
theorem dL_law_404 : decode cL_law 404 = .ok (.iconst 1, 1) := by decide +kernel
theorem dL_law_405 : decode cL_law 405 = .ok (.iadd, 1) := by decide +kernel
theorem dL_law_406 : decode cL_law 406 = .ok (.iaload, 1) := by decide +kernel
theorem dL_law_407 : decode cL_law 407 = .ok (.aload_n 0, 1) := by decide +kernel
theorem dL_law_408 : decode cL_law 408 = .ok (.iload_n 3, 1) := by decide +kernel
theorem dL_law_409 : decode cL_law 409 = .ok (.iconst 2, 1) := by decide +kernel
theorem dL_law_410 : decode cL_law 410 = .ok (.iadd, 1) := by decide +kernel
theorem dL_law_411 : decode cL_law 411 = .ok (.iaload, 1) := by decide +kernel
theorem dL_law_412 : decode cL_law 412 = .ok (.invokevirtual 49, 3) := by decide +kernel
theorem dL_law_415 : decode cL_law 415 = .ok (.if_icmp .eq 522, 3) := by decide +kernel
theorem dL_law_418 : decode cL_law 418 = .ok (.iconst 0, 1) := by decide +kernel
theorem dL_law_419 : decode cL_law 419 = .ok (.ireturn, 1) := by decide +kernel
theorem dL_law_420 : decode cL_law 420 = .ok (.aload_n 1, 1) := by decide +kernel
theorem dL_law_421 : decode cL_law 421 = .ok (.aload_n 0, 1) := by decide +kernel
theorem dL_law_422 : decode cL_law 422 = .ok (.iload_n 3, 1) := by decide +kernel
theorem dL_law_423 : decode cL_law 423 = .ok (.iconst 1, 1) := by decide +kernel
theorem dL_law_424 : decode cL_law 424 = .ok (.iadd, 1) := by decide +kernel
theorem dL_law_425 : decode cL_law 425 = .ok (.iaload, 1) := by decide +kernel
theorem dL_law_426 : decode cL_law 426 = .ok (.aload_n 0, 1) := by decide +kernel
theorem dL_law_427 : decode cL_law 427 = .ok (.iload_n 3, 1) := by decide +kernel
theorem dL_law_428 : decode cL_law 428 = .ok (.iconst 2, 1) := by decide +kernel
theorem dL_law_429 : decode cL_law 429 = .ok (.iadd, 1) := by decide +kernel
theorem dL_law_430 : decode cL_law 430 = .ok (.iaload, 1) := by decide +kernel
theorem dL_law_431 : decode cL_law 431 = .ok (.aload_n 0, 1) := by decide +kernel
theorem dL_law_432 : decode cL_law 432 = .ok (.iload_n 3, 1) := by decide +kernel
theorem dL_law_433 : decode cL_law 433 = .ok (.iconst 3, 1) := by decide +kernel
theorem dL_law_434 : decode cL_law 434 = .ok (.iadd, 1) := by decide +kernel
theorem dL_law_435 : decode cL_law 435 = .ok (.iaload, 1) := by decide +kernel
theorem dL_law_436 : decode cL_law 436 = .ok (.invokevirtual 50, 3) := by decide +kernel
theorem dL_law_439 : decode cL_law 439 = .ok (.aload_n 2, 1) := by decide +kernel
theorem dL_law_440 : decode cL_law 440 = .ok (.aload_n 0, 1) := by decide +kernel
theorem dL_law_441 : decode cL_law 441 = .ok (.iload_n 3, 1) := by decide +kernel
theorem dL_law_442 : decode cL_law 442 = .ok (.iconst 1, 1) := by decide +kernel
theorem dL_law_443 : decode cL_law 443 = .ok (.iadd, 1) := by decide +kernel
theorem dL_law_444 : decode cL_law 444 = .ok (.iaload, 1) := by decide +kernel
theorem dL_law_445 : decode cL_law 445 = .ok (.aload_n 0, 1) := by decide +kernel
theorem dL_law_446 : decode cL_law 446 = .ok (.iload_n 3, 1) := by decide +kernel
theorem dL_law_447 : decode cL_law 447 = .ok (.iconst 2, 1) := by decide +kernel
theorem dL_law_448 : decode cL_law 448 = .ok (.iadd, 1) := by decide +kernel
theorem dL_law_449 : decode cL_law 449 = .ok (.iaload, 1) := by decide +kernel
theorem dL_law_450 : decode cL_law 450 = .ok (.aload_n 0, 1) := by decide +kernel
theorem dL_law_451 : decode cL_law 451 = .ok (.iload_n 3, 1) := by decide +kernel
theorem dL_law_452 : decode cL_law 452 = .ok (.iconst 3, 1) := by decide +kernel
theorem dL_law_453 : decode cL_law 453 = .ok (.iadd, 1) := by decide +kernel
theorem dL_law_454 : decode cL_law 454 = .ok (.iaload, 1) := by decide +kernel
theorem dL_law_455 : decode cL_law 455 = .ok (.invokevirtual 53, 3) := by decide +kernel
theorem dL_law_458 : decode cL_law 458 = .ok (.if_icmp .eq 479, 3) := by decide +kernel
theorem dL_law_461 : decode cL_law 461 = .ok (.iconst 0, 1) := by decide +kernel
theorem dL_law_462 : decode cL_law 462 = .ok (.ireturn, 1) := by decide +kernel
theorem dL_law_463 : decode cL_law 463 = .ok (.aload_n 1, 1) := by decide +kernel
theorem dL_law_464 : decode cL_law 464 = .ok (.aload_n 0, 1) := by decide +kernel
theorem dL_law_465 : decode cL_law 465 = .ok (.iload_n 3, 1) := by decide +kernel
theorem dL_law_466 : decode cL_law 466 = .ok (.iconst 1, 1) := by decide +kernel
theorem dL_law_467 : decode cL_law 467 = .ok (.iadd, 1) := by decide +kernel
theorem dL_law_468 : decode cL_law 468 = .ok (.iaload, 1) := by decide +kernel
theorem dL_law_469 : decode cL_law 469 = .ok (.aload_n 0, 1) := by decide +kernel
theorem dL_law_470 : decode cL_law 470 = .ok (.iload_n 3, 1) := by decide +kernel
theorem dL_law_471 : decode cL_law 471 = .ok (.iconst 2, 1) := by decide +kernel
theorem dL_law_472 : decode cL_law 472 = .ok (.iadd, 1) := by decide +kernel
theorem dL_law_473 : decode cL_law 473 = .ok (.iaload, 1) := by decide +kernel
theorem dL_law_474 : decode cL_law 474 = .ok (.aload_n 0, 1) := by decide +kernel
theorem dL_law_475 : decode cL_law 475 = .ok (.iload_n 3, 1) := by decide +kernel
theorem dL_law_476 : decode cL_law 476 = .ok (.iconst 3, 1) := by decide +kernel
theorem dL_law_477 : decode cL_law 477 = .ok (.iadd, 1) := by decide +kernel
theorem dL_law_478 : decode cL_law 478 = .ok (.iaload, 1) := by decide +kernel
theorem dL_law_479 : decode cL_law 479 = .ok (.invokevirtual 54, 3) := by decide +kernel
theorem dL_law_482 : decode cL_law 482 = .ok (.aload_n 2, 1) := by decide +kernel
theorem dL_law_483 : decode cL_law 483 = .ok (.aload_n 0, 1) := by decide +kernel
theorem dL_law_484 : decode cL_law 484 = .ok (.iload_n 3, 1) := by decide +kernel
theorem dL_law_485 : decode cL_law 485 = .ok (.iconst 1, 1) := by decide +kernel
theorem dL_law_486 : decode cL_law 486 = .ok (.iadd, 1) := by decide +kernel
theorem dL_law_487 : decode cL_law 487 = .ok (.iaload, 1) := by decide +kernel
theorem dL_law_488 : decode cL_law 488 = .ok (.aload_n 0, 1) := by decide +kernel
theorem dL_law_489 : decode cL_law 489 = .ok (.iload_n 3, 1) := by decide +kernel
theorem dL_law_490 : decode cL_law 490 = .ok (.iconst 2, 1) := by decide +kernel
theorem dL_law_491 : decode cL_law 491 = .ok (.iadd, 1) := by decide +kernel
theorem dL_law_492 : decode cL_law 492 = .ok (.iaload, 1) := by decide +kernel
theorem dL_law_493 : decode cL_law 493 = .ok (.aload_n 0, 1) := by decide +kernel
theorem dL_law_494 : decode cL_law 494 = .ok (.iload_n 3, 1) := by decide +kernel
theorem dL_law_495 : decode cL_law 495 = .ok (.iconst 3, 1) := by decide +kernel
theorem dL_law_496 : decode cL_law 496 = .ok (.iadd, 1) := by decide +kernel
theorem dL_law_497 : decode cL_law 497 = .ok (.iaload, 1) := by decide +kernel
theorem dL_law_498 : decode cL_law 498 = .ok (.invokevirtual 57, 3) := by decide +kernel
theorem dL_law_501 : decode cL_law 501 = .ok (.if_icmp .eq 436, 3) := by decide +kernel
theorem dL_law_504 : decode cL_law 504 = .ok (.iconst 0, 1) := by decide +kernel
theorem dL_law_505 : decode cL_law 505 = .ok (.ireturn, 1) := by decide +kernel
theorem dL_law_506 : decode cL_law 506 = .ok (.aload_n 1, 1) := by decide +kernel
theorem dL_law_507 : decode cL_law 507 = .ok (.aload_n 0, 1) := by decide +kernel
theorem dL_law_508 : decode cL_law 508 = .ok (.iload_n 3, 1) := by decide +kernel
theorem dL_law_509 : decode cL_law 509 = .ok (.iconst 1, 1) := by decide +kernel
theorem dL_law_510 : decode cL_law 510 = .ok (.iadd, 1) := by decide +kernel
theorem dL_law_511 : decode cL_law 511 = .ok (.iaload, 1) := by decide +kernel
theorem dL_law_512 : decode cL_law 512 = .ok (.invokevirtual 58, 3) := by decide +kernel
theorem dL_law_515 : decode cL_law 515 = .ok (.aload_n 2, 1) := by decide +kernel
theorem dL_law_516 : decode cL_law 516 = .ok (.aload_n 0, 1) := by decide +kernel
theorem dL_law_517 : decode cL_law 517 = .ok (.iload_n 3, 1) := by decide +kernel
theorem dL_law_518 : decode cL_law 518 = .ok (.iconst 1, 1) := by decide +kernel
theorem dL_law_519 : decode cL_law 519 = .ok (.iadd, 1) := by decide +kernel
theorem dL_law_520 : decode cL_law 520 = .ok (.iaload, 1) := by decide +kernel
theorem dL_law_521 : decode cL_law 521 = .ok (.invokevirtual 61, 3) := by decide +kernel
theorem dL_law_524 : decode cL_law 524 = .ok (.if_icmp .eq 413, 3) := by decide +kernel
theorem dL_law_527 : decode cL_law 527 = .ok (.iconst 0, 1) := by decide +kernel
theorem dL_law_528 : decode cL_law 528 = .ok (.ireturn, 1) := by decide +kernel
theorem dL_law_529 : decode cL_law 529 = .ok (.aload_n 1, 1) := by decide +kernel
theorem dL_law_530 : decode cL_law 530 = .ok (.aload_n 0, 1) := by decide +kernel
theorem dL_law_531 : decode cL_law 531 = .ok (.iload_n 3, 1) := by decide +kernel
theorem dL_law_532 : decode cL_law 532 = .ok (.iconst 1, 1) := by decide +kernel
theorem dL_law_533 : decode cL_law 533 = .ok (.iadd, 1) := by decide +kernel
theorem dL_law_534 : decode cL_law 534 = .ok (.iaload, 1) := by decide +kernel
theorem dL_law_535 : decode cL_law 535 = .ok (.invokevirtual 62, 3) := by decide +kernel
theorem dL_law_538 : decode cL_law 538 = .ok (.aload_n 2, 1) := by decide +kernel
theorem dL_law_539 : decode cL_law 539 = .ok (.aload_n 0, 1) := by decide +kernel
theorem dL_law_540 : decode cL_law 540 = .ok (.iload_n 3, 1) := by decide +kernel
theorem dL_law_541 : decode cL_law 541 = .ok (.iconst 1, 1) := by decide +kernel
theorem dL_law_542 : decode cL_law 542 = .ok (.iadd, 1) := by decide +kernel
theorem dL_law_543 : decode cL_law 543 = .ok (.iaload, 1) := by decide +kernel
theorem dL_law_544 : decode cL_law 544 = .ok (.invokevirtual 65, 3) := by decide +kernel
theorem dL_law_547 : decode cL_law 547 = .ok (.if_icmp .eq 390, 3) := by decide +kernel
theorem dL_law_550 : decode cL_law 550 = .ok (.iconst 0, 1) := by decide +kernel
theorem dL_law_551 : decode cL_law 551 = .ok (.ireturn, 1) := by decide +kernel
theorem dL_law_552 : decode cL_law 552 = .ok (.aload_n 1, 1) := by decide +kernel
theorem dL_law_553 : decode cL_law 553 = .ok (.aload_n 0, 1) := by decide +kernel
theorem dL_law_554 : decode cL_law 554 = .ok (.iload_n 3, 1) := by decide +kernel
theorem dL_law_555 : decode cL_law 555 = .ok (.iconst 1, 1) := by decide +kernel
theorem dL_law_556 : decode cL_law 556 = .ok (.iadd, 1) := by decide +kernel
theorem dL_law_557 : decode cL_law 557 = .ok (.iaload, 1) := by decide +kernel
theorem dL_law_558 : decode cL_law 558 = .ok (.invokevirtual 66, 3) := by decide +kernel
theorem dL_law_561 : decode cL_law 561 = .ok (.aload_n 2, 1) := by decide +kernel
theorem dL_law_562 : decode cL_law 562 = .ok (.aload_n 0, 1) := by decide +kernel
theorem dL_law_563 : decode cL_law 563 = .ok (.iload_n 3, 1) := by decide +kernel
theorem dL_law_564 : decode cL_law 564 = .ok (.iconst 1, 1) := by decide +kernel
theorem dL_law_565 : decode cL_law 565 = .ok (.iadd, 1) := by decide +kernel
theorem dL_law_566 : decode cL_law 566 = .ok (.iaload, 1) := by decide +kernel
theorem dL_law_567 : decode cL_law 567 = .ok (.invokevirtual 69, 3) := by decide +kernel
theorem dL_law_570 : decode cL_law 570 = .ok (.if_icmp .eq 367, 3) := by decide +kernel
theorem dL_law_573 : decode cL_law 573 = .ok (.iconst 0, 1) := by decide +kernel
theorem dL_law_574 : decode cL_law 574 = .ok (.ireturn, 1) := by decide +kernel
theorem dL_law_575 : decode cL_law 575 = .ok (.aload_n 1, 1) := by decide +kernel
theorem dL_law_576 : decode cL_law 576 = .ok (.aload_n 0, 1) := by decide +kernel
theorem dL_law_577 : decode cL_law 577 = .ok (.iload_n 3, 1) := by decide +kernel
theorem dL_law_578 : decode cL_law 578 = .ok (.iconst 1, 1) := by decide +kernel
theorem dL_law_579 : decode cL_law 579 = .ok (.iadd, 1) := by decide +kernel
theorem dL_law_580 : decode cL_law 580 = .ok (.iaload, 1) := by decide +kernel
theorem dL_law_581 : decode cL_law 581 = .ok (.invokevirtual 70, 3) := by decide +kernel
theorem dL_law_584 : decode cL_law 584 = .ok (.aload_n 2, 1) := by decide +kernel
theorem dL_law_585 : decode cL_law 585 = .ok (.aload_n 0, 1) := by decide +kernel
theorem dL_law_586 : decode cL_law 586 = .ok (.iload_n 3, 1) := by decide +kernel
theorem dL_law_587 : decode cL_law 587 = .ok (.iconst 1, 1) := by decide +kernel
theorem dL_law_588 : decode cL_law 588 = .ok (.iadd, 1) := by decide +kernel
theorem dL_law_589 : decode cL_law 589 = .ok (.iaload, 1) := by decide +kernel
theorem dL_law_590 : decode cL_law 590 = .ok (.invokevirtual 73, 3) := by decide +kernel
theorem dL_law_593 : decode cL_law 593 = .ok (.if_icmp .eq 344, 3) := by decide +kernel
theorem dL_law_596 : decode cL_law 596 = .ok (.iconst 0, 1) := by decide +kernel
theorem dL_law_597 : decode cL_law 597 = .ok (.ireturn, 1) := by decide +kernel
theorem dL_law_598 : decode cL_law 598 = .ok (.aload_n 1, 1) := by decide +kernel
theorem dL_law_599 : decode cL_law 599 = .ok (.aload_n 0, 1) := by decide +kernel
theorem dL_law_600 : decode cL_law 600 = .ok (.iload_n 3, 1) := by decide +kernel
theorem dL_law_601 : decode cL_law 601 = .ok (.iconst 1, 1) := by decide +kernel
theorem dL_law_602 : decode cL_law 602 = .ok (.iadd, 1) := by decide +kernel
theorem dL_law_603 : decode cL_law 603 = .ok (.iaload, 1) := by decide +kernel
theorem dL_law_604 : decode cL_law 604 = .ok (.aload_n 0, 1) := by decide +kernel
theorem dL_law_605 : decode cL_law 605 = .ok (.iload_n 3, 1) := by decide +kernel
theorem dL_law_606 : decode cL_law 606 = .ok (.iconst 2, 1) := by decide +kernel
theorem dL_law_607 : decode cL_law 607 = .ok (.iadd, 1) := by decide +kernel
theorem dL_law_608 : decode cL_law 608 = .ok (.iaload, 1) := by decide +kernel
theorem dL_law_609 : decode cL_law 609 = .ok (.invokevirtual 74, 3) := by decide +kernel
theorem dL_law_612 : decode cL_law 612 = .ok (.aload_n 2, 1) := by decide +kernel
theorem dL_law_613 : decode cL_law 613 = .ok (.aload_n 0, 1) := by decide +kernel
theorem dL_law_614 : decode cL_law 614 = .ok (.iload_n 3, 1) := by decide +kernel
theorem dL_law_615 : decode cL_law 615 = .ok (.iconst 1, 1) := by decide +kernel
theorem dL_law_616 : decode cL_law 616 = .ok (.iadd, 1) := by decide +kernel
theorem dL_law_617 : decode cL_law 617 = .ok (.iaload, 1) := by decide +kernel
theorem dL_law_618 : decode cL_law 618 = .ok (.aload_n 0, 1) := by decide +kernel
theorem dL_law_619 : decode cL_law 619 = .ok (.iload_n 3, 1) := by decide +kernel
theorem dL_law_620 : decode cL_law 620 = .ok (.iconst 2, 1) := by decide +kernel
theorem dL_law_621 : decode cL_law 621 = .ok (.iadd, 1) := by decide +kernel
theorem dL_law_622 : decode cL_law 622 = .ok (.iaload, 1) := by decide +kernel
theorem dL_law_623 : decode cL_law 623 = .ok (.invokevirtual 77, 3) := by decide +kernel
theorem dL_law_626 : decode cL_law 626 = .ok (.if_icmp .eq 311, 3) := by decide +kernel
theorem dL_law_629 : decode cL_law 629 = .ok (.iconst 0, 1) := by decide +kernel
theorem dL_law_630 : decode cL_law 630 = .ok (.ireturn, 1) := by decide +kernel
theorem dL_law_631 : decode cL_law 631 = .ok (.aload_n 1, 1) := by decide +kernel
theorem dL_law_632 : decode cL_law 632 = .ok (.aload_n 0, 1) := by decide +kernel
theorem dL_law_633 : decode cL_law 633 = .ok (.iload_n 3, 1) := by decide +kernel
theorem dL_law_634 : decode cL_law 634 = .ok (.iconst 1, 1) := by decide +kernel
theorem dL_law_635 : decode cL_law 635 = .ok (.iadd, 1) := by decide +kernel
theorem dL_law_636 : decode cL_law 636 = .ok (.iaload, 1) := by decide +kernel
theorem dL_law_637 : decode cL_law 637 = .ok (.aload_n 0, 1) := by decide +kernel
theorem dL_law_638 : decode cL_law 638 = .ok (.iload_n 3, 1) := by decide +kernel
theorem dL_law_639 : decode cL_law 639 = .ok (.iconst 2, 1) := by decide +kernel
theorem dL_law_640 : decode cL_law 640 = .ok (.iadd, 1) := by decide +kernel
theorem dL_law_641 : decode cL_law 641 = .ok (.iaload, 1) := by decide +kernel
theorem dL_law_642 : decode cL_law 642 = .ok (.invokevirtual 78, 3) := by decide +kernel
theorem dL_law_645 : decode cL_law 645 = .ok (.aload_n 2, 1) := by decide +kernel
theorem dL_law_646 : decode cL_law 646 = .ok (.aload_n 0, 1) := by decide +kernel
theorem dL_law_647 : decode cL_law 647 = .ok (.iload_n 3, 1) := by decide +kernel
theorem dL_law_648 : decode cL_law 648 = .ok (.iconst 1, 1) := by decide +kernel
theorem dL_law_649 : decode cL_law 649 = .ok (.iadd, 1) := by decide +kernel
theorem dL_law_650 : decode cL_law 650 = .ok (.iaload, 1) := by decide +kernel
theorem dL_law_651 : decode cL_law 651 = .ok (.aload_n 0, 1) := by decide +kernel
theorem dL_law_652 : decode cL_law 652 = .ok (.iload_n 3, 1) := by decide +kernel
theorem dL_law_653 : decode cL_law 653 = .ok (.iconst 2, 1) := by decide +kernel
theorem dL_law_654 : decode cL_law 654 = .ok (.iadd, 1) := by decide +kernel
theorem dL_law_655 : decode cL_law 655 = .ok (.iaload, 1) := by decide +kernel
theorem dL_law_656 : decode cL_law 656 = .ok (.invokevirtual 81, 3) := by decide +kernel
theorem dL_law_659 : decode cL_law 659 = .ok (.if_icmp .eq 278, 3) := by decide +kernel
theorem dL_law_662 : decode cL_law 662 = .ok (.iconst 0, 1) := by decide +kernel
theorem dL_law_663 : decode cL_law 663 = .ok (.ireturn, 1) := by decide +kernel
theorem dL_law_664 : decode cL_law 664 = .ok (.aload_n 1, 1) := by decide +kernel
theorem dL_law_665 : decode cL_law 665 = .ok (.aload_n 0, 1) := by decide +kernel
theorem dL_law_666 : decode cL_law 666 = .ok (.iload_n 3, 1) := by decide +kernel
theorem dL_law_667 : decode cL_law 667 = .ok (.iconst 1, 1) := by decide +kernel
theorem dL_law_668 : decode cL_law 668 = .ok (.iadd, 1) := by decide +kernel
theorem dL_law_669 : decode cL_law 669 = .ok (.iaload, 1) := by decide +kernel
theorem dL_law_670 : decode cL_law 670 = .ok (.aload_n 0, 1) := by decide +kernel
theorem dL_law_671 : decode cL_law 671 = .ok (.iload_n 3, 1) := by decide +kernel
theorem dL_law_672 : decode cL_law 672 = .ok (.iconst 2, 1) := by decide +kernel
theorem dL_law_673 : decode cL_law 673 = .ok (.iadd, 1) := by decide +kernel
theorem dL_law_674 : decode cL_law 674 = .ok (.iaload, 1) := by decide +kernel
theorem dL_law_675 : decode cL_law 675 = .ok (.invokevirtual 82, 3) := by decide +kernel
theorem dL_law_678 : decode cL_law 678 = .ok (.aload_n 2, 1) := by decide +kernel
theorem dL_law_679 : decode cL_law 679 = .ok (.aload_n 0, 1) := by decide +kernel
theorem dL_law_680 : decode cL_law 680 = .ok (.iload_n 3, 1) := by decide +kernel
theorem dL_law_681 : decode cL_law 681 = .ok (.iconst 1, 1) := by decide +kernel
theorem dL_law_682 : decode cL_law 682 = .ok (.iadd, 1) := by decide +kernel
theorem dL_law_683 : decode cL_law 683 = .ok (.iaload, 1) := by decide +kernel
theorem dL_law_684 : decode cL_law 684 = .ok (.aload_n 0, 1) := by decide +kernel
theorem dL_law_685 : decode cL_law 685 = .ok (.iload_n 3, 1) := by decide +kernel
theorem dL_law_686 : decode cL_law 686 = .ok (.iconst 2, 1) := by decide +kernel
theorem dL_law_687 : decode cL_law 687 = .ok (.iadd, 1) := by decide +kernel
theorem dL_law_688 : decode cL_law 688 = .ok (.iaload, 1) := by decide +kernel
theorem dL_law_689 : decode cL_law 689 = .ok (.invokevirtual 85, 3) := by decide +kernel
theorem dL_law_692 : decode cL_law 692 = .ok (.if_icmp .eq 245, 3) := by decide +kernel
theorem dL_law_695 : decode cL_law 695 = .ok (.iconst 0, 1) := by decide +kernel
theorem dL_law_696 : decode cL_law 696 = .ok (.ireturn, 1) := by decide +kernel
theorem dL_law_697 : decode cL_law 697 = .ok (.aload_n 1, 1) := by decide +kernel
theorem dL_law_698 : decode cL_law 698 = .ok (.aload_n 0, 1) := by decide +kernel
theorem dL_law_699 : decode cL_law 699 = .ok (.iload_n 3, 1) := by decide +kernel
theorem dL_law_700 : decode cL_law 700 = .ok (.iconst 1, 1) := by decide +kernel
theorem dL_law_701 : decode cL_law 701 = .ok (.iadd, 1) := by decide +kernel
theorem dL_law_702 : decode cL_law 702 = .ok (.iaload, 1) := by decide +kernel
theorem dL_law_703 : decode cL_law 703 = .ok (.invokevirtual 86, 3) := by decide +kernel
theorem dL_law_706 : decode cL_law 706 = .ok (.aload_n 2, 1) := by decide +kernel
theorem dL_law_707 : decode cL_law 707 = .ok (.aload_n 0, 1) := by decide +kernel
theorem dL_law_708 : decode cL_law 708 = .ok (.iload_n 3, 1) := by decide +kernel
theorem dL_law_709 : decode cL_law 709 = .ok (.iconst 1, 1) := by decide +kernel
theorem dL_law_710 : decode cL_law 710 = .ok (.iadd, 1) := by decide +kernel
theorem dL_law_711 : decode cL_law 711 = .ok (.iaload, 1) := by decide +kernel
theorem dL_law_712 : decode cL_law 712 = .ok (.invokevirtual 89, 3) := by decide +kernel
theorem dL_law_715 : decode cL_law 715 = .ok (.if_icmp .eq 222, 3) := by decide +kernel
theorem dL_law_718 : decode cL_law 718 = .ok (.iconst 0, 1) := by decide +kernel
theorem dL_law_719 : decode cL_law 719 = .ok (.ireturn, 1) := by decide +kernel
theorem dL_law_720 : decode cL_law 720 = .ok (.aload_n 1, 1) := by decide +kernel
theorem dL_law_721 : decode cL_law 721 = .ok (.aload_n 0, 1) := by decide +kernel
theorem dL_law_722 : decode cL_law 722 = .ok (.iload_n 3, 1) := by decide +kernel
theorem dL_law_723 : decode cL_law 723 = .ok (.iconst 1, 1) := by decide +kernel
theorem dL_law_724 : decode cL_law 724 = .ok (.iadd, 1) := by decide +kernel
theorem dL_law_725 : decode cL_law 725 = .ok (.iaload, 1) := by decide +kernel
theorem dL_law_726 : decode cL_law 726 = .ok (.invokevirtual 90, 3) := by decide +kernel
theorem dL_law_729 : decode cL_law 729 = .ok (.aload_n 2, 1) := by decide +kernel
theorem dL_law_730 : decode cL_law 730 = .ok (.aload_n 0, 1) := by decide +kernel
theorem dL_law_731 : decode cL_law 731 = .ok (.iload_n 3, 1) := by decide +kernel
theorem dL_law_732 : decode cL_law 732 = .ok (.iconst 1, 1) := by decide +kernel
theorem dL_law_733 : decode cL_law 733 = .ok (.iadd, 1) := by decide +kernel
theorem dL_law_734 : decode cL_law 734 = .ok (.iaload, 1) := by decide +kernel
theorem dL_law_735 : decode cL_law 735 = .ok (.invokevirtual 93, 3) := by decide +kernel
theorem dL_law_738 : decode cL_law 738 = .ok (.if_icmp .eq 199, 3) := by decide +kernel
theorem dL_law_741 : decode cL_law 741 = .ok (.iconst 0, 1) := by decide +kernel
theorem dL_law_742 : decode cL_law 742 = .ok (.ireturn, 1) := by decide +kernel
theorem dL_law_743 : decode cL_law 743 = .ok (.aload_n 1, 1) := by decide +kernel
theorem dL_law_744 : decode cL_law 744 = .ok (.invokevirtual 94, 3) := by decide +kernel
theorem dL_law_747 : decode cL_law 747 = .ok (.aload_n 2, 1) := by decide +kernel
theorem dL_law_748 : decode cL_law 748 = .ok (.invokevirtual 97, 3) := by decide +kernel
theorem dL_law_751 : decode cL_law 751 = .ok (.if_icmp .eq 186, 3) := by decide +kernel
theorem dL_law_754 : decode cL_law 754 = .ok (.iconst 0, 1) := by decide +kernel
theorem dL_law_755 : decode cL_law 755 = .ok (.ireturn, 1) := by decide +kernel
theorem dL_law_756 : decode cL_law 756 = .ok (.aload_n 1, 1) := by decide +kernel
theorem dL_law_757 : decode cL_law 757 = .ok (.aload_n 0, 1) := by decide +kernel
theorem dL_law_758 : decode cL_law 758 = .ok (.iload_n 3, 1) := by decide +kernel
theorem dL_law_759 : decode cL_law 759 = .ok (.iconst 1, 1) := by decide +kernel
theorem dL_law_760 : decode cL_law 760 = .ok (.iadd, 1) := by decide +kernel
theorem dL_law_761 : decode cL_law 761 = .ok (.iaload, 1) := by decide +kernel
theorem dL_law_762 : decode cL_law 762 = .ok (.aload_n 0, 1) := by decide +kernel
theorem dL_law_763 : decode cL_law 763 = .ok (.iload_n 3, 1) := by decide +kernel
theorem dL_law_764 : decode cL_law 764 = .ok (.iconst 2, 1) := by decide +kernel
theorem dL_law_765 : decode cL_law 765 = .ok (.iadd, 1) := by decide +kernel
theorem dL_law_766 : decode cL_law 766 = .ok (.iaload, 1) := by decide +kernel
theorem dL_law_767 : decode cL_law 767 = .ok (.aload_n 0, 1) := by decide +kernel
theorem dL_law_768 : decode cL_law 768 = .ok (.iload_n 3, 1) := by decide +kernel
theorem dL_law_769 : decode cL_law 769 = .ok (.iconst 3, 1) := by decide +kernel
theorem dL_law_770 : decode cL_law 770 = .ok (.iadd, 1) := by decide +kernel
theorem dL_law_771 : decode cL_law 771 = .ok (.iaload, 1) := by decide +kernel
theorem dL_law_772 : decode cL_law 772 = .ok (.invokevirtual 98, 3) := by decide +kernel
theorem dL_law_775 : decode cL_law 775 = .ok (.aload_n 2, 1) := by decide +kernel
theorem dL_law_776 : decode cL_law 776 = .ok (.aload_n 0, 1) := by decide +kernel
theorem dL_law_777 : decode cL_law 777 = .ok (.iload_n 3, 1) := by decide +kernel
theorem dL_law_778 : decode cL_law 778 = .ok (.iconst 1, 1) := by decide +kernel
theorem dL_law_779 : decode cL_law 779 = .ok (.iadd, 1) := by decide +kernel
theorem dL_law_780 : decode cL_law 780 = .ok (.iaload, 1) := by decide +kernel
theorem dL_law_781 : decode cL_law 781 = .ok (.aload_n 0, 1) := by decide +kernel
theorem dL_law_782 : decode cL_law 782 = .ok (.iload_n 3, 1) := by decide +kernel
theorem dL_law_783 : decode cL_law 783 = .ok (.iconst 2, 1) := by decide +kernel
theorem dL_law_784 : decode cL_law 784 = .ok (.iadd, 1) := by decide +kernel
theorem dL_law_785 : decode cL_law 785 = .ok (.iaload, 1) := by decide +kernel
theorem dL_law_786 : decode cL_law 786 = .ok (.aload_n 0, 1) := by decide +kernel
theorem dL_law_787 : decode cL_law 787 = .ok (.iload_n 3, 1) := by decide +kernel
theorem dL_law_788 : decode cL_law 788 = .ok (.iconst 3, 1) := by decide +kernel
theorem dL_law_789 : decode cL_law 789 = .ok (.iadd, 1) := by decide +kernel
theorem dL_law_790 : decode cL_law 790 = .ok (.iaload, 1) := by decide +kernel
theorem dL_law_791 : decode cL_law 791 = .ok (.invokevirtual 101, 3) := by decide +kernel
theorem dL_law_794 : decode cL_law 794 = .ok (.if_icmp .eq 143, 3) := by decide +kernel
theorem dL_law_797 : decode cL_law 797 = .ok (.iconst 0, 1) := by decide +kernel
theorem dL_law_798 : decode cL_law 798 = .ok (.ireturn, 1) := by decide +kernel
theorem dL_law_799 : decode cL_law 799 = .ok (.aload_n 1, 1) := by decide +kernel
theorem dL_law_800 : decode cL_law 800 = .ok (.invokevirtual 102, 3) := by decide +kernel
theorem dL_law_803 : decode cL_law 803 = .ok (.aload_n 2, 1) := by decide +kernel
theorem dL_law_804 : decode cL_law 804 = .ok (.invokevirtual 105, 3) := by decide +kernel
theorem dL_law_807 : decode cL_law 807 = .ok (.if_icmp .eq 130, 3) := by decide +kernel
theorem dL_law_810 : decode cL_law 810 = .ok (.iconst 0, 1) := by decide +kernel
theorem dL_law_811 : decode cL_law 811 = .ok (.ireturn, 1) := by decide +kernel
theorem dL_law_812 : decode cL_law 812 = .ok (.aload_n 1, 1) := by decide +kernel
theorem dL_law_813 : decode cL_law 813 = .ok (.aload_n 0, 1) := by decide +kernel
theorem dL_law_814 : decode cL_law 814 = .ok (.iload_n 3, 1) := by decide +kernel
theorem dL_law_815 : decode cL_law 815 = .ok (.iconst 1, 1) := by decide +kernel
theorem dL_law_816 : decode cL_law 816 = .ok (.iadd, 1) := by decide +kernel
theorem dL_law_817 : decode cL_law 817 = .ok (.iaload, 1) := by decide +kernel
theorem dL_law_818 : decode cL_law 818 = .ok (.invokevirtual 106, 3) := by decide +kernel
theorem dL_law_821 : decode cL_law 821 = .ok (.aload_n 2, 1) := by decide +kernel
theorem dL_law_822 : decode cL_law 822 = .ok (.aload_n 0, 1) := by decide +kernel
theorem dL_law_823 : decode cL_law 823 = .ok (.iload_n 3, 1) := by decide +kernel
theorem dL_law_824 : decode cL_law 824 = .ok (.iconst 1, 1) := by decide +kernel
theorem dL_law_825 : decode cL_law 825 = .ok (.iadd, 1) := by decide +kernel
theorem dL_law_826 : decode cL_law 826 = .ok (.iaload, 1) := by decide +kernel
theorem dL_law_827 : decode cL_law 827 = .ok (.invokevirtual 109, 3) := by decide +kernel
theorem dL_law_830 : decode cL_law 830 = .ok (.if_icmp .eq 107, 3) := by decide +kernel
theorem dL_law_833 : decode cL_law 833 = .ok (.iconst 0, 1) := by decide +kernel
theorem dL_law_834 : decode cL_law 834 = .ok (.ireturn, 1) := by decide +kernel
theorem dL_law_835 : decode cL_law 835 = .ok (.aload_n 1, 1) := by decide +kernel
theorem dL_law_836 : decode cL_law 836 = .ok (.invokevirtual 110, 3) := by decide +kernel
theorem dL_law_839 : decode cL_law 839 = .ok (.aload_n 2, 1) := by decide +kernel
theorem dL_law_840 : decode cL_law 840 = .ok (.invokevirtual 113, 3) := by decide +kernel
theorem dL_law_843 : decode cL_law 843 = .ok (.if_icmp .eq 94, 3) := by decide +kernel
theorem dL_law_846 : decode cL_law 846 = .ok (.iconst 0, 1) := by decide +kernel
theorem dL_law_847 : decode cL_law 847 = .ok (.ireturn, 1) := by decide +kernel
theorem dL_law_848 : decode cL_law 848 = .ok (.aload_n 1, 1) := by decide +kernel
theorem dL_law_849 : decode cL_law 849 = .ok (.aload_n 0, 1) := by decide +kernel
theorem dL_law_850 : decode cL_law 850 = .ok (.iload_n 3, 1) := by decide +kernel
theorem dL_law_851 : decode cL_law 851 = .ok (.iconst 1, 1) := by decide +kernel
theorem dL_law_852 : decode cL_law 852 = .ok (.iadd, 1) := by decide +kernel
theorem dL_law_853 : decode cL_law 853 = .ok (.iaload, 1) := by decide +kernel
theorem dL_law_854 : decode cL_law 854 = .ok (.aload_n 0, 1) := by decide +kernel
theorem dL_law_855 : decode cL_law 855 = .ok (.iload_n 3, 1) := by decide +kernel
theorem dL_law_856 : decode cL_law 856 = .ok (.iconst 2, 1) := by decide +kernel
theorem dL_law_857 : decode cL_law 857 = .ok (.iadd, 1) := by decide +kernel
theorem dL_law_858 : decode cL_law 858 = .ok (.iaload, 1) := by decide +kernel
theorem dL_law_859 : decode cL_law 859 = .ok (.aload_n 0, 1) := by decide +kernel
theorem dL_law_860 : decode cL_law 860 = .ok (.iload_n 3, 1) := by decide +kernel
theorem dL_law_861 : decode cL_law 861 = .ok (.iconst 3, 1) := by decide +kernel
theorem dL_law_862 : decode cL_law 862 = .ok (.iadd, 1) := by decide +kernel
theorem dL_law_863 : decode cL_law 863 = .ok (.iaload, 1) := by decide +kernel
theorem dL_law_864 : decode cL_law 864 = .ok (.invokevirtual 114, 3) := by decide +kernel
theorem dL_law_867 : decode cL_law 867 = .ok (.aload_n 2, 1) := by decide +kernel
theorem dL_law_868 : decode cL_law 868 = .ok (.aload_n 0, 1) := by decide +kernel
theorem dL_law_869 : decode cL_law 869 = .ok (.iload_n 3, 1) := by decide +kernel
theorem dL_law_870 : decode cL_law 870 = .ok (.iconst 1, 1) := by decide +kernel
theorem dL_law_871 : decode cL_law 871 = .ok (.iadd, 1) := by decide +kernel
theorem dL_law_872 : decode cL_law 872 = .ok (.iaload, 1) := by decide +kernel
theorem dL_law_873 : decode cL_law 873 = .ok (.aload_n 0, 1) := by decide +kernel
theorem dL_law_874 : decode cL_law 874 = .ok (.iload_n 3, 1) := by decide +kernel
theorem dL_law_875 : decode cL_law 875 = .ok (.iconst 2, 1) := by decide +kernel
theorem dL_law_876 : decode cL_law 876 = .ok (.iadd, 1) := by decide +kernel
theorem dL_law_877 : decode cL_law 877 = .ok (.iaload, 1) := by decide +kernel
theorem dL_law_878 : decode cL_law 878 = .ok (.aload_n 0, 1) := by decide +kernel
theorem dL_law_879 : decode cL_law 879 = .ok (.iload_n 3, 1) := by decide +kernel
theorem dL_law_880 : decode cL_law 880 = .ok (.iconst 3, 1) := by decide +kernel
theorem dL_law_881 : decode cL_law 881 = .ok (.iadd, 1) := by decide +kernel
theorem dL_law_882 : decode cL_law 882 = .ok (.iaload, 1) := by decide +kernel
theorem dL_law_883 : decode cL_law 883 = .ok (.invokevirtual 117, 3) := by decide +kernel
theorem dL_law_886 : decode cL_law 886 = .ok (.if_icmp .eq 51, 3) := by decide +kernel
theorem dL_law_889 : decode cL_law 889 = .ok (.iconst 0, 1) := by decide +kernel
theorem dL_law_890 : decode cL_law 890 = .ok (.ireturn, 1) := by decide +kernel
theorem dL_law_891 : decode cL_law 891 = .ok (.aload_n 1, 1) := by decide +kernel
theorem dL_law_892 : decode cL_law 892 = .ok (.aload_n 0, 1) := by decide +kernel
theorem dL_law_893 : decode cL_law 893 = .ok (.iload_n 3, 1) := by decide +kernel
theorem dL_law_894 : decode cL_law 894 = .ok (.iconst 1, 1) := by decide +kernel
theorem dL_law_895 : decode cL_law 895 = .ok (.iadd, 1) := by decide +kernel
theorem dL_law_896 : decode cL_law 896 = .ok (.iaload, 1) := by decide +kernel
theorem dL_law_897 : decode cL_law 897 = .ok (.invokevirtual 118, 3) := by decide +kernel
theorem dL_law_900 : decode cL_law 900 = .ok (.aload_n 2, 1) := by decide +kernel
theorem dL_law_901 : decode cL_law 901 = .ok (.aload_n 0, 1) := by decide +kernel
theorem dL_law_902 : decode cL_law 902 = .ok (.iload_n 3, 1) := by decide +kernel
theorem dL_law_903 : decode cL_law 903 = .ok (.iconst 1, 1) := by decide +kernel
theorem dL_law_904 : decode cL_law 904 = .ok (.iadd, 1) := by decide +kernel
theorem dL_law_905 : decode cL_law 905 = .ok (.iaload, 1) := by decide +kernel
theorem dL_law_906 : decode cL_law 906 = .ok (.invokevirtual 121, 3) := by decide +kernel
theorem dL_law_909 : decode cL_law 909 = .ok (.if_icmp .eq 28, 3) := by decide +kernel
theorem dL_law_912 : decode cL_law 912 = .ok (.iconst 0, 1) := by decide +kernel
theorem dL_law_913 : decode cL_law 913 = .ok (.ireturn, 1) := by decide +kernel
theorem dL_law_914 : decode cL_law 914 = .ok (.aload_n 1, 1) := by decide +kernel
theorem dL_law_915 : decode cL_law 915 = .ok (.aload_n 0, 1) := by decide +kernel
theorem dL_law_916 : decode cL_law 916 = .ok (.iload_n 3, 1) := by decide +kernel
theorem dL_law_917 : decode cL_law 917 = .ok (.iconst 1, 1) := by decide +kernel
theorem dL_law_918 : decode cL_law 918 = .ok (.iadd, 1) := by decide +kernel
theorem dL_law_919 : decode cL_law 919 = .ok (.iaload, 1) := by decide +kernel
theorem dL_law_920 : decode cL_law 920 = .ok (.invokevirtual 122, 3) := by decide +kernel
theorem dL_law_923 : decode cL_law 923 = .ok (.aload_n 2, 1) := by decide +kernel
theorem dL_law_924 : decode cL_law 924 = .ok (.aload_n 0, 1) := by decide +kernel
theorem dL_law_925 : decode cL_law 925 = .ok (.iload_n 3, 1) := by decide +kernel
theorem dL_law_926 : decode cL_law 926 = .ok (.iconst 1, 1) := by decide +kernel
theorem dL_law_927 : decode cL_law 927 = .ok (.iadd, 1) := by decide +kernel
theorem dL_law_928 : decode cL_law 928 = .ok (.iaload, 1) := by decide +kernel
theorem dL_law_929 : decode cL_law 929 = .ok (.invokevirtual 125, 3) := by decide +kernel
theorem dL_law_932 : decode cL_law 932 = .ok (.if_icmp .eq 5, 3) := by decide +kernel
theorem dL_law_935 : decode cL_law 935 = .ok (.iconst 0, 1) := by decide +kernel
theorem dL_law_936 : decode cL_law 936 = .ok (.ireturn, 1) := by decide +kernel
theorem dL_law_937 : decode cL_law 937 = .ok (.iinc 3 6, 3) := by decide +kernel
theorem dL_law_940 : decode cL_law 940 = .ok (.goto (-922), 3) := by decide +kernel
theorem dL_law_943 : decode cL_law 943 = .ok (.iconst 1, 1) := by decide +kernel
theorem dL_law_944 : decode cL_law 944 = .ok (.ireturn, 1) := by decide +kernel
end
section
/-! ===== a memory of ints by cells, its picture, and the judgement 'the machine does what the computation M says' ===== -/
abbrev Mem : Type := Nat → Nat → Int32
abbrev Sh : Type := Nat ⊕ (Nat × List (Option Nat))
abbrev Res : Type := Option (Int32 × Mem)
def wr (x : Mem) (a j : Nat) (v : Int32) : Mem := fun b => if b = a then upd (x a) j v else x b
def fvs (ad : Nat → Nat) (f : Nat → Int32) : Nat → List (Option Nat) → List Value
  | _, [] => []
  | k, none :: r => .int (f k) :: fvs ad f (k + 1) r
  | k, some j :: r => .ref (ad j) :: fvs ad f (k + 1) r
def ce (cy : ClassId) (ad : Nat → Nat) (f : Nat → Int32) (s : Sh) : va_E := match s with
  | .inl n => .inl (cy, n, .inl f)
  | .inr (ci, fs) => .inr (ci, fvs ad f 0 fs)
def pic (cy : ClassId) (ad : Nat → Nat) (x : Mem) : Nat → List Sh → va_W
  | _, [] => []
  | i, s :: r => (ad i, ce cy ad (x i) s) :: pic cy ad x (i + 1) r
theorem fvs_get (ad : Nat → Nat) (f : Nat → Int32) : ∀ (fs : List (Option Nat)) (k j : Nat), fs[j]? = some none → (fvs ad f k fs)[j]? = some (.int (f (k + j))) := by
  intro fs
  induction fs with
  | nil => intro k j h; simp at h
  | cons a r ih =>
    intro k j h
    cases j with
    | zero =>
      simp only [List.getElem?_cons_zero, Option.some.injEq] at h
      subst h
      rfl
    | succ j =>
      simp only [List.getElem?_cons_succ] at h
      have e := ih (k + 1) j h
      have e2 : k + 1 + j = k + (j + 1) := by omega
      rw [e2] at e
      cases a <;> exact e
theorem fvs_ref (ad : Nat → Nat) (f : Nat → Int32) : ∀ (fs : List (Option Nat)) (k j t : Nat), fs[j]? = some (some t) → (fvs ad f k fs)[j]? = some (.ref (ad t)) := by
  intro fs
  induction fs with
  | nil => intro k j t h; simp at h
  | cons a r ih =>
    intro k j t h
    cases j with
    | zero =>
      simp only [List.getElem?_cons_zero, Option.some.injEq] at h
      subst h
      rfl
    | succ j =>
      simp only [List.getElem?_cons_succ] at h
      have e := ih (k + 1) j t h
      cases a <;> exact e
theorem fvs_set (ad : Nat → Nat) (f : Nat → Int32) (v : Int32) : ∀ (fs : List (Option Nat)) (k j : Nat), fs[j]? = some none → (fvs ad f k fs).set j (.int v) = fvs ad (upd f (k + j) v) k fs := by
  intro fs
  induction fs with
  | nil => intro k j h; simp at h
  | cons a r ih =>
    intro k j h
    cases j with
    | zero =>
      simp only [List.getElem?_cons_zero, Option.some.injEq] at h
      subst h
      have e : ∀ (r : List (Option Nat)) (q : Nat), k < q → fvs ad (upd f k v) q r = fvs ad f q r := by
        intro r
        induction r with
        | nil => intro q _; rfl
        | cons b r ih2 =>
          intro q hq
          cases b with
          | none => show Value.int (upd f k v q) :: fvs ad (upd f k v) (q + 1) r = _; rw [ih2 (q + 1) (by omega)]; simp [upd, fvs, Nat.ne_of_gt hq]
          | some t => show Value.ref (ad t) :: fvs ad (upd f k v) (q + 1) r = _; rw [ih2 (q + 1) (by omega)]; rfl
      show Value.int v :: fvs ad f (k + 1) r = Value.int (upd f k v k) :: fvs ad (upd f k v) (k + 1) r
      rw [e r (k + 1) (by omega)]
      simp [upd]
    | succ j =>
      simp only [List.getElem?_cons_succ] at h
      have e := ih (k + 1) j h
      have e2 : k + 1 + j = k + (j + 1) := by omega
      rw [e2] at e
      cases a with
      | none =>
        show Value.int (f k) :: (fvs ad f (k + 1) r).set j (.int v) = Value.int (upd f (k + (j + 1)) v k) :: fvs ad (upd f (k + (j + 1)) v) (k + 1) r
        rw [e]
        simp [upd]
      | some t =>
        show Value.ref (ad t) :: (fvs ad f (k + 1) r).set j (.int v) = Value.ref (ad t) :: fvs ad (upd f (k + (j + 1)) v) (k + 1) r
        rw [e]
theorem pic_get (cy : ClassId) (ad : Nat → Nat) (x : Mem) : ∀ (sh : List Sh) (i k : Nat) (s : Sh), sh[k]? = some s → (pic cy ad x i sh)[k]? = some (ad (i + k), ce cy ad (x (i + k)) s) := by
  intro sh
  induction sh with
  | nil => intro i k s h; simp at h
  | cons a r ih =>
    intro i k s h
    cases k with
    | zero =>
      simp only [List.getElem?_cons_zero, Option.some.injEq] at h
      subst h
      rfl
    | succ k =>
      simp only [List.getElem?_cons_succ] at h
      have e := ih (i + 1) k s h
      have e2 : i + 1 + k = i + (k + 1) := by omega
      rw [e2] at e
      exact e
theorem pic_inv (cy : ClassId) (ad : Nat → Nat) (x : Mem) : ∀ (sh : List Sh) (i k : Nat) (q : Nat × va_E), (pic cy ad x i sh)[k]? = some q → ∃ s, sh[k]? = some s ∧ q = (ad (i + k), ce cy ad (x (i + k)) s) := by
  intro sh
  induction sh with
  | nil => intro i k q h; simp [pic] at h
  | cons a r ih =>
    intro i k q h
    cases k with
    | zero =>
      simp only [pic, List.getElem?_cons_zero, Option.some.injEq] at h
      exact ⟨a, rfl, h.symm⟩
    | succ k =>
      simp only [pic, List.getElem?_cons_succ] at h
      obtain ⟨s, h1, h2⟩ := ih (i + 1) k q h
      have e2 : i + 1 + k = i + (k + 1) := by omega
      rw [e2] at h2
      exact ⟨s, h1, h2⟩
theorem pic_D {cy : ClassId} {ad : Nat → Nat} {sh : List Sh} {i : Nat} {A : Nat → Prop} (x y : Mem) (h : va_D A (pic cy ad x i sh)) : va_D A (pic cy ad y i sh) := by
  refine ⟨fun a b p q ha hb hpq => ?_, fun k q hk => ?_⟩
  · obtain ⟨s, h1, rfl⟩ := pic_inv cy ad y sh i a p ha
    obtain ⟨t, h2, rfl⟩ := pic_inv cy ad y sh i b q hb
    exact h.1 a b _ _ (pic_get cy ad x sh i a s h1) (pic_get cy ad x sh i b t h2) hpq
  · obtain ⟨s, h1, rfl⟩ := pic_inv cy ad y sh i k q hk
    exact h.2 k (ad (i + k), ce cy ad (x (i + k)) s) (pic_get cy ad x sh i k s h1)
theorem pic_A {cy : ClassId} {ad : Nat → Nat} {sh : List Sh} {i sz : Nat} (x y : Mem) : va_A (pic cy ad x i sh) sz = va_A (pic cy ad y i sh) sz := by
  have h : ∀ (x y : Mem) (q : Nat), va_A (pic cy ad x i sh) sz q → va_A (pic cy ad y i sh) sz q := by
    intro x y q hq
    rcases hq with ⟨k, e, hk⟩ | hq
    · obtain ⟨s, h1, h2⟩ := pic_inv cy ad x sh i k _ hk
      have h3 := pic_get cy ad y sh i k s h1
      have h4 : q = ad (i + k) := congrArg Prod.fst h2
      rw [← h4] at h3
      exact Or.inl ⟨k, _, h3⟩
    · exact Or.inr hq
  funext q
  exact propext ⟨h x y q, h y x q⟩
theorem pic_set (cy : ClassId) (ad : Nat → Nat) (x y : Mem) : ∀ (sh : List Sh) (i k : Nat) (s : Sh) (e : va_E), sh[k]? = some s → e = ce cy ad (y (i + k)) s → (∀ j, j ≠ i + k → y j = x j) → (pic cy ad x i sh).set k (ad (i + k), e) = pic cy ad y i sh := by
  intro sh
  induction sh with
  | nil => intro i k s e h; simp at h
  | cons a r ih =>
    intro i k s e h he hy
    cases k with
    | zero =>
      simp only [List.getElem?_cons_zero, Option.some.injEq] at h
      subst h
      have e2 : ∀ (r : List Sh) (q : Nat), i < q → pic cy ad x q r = pic cy ad y q r := by
        intro r
        induction r with
        | nil => intro q _; rfl
        | cons b r ih2 =>
          intro q hq
          show (ad q, ce cy ad (x q) b) :: pic cy ad x (q + 1) r = (ad q, ce cy ad (y q) b) :: pic cy ad y (q + 1) r
          rw [ih2 (q + 1) (by omega), hy q (by omega)]
      show (ad (i + 0), e) :: pic cy ad x (i + 1) r = (ad i, ce cy ad (y i) a) :: pic cy ad y (i + 1) r
      rw [e2 r (i + 1) (by omega), he]
      rfl
    | succ k =>
      simp only [List.getElem?_cons_succ] at h
      have e2 : i + 1 + k = i + (k + 1) := by omega
      have e3 := ih (i + 1) k s e h (by rw [e2]; exact he) (by rw [e2]; exact hy)
      rw [e2] at e3
      show (ad i, ce cy ad (x i) a) :: (pic cy ad x (i + 1) r).set k (ad (i + (k + 1)), e) = (ad i, ce cy ad (y i) a) :: pic cy ad y (i + 1) r
      rw [e3, hy i (by omega)]
theorem wr_other {x : Mem} {a j : Nat} {v : Int32} : ∀ b, b ≠ a → wr x a j v b = x b := fun b h => by simp [wr, h]
theorem wr_self {x : Mem} {a j : Nat} {v : Int32} : wr x a j v a = upd (x a) j v := by simp [wr]
-- words
def tg : List Cond := lw_tbl.filter goodWord
theorem mem_tg {w : Cond} (i : Nat) (h : lw_tbl[i]? = some w) (g : goodWord w = true) : w ∈ tg := List.mem_filter.mpr ⟨List.mem_of_getElem? h, g⟩
theorem good_tg {y : MethodName} {bc : ByteArray} {mL : Nat} {rt : Option FieldType} (h : Cond.code y bc mL rt ∈ tg) : GoodIn tg (Cond.code y bc mL rt :: tg) := by
  intro w hw
  have h1 : w ∈ tg := by
    rcases List.mem_cons.mp hw with rfl | h2
    · exact h
    · exact h2
  exact ⟨h1, good_of_word (List.mem_filter.mp h1).2⟩
def FL (own : String) (idx ci k : Nat) : Prop := ∃ (C : String) (T : u_T) (N : Nat), vwCl[ci]? = some (C, T, N) ∧ k < N ∧ Cond.fieldLink own idx (T k).1 (T k).2.1 (T k).2.2.1 ∈ tg ∧ ∀ w ∈ u_ws C T N, w ∈ tg
def FP (own : String) (idx ci k : Nat) : Prop := ∃ (C : String) (T : u_T) (N : Nat) (ty0 : Nat → FieldType), vwCl[ci]? = some (C, T, N) ∧ k < N ∧ Cond.fieldLink own idx (T k).1 (T k).2.1 (T k).2.2.1 ∈ tg ∧ (∀ w ∈ u_ws C T N, w ∈ tg) ∧ (∀ k, k < N → parseFieldDescriptor (T k).2.2.1 = some (ty0 k)) ∧ (∀ a, a < N → ∀ b, b < N → a ≠ b → (T a).2.1 ≠ (T b).2.1) ∧ (T k).2.2.2 = false ∧ parseFieldDescriptor (T k).2.2.1 = some .int
def LkV (own : String) (idx : Nat) (y : MethodName) (bc : ByteArray) (mL : Nat) (rt : Option FieldType) (n : Nat) : Prop := Cond.methodLink own idx y ∈ tg ∧ Cond.instanceMethod y ∈ tg ∧ Cond.selects y.cls y y ∈ tg ∧ Cond.initialized y.cls ∈ tg ∧ Cond.code y bc mL rt ∈ tg ∧ y.cls ≠ "java/lang/invoke/MethodHandle" ∧ y.cls ≠ "java/lang/invoke/VarHandle" ∧ (parseMethodDescriptor y.desc).map (fun d => d.parameters.length) = some n
def LkS (own : String) (idx : Nat) (y : MethodName) (bc : ByteArray) (mL : Nat) (rt : Option FieldType) (n : Nat) : Prop := Cond.methodLink own idx y ∈ tg ∧ Cond.static y ∈ tg ∧ Cond.initialized y.cls ∈ tg ∧ Cond.code y bc mL rt ∈ tg ∧ y.cls ≠ "java/lang/invoke/MethodHandle" ∧ y.cls ≠ "java/lang/invoke/VarHandle" ∧ (parseMethodDescriptor y.desc).map (fun d => d.parameters.length) = some n
def LkN (nw : List Cond) (own : String) (idx : Nat) (y : MethodName) (host : String) (bc : ByteArray) (mL : Nat) (rt : Option FieldType) (n : Nat) : Prop := Cond.methodLinkNest own idx y host ∈ nw ∧ Cond.static y ∈ tg ∧ Cond.initialized y.cls ∈ tg ∧ Cond.code y bc mL rt ∈ tg ∧ y.cls ≠ "java/lang/invoke/MethodHandle" ∧ y.cls ≠ "java/lang/invoke/VarHandle" ∧ (parseMethodDescriptor y.desc).map (fun d => d.parameters.length) = some n
/-- the nest words of the tables -/
def isNest (w : Cond) : Bool := match w with
  | .methodLinkNest _ _ _ _ => true
  | _ => false
def nestW : List Cond := lw_tbl.filter isNest
theorem nestW_form {w : Cond} (h : w ∈ nestW) : ∃ a i y b, w = .methodLinkNest a i y b := by
  have h2 := (List.mem_filter.mp h).2
  cases w <;> first | exact ⟨_, _, _, _, rfl⟩ | (simp [isNest] at h2)
def KK (D : va_G) (cy : ClassId) (U : State) : Prop := va_K D vwCl [(cy, .int)] U ∧ ∀ w ∈ nestW, va_Nw w U
theorem KK.warm {D : va_G} {cy : ClassId} {s U : State} (hW : s.WarmedH U.vm) (h : KK D cy s) : KK D cy U := by
  refine ⟨va_K.moved hW.alike h.1, fun w hw => ?_⟩
  have h1 := h.2 w hw
  obtain ⟨a, i, y, b, rfl⟩ := nestW_form hw
  exact va_Nw.warmM hW h1
theorem KK.call {D : va_G} {cy : ClassId} {U : State} {g : JFrame} {mk : MethodId} {a : Array Value} (h : KK D cy U) : KK D cy (U.calling g mk a) := by
  refine ⟨va_K.moved (u := U) (U := U.calling g mk a) (Vm.Alike.refl U.vm) h.1, fun w hw => ?_⟩
  have h1 := h.2 w hw
  obtain ⟨b, i, y, d, rfl⟩ := nestW_form hw
  exact va_Nw.same rfl (rfl : U.vm = (U.calling g mk a).vm) h1
-- locals by their places
def toA : Nat → List (Option Value) → List (Nat × Value)
  | _, [] => []
  | i, none :: r => toA (i + 1) r
  | i, some v :: r => (i, v) :: toA (i + 1) r
theorem toA_mem : ∀ (lv : List (Option Value)) (i : Nat) (q : Nat × Value), q ∈ toA i lv ↔ ∃ k, lv[k]? = some (some q.2) ∧ q.1 = i + k := by
  intro lv
  induction lv with
  | nil => intro i q; simp [toA]
  | cons a r ih =>
    intro i q
    cases a with
    | none =>
      simp only [toA, ih]
      constructor
      · rintro ⟨k, h1, h2⟩; exact ⟨k + 1, h1, by omega⟩
      · rintro ⟨k, h1, h2⟩
        cases k with
        | zero => simp at h1
        | succ k => exact ⟨k, h1, by omega⟩
    | some v =>
      simp only [toA, List.mem_cons, ih]
      constructor
      · rintro (rfl | ⟨k, h1, h2⟩)
        · exact ⟨0, rfl, rfl⟩
        · exact ⟨k + 1, h1, by omega⟩
      · rintro ⟨k, h1, h2⟩
        cases k with
        | zero => simp at h1; left; exact Prod.ext (by simpa using h2) h1.symm
        | succ k => right; exact ⟨k, h1, by omega⟩
def LVh (ls : Array Slot) (nL : Nat) (lv : List (Option Value)) : Prop := lv_has ls nL (toA 0 lv) ∧ ∀ (k : Nat) (v : Value), lv[k]? = some (some v) → v.category = 1
theorem LVh.at {ls : Array Slot} {nL : Nat} {lv : List (Option Value)} (h : LVh ls nL lv) {i : Nat} {v : Value} (hi : lv[i]? = some (some v)) : ls[i]? = some (.val v) := h.1.2.2 (i, v) ((toA_mem lv 0 (i, v)).mpr ⟨i, hi, (Nat.zero_add i).symm⟩)
theorem LVh.set {ls ls' : Array Slot} {nL i : Nat} {v : Value} {lv : List (Option Value)} (hv : v.category = 1) (h : LVh ls nL lv) (h' : lv_has ls' nL ((i, v) :: (toA 0 lv).filter (fun q => !(q.1 == i) && !(q.1 + 1 == i && q.2.category == 2)))) : LVh ls' nL (lv.set i (some v)) := by
  refine ⟨⟨h'.1, h'.2.1, fun q hq => ?_⟩, fun k w hk => ?_⟩
  · obtain ⟨k, h1, h2⟩ := (toA_mem _ 0 q).mp hq
    have hk : q.1 = k := by omega
    rw [List.getElem?_set] at h1
    by_cases e : i = k
    · rw [if_pos e] at h1
      split at h1
      · simp only [Option.some.injEq] at h1
        exact h'.2.2 q (List.mem_cons.mpr (Or.inl (Prod.ext (by simp; omega) h1.symm)))
      · cases h1
    · rw [if_neg e] at h1
      refine h'.2.2 q (List.mem_cons.mpr (Or.inr (List.mem_filter.mpr ⟨(toA_mem lv 0 q).mpr ⟨k, h1, h2⟩, ?_⟩)))
      have hc := h.2 k q.2 h1
      simp [hc]
      omega
  · rw [List.getElem?_set] at hk
    by_cases e : i = k
    · rw [if_pos e] at hk
      split at hk
      · simp only [Option.some.injEq] at hk
        rw [← hk]; exact hv
      · cases hk
    · rw [if_neg e] at hk
      exact h.2 k w hk
def maskL : List Bool → List (Option Value) → List (Option Value)
  | b :: bs, v :: r => (if b then v else none) :: maskL bs r
  | _, _ => []
theorem maskL_get : ∀ (bs : List Bool) (lv : List (Option Value)) (k : Nat) (v : Value), (maskL bs lv)[k]? = some (some v) → lv[k]? = some (some v) := by
  intro bs
  induction bs with
  | nil => intro lv k v h; cases lv <;> simp [maskL] at h
  | cons b bs ih =>
    intro lv k v h
    cases lv with
    | nil => simp [maskL] at h
    | cons a r =>
      cases k with
      | zero => cases b <;> simp [maskL] at h ⊢; exact h
      | succ k => simp only [maskL, List.getElem?_cons_succ] at h ⊢; exact ih r k v h
theorem LVh.mask {ls : Array Slot} {nL : Nat} {lv : List (Option Value)} (bs : List Bool) (h : LVh ls nL lv) : LVh ls nL (maskL bs lv) := by
  refine ⟨⟨h.1.1, h.1.2.1, fun q hq => ?_⟩, fun k v hk => h.2 k v (maskL_get bs lv k v hk)⟩
  obtain ⟨k, h1, h2⟩ := (toA_mem _ 0 q).mp hq
  exact h.1.2.2 q ((toA_mem lv 0 q).mpr ⟨k, maskL_get bs lv k _ h1, h2⟩)
end
section
/-! ===== the judgement Sim and its rows ===== -/
def QR (D : va_G) (cy : ClassId) (ad : Nat → Nat) (sh : List Sh) (A : Nat → Prop) (rt : Option FieldType) (r : Int32) (x' : Mem) : Array Value → State → Outcome → State → Prop := fun _ st oc t =>
  oc = .returned (match rt with | none => none | some _ => some (.int r)) ∧ va_P D vwCl (pic cy ad x' 0 sh) t.heap ∧ va_F A st t
def Cx (p : Program) (s : State) (m : MethodId) (args : Array Value) (meth : Method) (c : Code) (own : String) (cc : ByteArray) (nL : Nat) (rt : Option FieldType) (D : va_G) (cy : ClassId) (ad : Nat → Nat) (sh : List Sh) (A : Nat → Prop) : Prop :=
  CallFix p m c cc nL s args tg own ∧ meth.sig.returnType = rt ∧ meth.locks = false ∧ KK D cy s ∧ (∀ x : Mem, va_D A (pic cy ad x 0 sh)) ∧ ∀ q, s.heap.size ≤ q → A q
def Sim (p : Program) (l : Launch) (e : Env) (Rm : Room) (s : State) (m : MethodId) (args : Array Value) (below : List Frame) (meth : Method) (c : Code) (nL : Nat) (rt : Option FieldType) (D : va_G) (cy : ClassId) (ad : Nat → Nat) (sh : List Sh) (A : Nat → Prop) (pc : Nat) (lv : List (Option Value)) (st : List Value) (x : Mem) (M : Res) : Prop :=
  ∀ (r : Int32) (x' : Mem), M = some (r, x') → ∀ (H : Heap) (locs : List Loc) (ls : Array Slot), LVh ls nL lv → va_P D vwCl (pic cy ad x 0 sh) H → va_S A s.heap H locs →
    W p l e Rm s m args below meth c H locs 0 0 (MQ below (QR D cy ad sh A rt r x') args s 0 0 A) (F0 m pc ls st)
def chk (i : Int32) (n : Nat) (M : Res) : Res := if i < 0 ∨ n ≤ i.toNatClampNeg then none else M
def nz (y : Int32) (M : Res) : Res := if y = 0 then none else M
def letv (v : Int32) (K : Int32 → Res) : Res := K v
def letm (x : Mem) (K : Mem → Res) : Res := K x
def cl (M : Res) (K : Int32 → Mem → Res) : Res := match M with
  | none => none
  | some q => K q.1 q.2
def retz (v : Int32) (x : Mem) : Res := if v = 0 ∨ v = 1 then some (v, x) else none
section SIM
variable {p : Program} {l : Launch} {e : Env} {Rm : Room} {s : State} {m : MethodId} {args : Array Value} {below : List Frame} {meth : Method} {c : Code} {own : String} {cc : ByteArray} {nL : Nat} {rt : Option FieldType} {D : va_G} {cy : ClassId} {ad : Nat → Nat} {sh : List Sh} {A : Nat → Prop}
variable {pc : Nat} {lv : List (Option Value)} {st : List Value} {x : Mem} {M M1 M2 : Res}
theorem s_none : Sim p l e Rm s m args below meth c nL rt D cy ad sh A pc lv st x none := fun _ _ h => nomatch h
theorem s_letv {v : Int32} {K : Int32 → Res} (k : ∀ w, Sim p l e Rm s m args below meth c nL rt D cy ad sh A pc lv (.int w :: st) x (K w)) : Sim p l e Rm s m args below meth c nL rt D cy ad sh A pc lv (.int v :: st) x (letv v K) := k v
theorem s_letm {K : Mem → Res} (k : ∀ y, Sim p l e Rm s m args below meth c nL rt D cy ad sh A pc lv st y (K y)) : Sim p l e Rm s m args below meth c nL rt D cy ad sh A pc lv st x (letm x K) := k x
theorem s_mask (bs : List Bool) (k : Sim p l e Rm s m args below meth c nL rt D cy ad sh A pc (maskL bs lv) st x M) : Sim p l e Rm s m args below meth c nL rt D cy ad sh A pc lv st x M :=
  fun r x' hM H locs ls hl hP hS => k r x' hM H locs ls (hl.mask bs) hP hS
theorem s_iconst (X : Cx p s m args meth c own cc nL rt D cy ad sh A) {n : Int} {v : Int32} (hv : Int32.ofInt n = v) (hd : decode cc pc = .ok (.iconst n, 1))
    (k : Sim p l e Rm s m args below meth c nL rt D cy ad sh A (pc + 1) lv (.int v :: st) x M) : Sim p l e Rm s m args below meth c nL rt D cy ad sh A pc lv st x M :=
  fun r x' hM H locs ls hl hP hS => lv_iconst X.1.1 X.1.2.1 hd hv (k r x' hM H locs ls hl hP hS)
theorem s_bipush (X : Cx p s m args meth c own cc nL rt D cy ad sh A) {n : Int} {v : Int32} (hv : (Int8.ofInt n).toInt32 = v) (hd : decode cc pc = .ok (.bipush n, 2))
    (k : Sim p l e Rm s m args below meth c nL rt D cy ad sh A (pc + 2) lv (.int v :: st) x M) : Sim p l e Rm s m args below meth c nL rt D cy ad sh A pc lv st x M :=
  fun r x' hM H locs ls hl hP hS => lv_bipush X.1.1 X.1.2.1 hd hv (k r x' hM H locs ls hl hP hS)
theorem s_sipush (X : Cx p s m args meth c own cc nL rt D cy ad sh A) {n : Int} {v : Int32} (hv : (Int16.ofInt n).toInt32 = v) (hd : decode cc pc = .ok (.sipush n, 3))
    (k : Sim p l e Rm s m args below meth c nL rt D cy ad sh A (pc + 3) lv (.int v :: st) x M) : Sim p l e Rm s m args below meth c nL rt D cy ad sh A pc lv st x M :=
  fun r x' hM H locs ls hl hP hS => lv_sipush X.1.1 X.1.2.1 hd hv (k r x' hM H locs ls hl hP hS)
theorem s_ldc (X : Cx p s m args meth c own cc nL rt D cy ad sh A) {idx : Nat} {v : Int32} (hv : Cond.constant own idx v ∈ tg) (hd : decode cc pc = .ok (.ldc idx, 2))
    (k : Sim p l e Rm s m args below meth c nL rt D cy ad sh A (pc + 2) lv (.int v :: st) x M) : Sim p l e Rm s m args below meth c nL rt D cy ad sh A pc lv st x M :=
  fun r x' hM H locs ls hl hP hS => lv_ldc X.1.1 X.1.2.1 X.1.2.2.2.1 (X.1.2.2.2.2 _ hv) hd (k r x' hM H locs ls hl hP hS)
theorem s_ldcw (X : Cx p s m args meth c own cc nL rt D cy ad sh A) {idx : Nat} {v : Int32} (hv : Cond.constant own idx v ∈ tg) (hd : decode cc pc = .ok (.ldc_w idx, 3))
    (k : Sim p l e Rm s m args below meth c nL rt D cy ad sh A (pc + 3) lv (.int v :: st) x M) : Sim p l e Rm s m args below meth c nL rt D cy ad sh A pc lv st x M :=
  fun r x' hM H locs ls hl hP hS => lv_ldcw X.1.1 X.1.2.1 X.1.2.2.2.1 (X.1.2.2.2.2 _ hv) hd (k r x' hM H locs ls hl hP hS)
theorem s_iload_n (X : Cx p s m args meth c own cc nL rt D cy ad sh A) {k : Fin 4} {v : Int32} (hl : lv[(k : Nat)]? = some (some (.int v))) (hd : decode cc pc = .ok (.iload_n k, 1))
    (kk : Sim p l e Rm s m args below meth c nL rt D cy ad sh A (pc + 1) lv (.int v :: st) x M) : Sim p l e Rm s m args below meth c nL rt D cy ad sh A pc lv st x M :=
  fun r x' hM H locs ls hL hP hS => lv_iload_n X.1.1 X.1.2.1 hd rfl (hL.at hl) (kk r x' hM H locs ls hL hP hS)
theorem s_iload (X : Cx p s m args meth c own cc nL rt D cy ad sh A) {k : Nat} {v : Int32} (hl : lv[k]? = some (some (.int v))) (hd : decode cc pc = .ok (.iload k, 2))
    (kk : Sim p l e Rm s m args below meth c nL rt D cy ad sh A (pc + 2) lv (.int v :: st) x M) : Sim p l e Rm s m args below meth c nL rt D cy ad sh A pc lv st x M :=
  fun r x' hM H locs ls hL hP hS => lv_iload X.1.1 X.1.2.1 hd (hL.at hl) (kk r x' hM H locs ls hL hP hS)
theorem s_aload_n (X : Cx p s m args meth c own cc nL rt D cy ad sh A) {k : Fin 4} {v : Nat} (hl : lv[(k : Nat)]? = some (some (.ref v))) (hd : decode cc pc = .ok (.aload_n k, 1))
    (kk : Sim p l e Rm s m args below meth c nL rt D cy ad sh A (pc + 1) lv (.ref v :: st) x M) : Sim p l e Rm s m args below meth c nL rt D cy ad sh A pc lv st x M :=
  fun r x' hM H locs ls hL hP hS => lv_aload_n X.1.1 X.1.2.1 hd rfl (hL.at hl) (kk r x' hM H locs ls hL hP hS)
theorem s_aload (X : Cx p s m args meth c own cc nL rt D cy ad sh A) {k v : Nat} (hl : lv[k]? = some (some (.ref v))) (hd : decode cc pc = .ok (.aload k, 2))
    (kk : Sim p l e Rm s m args below meth c nL rt D cy ad sh A (pc + 2) lv (.ref v :: st) x M) : Sim p l e Rm s m args below meth c nL rt D cy ad sh A pc lv st x M :=
  fun r x' hM H locs ls hL hP hS => lv_aload X.1.1 X.1.2.1 hd (hL.at hl) (kk r x' hM H locs ls hL hP hS)
theorem s_istore_n (X : Cx p s m args meth c own cc nL rt D cy ad sh A) {k : Fin 4} {v : Int32} (hn : (k : Nat) < nL) (hd : decode cc pc = .ok (.istore_n k, 1))
    (kk : Sim p l e Rm s m args below meth c nL rt D cy ad sh A (pc + 1) (lv.set (k : Nat) (some (.int v))) st x M) : Sim p l e Rm s m args below meth c nL rt D cy ad sh A pc lv (.int v :: st) x M :=
  fun r x' hM H locs ls hL hP hS => lv_istore_n X.1.1 X.1.2.1 hd rfl hL.1 hn rfl (fun ls' h' => kk r x' hM H locs ls' (LVh.set rfl hL h') hP hS)
theorem s_istore (X : Cx p s m args meth c own cc nL rt D cy ad sh A) {k : Nat} {v : Int32} (hn : k < nL) (hd : decode cc pc = .ok (.istore k, 2))
    (kk : Sim p l e Rm s m args below meth c nL rt D cy ad sh A (pc + 2) (lv.set k (some (.int v))) st x M) : Sim p l e Rm s m args below meth c nL rt D cy ad sh A pc lv (.int v :: st) x M :=
  fun r x' hM H locs ls hL hP hS => lv_istore X.1.1 X.1.2.1 hd hL.1 hn rfl (fun ls' h' => kk r x' hM H locs ls' (LVh.set rfl hL h') hP hS)
theorem s_astore (X : Cx p s m args meth c own cc nL rt D cy ad sh A) {k v : Nat} (hn : k < nL) (hd : decode cc pc = .ok (.astore k, 2))
    (kk : Sim p l e Rm s m args below meth c nL rt D cy ad sh A (pc + 2) (lv.set k (some (.ref v))) st x M) : Sim p l e Rm s m args below meth c nL rt D cy ad sh A pc lv (.ref v :: st) x M :=
  fun r x' hM H locs ls hL hP hS => lv_astore X.1.1 X.1.2.1 hd hL.1 hn rfl (fun ls' h' => kk r x' hM H locs ls' (LVh.set rfl hL h') hP hS)
theorem s_iinc (X : Cx p s m args meth c own cc nL rt D cy ad sh A) {k : Nat} {n : Int} {v w : Int32} (hn : k < nL) (hl : lv[k]? = some (some (.int v))) (hw : Int32.ofInt n = w) (hd : decode cc pc = .ok (.iinc k n, 3))
    (kk : Sim p l e Rm s m args below meth c nL rt D cy ad sh A (pc + 3) (lv.set k (some (.int (v + w)))) st x M) : Sim p l e Rm s m args below meth c nL rt D cy ad sh A pc lv st x M :=
  fun r x' hM H locs ls hL hP hS => by
    obtain ⟨j, hj⟩ := List.getElem?_of_mem ((toA_mem lv 0 (k, Value.int v)).mpr ⟨k, hl, (Nat.zero_add k).symm⟩)
    exact lv_iinc X.1.1 X.1.2.1 hd hL.1 hj (by rw [hw]) hn rfl (fun ls' h' => kk r x' hM H locs ls' (LVh.set rfl hL h') hP hS)
theorem s_iadd (X : Cx p s m args meth c own cc nL rt D cy ad sh A) {a b : Int32} (hd : decode cc pc = .ok (.iadd, 1))
    (k : Sim p l e Rm s m args below meth c nL rt D cy ad sh A (pc + 1) lv (.int (a + b) :: st) x M) : Sim p l e Rm s m args below meth c nL rt D cy ad sh A pc lv (.int b :: .int a :: st) x M :=
  fun r x' hM H locs ls hl hP hS => lv_iadd X.1.1 X.1.2.1 hd (k r x' hM H locs ls hl hP hS)
theorem s_isub (X : Cx p s m args meth c own cc nL rt D cy ad sh A) {a b : Int32} (hd : decode cc pc = .ok (.isub, 1))
    (k : Sim p l e Rm s m args below meth c nL rt D cy ad sh A (pc + 1) lv (.int (a - b) :: st) x M) : Sim p l e Rm s m args below meth c nL rt D cy ad sh A pc lv (.int b :: .int a :: st) x M :=
  fun r x' hM H locs ls hl hP hS => lv_isub X.1.1 X.1.2.1 hd (k r x' hM H locs ls hl hP hS)
theorem s_imul (X : Cx p s m args meth c own cc nL rt D cy ad sh A) {a b : Int32} (hd : decode cc pc = .ok (.imul, 1))
    (k : Sim p l e Rm s m args below meth c nL rt D cy ad sh A (pc + 1) lv (.int (a * b) :: st) x M) : Sim p l e Rm s m args below meth c nL rt D cy ad sh A pc lv (.int b :: .int a :: st) x M :=
  fun r x' hM H locs ls hl hP hS => lv_imul X.1.1 X.1.2.1 hd (k r x' hM H locs ls hl hP hS)
theorem s_iand (X : Cx p s m args meth c own cc nL rt D cy ad sh A) {a b : Int32} (hd : decode cc pc = .ok (.iand, 1))
    (k : Sim p l e Rm s m args below meth c nL rt D cy ad sh A (pc + 1) lv (.int (a &&& b) :: st) x M) : Sim p l e Rm s m args below meth c nL rt D cy ad sh A pc lv (.int b :: .int a :: st) x M :=
  fun r x' hM H locs ls hl hP hS => lv_iand X.1.1 X.1.2.1 hd (k r x' hM H locs ls hl hP hS)
theorem s_ior (X : Cx p s m args meth c own cc nL rt D cy ad sh A) {a b : Int32} (hd : decode cc pc = .ok (.ior, 1))
    (k : Sim p l e Rm s m args below meth c nL rt D cy ad sh A (pc + 1) lv (.int (a ||| b) :: st) x M) : Sim p l e Rm s m args below meth c nL rt D cy ad sh A pc lv (.int b :: .int a :: st) x M :=
  fun r x' hM H locs ls hl hP hS => lv_ior X.1.1 X.1.2.1 hd (k r x' hM H locs ls hl hP hS)
theorem s_ixor (X : Cx p s m args meth c own cc nL rt D cy ad sh A) {a b : Int32} (hd : decode cc pc = .ok (.ixor, 1))
    (k : Sim p l e Rm s m args below meth c nL rt D cy ad sh A (pc + 1) lv (.int (a ^^^ b) :: st) x M) : Sim p l e Rm s m args below meth c nL rt D cy ad sh A pc lv (.int b :: .int a :: st) x M :=
  fun r x' hM H locs ls hl hP hS => lv_ixor X.1.1 X.1.2.1 hd (k r x' hM H locs ls hl hP hS)
theorem s_ishl (X : Cx p s m args meth c own cc nL rt D cy ad sh A) {a b : Int32} (hd : decode cc pc = .ok (.ishl, 1))
    (k : Sim p l e Rm s m args below meth c nL rt D cy ad sh A (pc + 1) lv (.int (a <<< (b &&& 31)) :: st) x M) : Sim p l e Rm s m args below meth c nL rt D cy ad sh A pc lv (.int b :: .int a :: st) x M :=
  fun r x' hM H locs ls hl hP hS => lv_ishl X.1.1 X.1.2.1 hd (k r x' hM H locs ls hl hP hS)
theorem s_ishr (X : Cx p s m args meth c own cc nL rt D cy ad sh A) {a b : Int32} (hd : decode cc pc = .ok (.ishr, 1))
    (k : Sim p l e Rm s m args below meth c nL rt D cy ad sh A (pc + 1) lv (.int (a >>> (b &&& 31)) :: st) x M) : Sim p l e Rm s m args below meth c nL rt D cy ad sh A pc lv (.int b :: .int a :: st) x M :=
  fun r x' hM H locs ls hl hP hS => lv_ishr X.1.1 X.1.2.1 hd (k r x' hM H locs ls hl hP hS)
theorem s_iushr (X : Cx p s m args meth c own cc nL rt D cy ad sh A) {a b : Int32} (hd : decode cc pc = .ok (.iushr, 1))
    (k : Sim p l e Rm s m args below meth c nL rt D cy ad sh A (pc + 1) lv (.int ((a.toUInt32 >>> (b.toUInt32 &&& Int32.toUInt32 31)).toInt32) :: st) x M) : Sim p l e Rm s m args below meth c nL rt D cy ad sh A pc lv (.int b :: .int a :: st) x M :=
  fun r x' hM H locs ls hl hP hS => lv_iushr X.1.1 X.1.2.1 hd rfl (k r x' hM H locs ls hl hP hS)
theorem s_ineg (X : Cx p s m args meth c own cc nL rt D cy ad sh A) {a : Int32} (hd : decode cc pc = .ok (.ineg, 1))
    (k : Sim p l e Rm s m args below meth c nL rt D cy ad sh A (pc + 1) lv (.int (-a) :: st) x M) : Sim p l e Rm s m args below meth c nL rt D cy ad sh A pc lv (.int a :: st) x M :=
  fun r x' hM H locs ls hl hP hS => lv_ineg X.1.1 X.1.2.1 hd (k r x' hM H locs ls hl hP hS)
theorem s_idiv (X : Cx p s m args meth c own cc nL rt D cy ad sh A) {a b : Int32} (hd : decode cc pc = .ok (.idiv, 1))
    (k : Sim p l e Rm s m args below meth c nL rt D cy ad sh A (pc + 1) lv (.int (a / b) :: st) x M) : Sim p l e Rm s m args below meth c nL rt D cy ad sh A pc lv (.int b :: .int a :: st) x (nz b M) :=
  fun r x' hM H locs ls hl hP hS => by
    unfold nz at hM
    by_cases hb : b = 0
    · rw [if_pos hb] at hM; cases hM
    · rw [if_neg hb] at hM; exact lv_idiv X.1.1 X.1.2.1 hd hb (k r x' hM H locs ls hl hP hS)
theorem s_irem (X : Cx p s m args meth c own cc nL rt D cy ad sh A) {a b : Int32} (hd : decode cc pc = .ok (.irem, 1))
    (k : Sim p l e Rm s m args below meth c nL rt D cy ad sh A (pc + 1) lv (.int (a - a / b * b) :: st) x M) : Sim p l e Rm s m args below meth c nL rt D cy ad sh A pc lv (.int b :: .int a :: st) x (nz b M) :=
  fun r x' hM H locs ls hl hP hS => by
    unfold nz at hM
    by_cases hb : b = 0
    · rw [if_pos hb] at hM; cases hM
    · rw [if_neg hb] at hM; exact lv_irem X.1.1 X.1.2.1 hd hb (k r x' hM H locs ls hl hP hS)
theorem s_dup (X : Cx p s m args meth c own cc nL rt D cy ad sh A) {a : Value} (ha : a.category = 1) (hd : decode cc pc = .ok (.dup, 1))
    (k : Sim p l e Rm s m args below meth c nL rt D cy ad sh A (pc + 1) lv (a :: a :: st) x M) : Sim p l e Rm s m args below meth c nL rt D cy ad sh A pc lv (a :: st) x M :=
  fun r x' hM H locs ls hl hP hS => lv_dup X.1.1 X.1.2.1 hd ha (k r x' hM H locs ls hl hP hS)
theorem s_dup2 (X : Cx p s m args meth c own cc nL rt D cy ad sh A) {a b : Value} (ha : a.category = 1) (hb : b.category = 1) (hd : decode cc pc = .ok (.dup2, 1))
    (k : Sim p l e Rm s m args below meth c nL rt D cy ad sh A (pc + 1) lv (a :: b :: a :: b :: st) x M) : Sim p l e Rm s m args below meth c nL rt D cy ad sh A pc lv (a :: b :: st) x M :=
  fun r x' hM H locs ls hl hP hS => lv_dup2_11 X.1.1 X.1.2.1 hd ha hb (k r x' hM H locs ls hl hP hS)
theorem s_goto (X : Cx p s m args meth c own cc nL rt D cy ad sh A) {off : Int} (tgt : Nat) (ht : (pc : Int) + off = (tgt : Int)) (hd : decode cc pc = .ok (.goto off, 3))
    (k : Sim p l e Rm s m args below meth c nL rt D cy ad sh A tgt lv st x M) : Sim p l e Rm s m args below meth c nL rt D cy ad sh A pc lv st x M :=
  fun r x' hM H locs ls hl hP hS => lv_goto X.1.1 X.1.2.1 hd ht (k r x' hM H locs ls hl hP hS)
theorem s_if_eq (X : Cx p s m args meth c own cc nL rt D cy ad sh A) {a : Int32} {i : Decidable (a = 0)} {off : Int} (tgt : Nat) (ht : (pc : Int) + off = (tgt : Int)) (hd : decode cc pc = .ok (.ifCond .eq off, 3))
    (k1 : Sim p l e Rm s m args below meth c nL rt D cy ad sh A tgt lv st x M1) (k2 : Sim p l e Rm s m args below meth c nL rt D cy ad sh A (pc + 3) lv st x M2) : Sim p l e Rm s m args below meth c nL rt D cy ad sh A pc lv (.int a :: st) x (@ite _ (a = 0) i M1 M2) :=
  fun r x' hM H locs ls hl hP hS => lv_if_eq X.1.1 X.1.2.1 hd ht (fun h => k1 r x' (by rw [if_pos h] at hM; exact hM) H locs ls hl hP hS) (fun h => k2 r x' (by rw [if_neg h] at hM; exact hM) H locs ls hl hP hS)
theorem s_if_ne (X : Cx p s m args meth c own cc nL rt D cy ad sh A) {a : Int32} {i : Decidable (a = 0)} {off : Int} (tgt : Nat) (ht : (pc : Int) + off = (tgt : Int)) (hd : decode cc pc = .ok (.ifCond .ne off, 3))
    (k1 : Sim p l e Rm s m args below meth c nL rt D cy ad sh A tgt lv st x M1) (k2 : Sim p l e Rm s m args below meth c nL rt D cy ad sh A (pc + 3) lv st x M2) : Sim p l e Rm s m args below meth c nL rt D cy ad sh A pc lv (.int a :: st) x (@ite _ (a = 0) i M2 M1) :=
  fun r x' hM H locs ls hl hP hS => lv_if_ne X.1.1 X.1.2.1 hd ht (fun h => k1 r x' (by rw [if_neg h] at hM; exact hM) H locs ls hl hP hS) (fun h => k2 r x' (by rw [if_pos h] at hM; exact hM) H locs ls hl hP hS)
theorem s_if_lt (X : Cx p s m args meth c own cc nL rt D cy ad sh A) {a : Int32} {i : Decidable (a < 0)} {off : Int} (tgt : Nat) (ht : (pc : Int) + off = (tgt : Int)) (hd : decode cc pc = .ok (.ifCond .lt off, 3))
    (k1 : Sim p l e Rm s m args below meth c nL rt D cy ad sh A tgt lv st x M1) (k2 : Sim p l e Rm s m args below meth c nL rt D cy ad sh A (pc + 3) lv st x M2) : Sim p l e Rm s m args below meth c nL rt D cy ad sh A pc lv (.int a :: st) x (@ite _ (a < 0) i M1 M2) :=
  fun r x' hM H locs ls hl hP hS => lv_if_lt X.1.1 X.1.2.1 hd ht (fun h => k1 r x' (by rw [if_pos h] at hM; exact hM) H locs ls hl hP hS) (fun h => k2 r x' (by rw [if_neg h] at hM; exact hM) H locs ls hl hP hS)
theorem s_if_ge (X : Cx p s m args meth c own cc nL rt D cy ad sh A) {a : Int32} {i : Decidable (0 ≤ a)} {off : Int} (tgt : Nat) (ht : (pc : Int) + off = (tgt : Int)) (hd : decode cc pc = .ok (.ifCond .ge off, 3))
    (k1 : Sim p l e Rm s m args below meth c nL rt D cy ad sh A tgt lv st x M1) (k2 : Sim p l e Rm s m args below meth c nL rt D cy ad sh A (pc + 3) lv st x M2) : Sim p l e Rm s m args below meth c nL rt D cy ad sh A pc lv (.int a :: st) x (@ite _ (0 ≤ a) i M1 M2) :=
  fun r x' hM H locs ls hl hP hS => lv_if_ge X.1.1 X.1.2.1 hd ht (fun h => k1 r x' (by rw [if_pos h] at hM; exact hM) H locs ls hl hP hS) (fun h => k2 r x' (by rw [if_neg h] at hM; exact hM) H locs ls hl hP hS)
theorem s_if_gt (X : Cx p s m args meth c own cc nL rt D cy ad sh A) {a : Int32} {i : Decidable (0 < a)} {off : Int} (tgt : Nat) (ht : (pc : Int) + off = (tgt : Int)) (hd : decode cc pc = .ok (.ifCond .gt off, 3))
    (k1 : Sim p l e Rm s m args below meth c nL rt D cy ad sh A tgt lv st x M1) (k2 : Sim p l e Rm s m args below meth c nL rt D cy ad sh A (pc + 3) lv st x M2) : Sim p l e Rm s m args below meth c nL rt D cy ad sh A pc lv (.int a :: st) x (@ite _ (0 < a) i M1 M2) :=
  fun r x' hM H locs ls hl hP hS => lv_if_gt X.1.1 X.1.2.1 hd ht (fun h => k1 r x' (by rw [if_pos h] at hM; exact hM) H locs ls hl hP hS) (fun h => k2 r x' (by rw [if_neg h] at hM; exact hM) H locs ls hl hP hS)
theorem s_if_le (X : Cx p s m args meth c own cc nL rt D cy ad sh A) {a : Int32} {i : Decidable (a ≤ 0)} {off : Int} (tgt : Nat) (ht : (pc : Int) + off = (tgt : Int)) (hd : decode cc pc = .ok (.ifCond .le off, 3))
    (k1 : Sim p l e Rm s m args below meth c nL rt D cy ad sh A tgt lv st x M1) (k2 : Sim p l e Rm s m args below meth c nL rt D cy ad sh A (pc + 3) lv st x M2) : Sim p l e Rm s m args below meth c nL rt D cy ad sh A pc lv (.int a :: st) x (@ite _ (a ≤ 0) i M1 M2) :=
  fun r x' hM H locs ls hl hP hS => lv_if_le X.1.1 X.1.2.1 hd ht (fun h => k1 r x' (by rw [if_pos h] at hM; exact hM) H locs ls hl hP hS) (fun h => k2 r x' (by rw [if_neg h] at hM; exact hM) H locs ls hl hP hS)
theorem s_icmp_eq (X : Cx p s m args meth c own cc nL rt D cy ad sh A) {a b : Int32} {i : Decidable (a = b)} {off : Int} (tgt : Nat) (ht : (pc : Int) + off = (tgt : Int)) (hd : decode cc pc = .ok (.if_icmp .eq off, 3))
    (k1 : Sim p l e Rm s m args below meth c nL rt D cy ad sh A tgt lv st x M1) (k2 : Sim p l e Rm s m args below meth c nL rt D cy ad sh A (pc + 3) lv st x M2) : Sim p l e Rm s m args below meth c nL rt D cy ad sh A pc lv (.int b :: .int a :: st) x (@ite _ (a = b) i M1 M2) :=
  fun r x' hM H locs ls hl hP hS => lv_icmp_eq X.1.1 X.1.2.1 hd ht (fun h => k1 r x' (by rw [if_pos h] at hM; exact hM) H locs ls hl hP hS) (fun h => k2 r x' (by rw [if_neg h] at hM; exact hM) H locs ls hl hP hS)
theorem s_icmp_ne (X : Cx p s m args meth c own cc nL rt D cy ad sh A) {a b : Int32} {i : Decidable (a = b)} {off : Int} (tgt : Nat) (ht : (pc : Int) + off = (tgt : Int)) (hd : decode cc pc = .ok (.if_icmp .ne off, 3))
    (k1 : Sim p l e Rm s m args below meth c nL rt D cy ad sh A tgt lv st x M1) (k2 : Sim p l e Rm s m args below meth c nL rt D cy ad sh A (pc + 3) lv st x M2) : Sim p l e Rm s m args below meth c nL rt D cy ad sh A pc lv (.int b :: .int a :: st) x (@ite _ (a = b) i M2 M1) :=
  fun r x' hM H locs ls hl hP hS => lv_icmp_ne X.1.1 X.1.2.1 hd ht (fun h => k1 r x' (by rw [if_neg h] at hM; exact hM) H locs ls hl hP hS) (fun h => k2 r x' (by rw [if_pos h] at hM; exact hM) H locs ls hl hP hS)
theorem s_icmp_lt (X : Cx p s m args meth c own cc nL rt D cy ad sh A) {a b : Int32} {i : Decidable (a < b)} {off : Int} (tgt : Nat) (ht : (pc : Int) + off = (tgt : Int)) (hd : decode cc pc = .ok (.if_icmp .lt off, 3))
    (k1 : Sim p l e Rm s m args below meth c nL rt D cy ad sh A tgt lv st x M1) (k2 : Sim p l e Rm s m args below meth c nL rt D cy ad sh A (pc + 3) lv st x M2) : Sim p l e Rm s m args below meth c nL rt D cy ad sh A pc lv (.int b :: .int a :: st) x (@ite _ (a < b) i M1 M2) :=
  fun r x' hM H locs ls hl hP hS => lv_icmp_lt X.1.1 X.1.2.1 hd ht (fun h => k1 r x' (by rw [if_pos h] at hM; exact hM) H locs ls hl hP hS) (fun h => k2 r x' (by rw [if_neg h] at hM; exact hM) H locs ls hl hP hS)
theorem s_icmp_ge (X : Cx p s m args meth c own cc nL rt D cy ad sh A) {a b : Int32} {i : Decidable (b ≤ a)} {off : Int} (tgt : Nat) (ht : (pc : Int) + off = (tgt : Int)) (hd : decode cc pc = .ok (.if_icmp .ge off, 3))
    (k1 : Sim p l e Rm s m args below meth c nL rt D cy ad sh A tgt lv st x M1) (k2 : Sim p l e Rm s m args below meth c nL rt D cy ad sh A (pc + 3) lv st x M2) : Sim p l e Rm s m args below meth c nL rt D cy ad sh A pc lv (.int b :: .int a :: st) x (@ite _ (b ≤ a) i M1 M2) :=
  fun r x' hM H locs ls hl hP hS => lv_icmp_ge X.1.1 X.1.2.1 hd ht (fun h => k1 r x' (by rw [if_pos h] at hM; exact hM) H locs ls hl hP hS) (fun h => k2 r x' (by rw [if_neg h] at hM; exact hM) H locs ls hl hP hS)
theorem s_icmp_gt (X : Cx p s m args meth c own cc nL rt D cy ad sh A) {a b : Int32} {i : Decidable (b < a)} {off : Int} (tgt : Nat) (ht : (pc : Int) + off = (tgt : Int)) (hd : decode cc pc = .ok (.if_icmp .gt off, 3))
    (k1 : Sim p l e Rm s m args below meth c nL rt D cy ad sh A tgt lv st x M1) (k2 : Sim p l e Rm s m args below meth c nL rt D cy ad sh A (pc + 3) lv st x M2) : Sim p l e Rm s m args below meth c nL rt D cy ad sh A pc lv (.int b :: .int a :: st) x (@ite _ (b < a) i M1 M2) :=
  fun r x' hM H locs ls hl hP hS => lv_icmp_gt X.1.1 X.1.2.1 hd ht (fun h => k1 r x' (by rw [if_pos h] at hM; exact hM) H locs ls hl hP hS) (fun h => k2 r x' (by rw [if_neg h] at hM; exact hM) H locs ls hl hP hS)
theorem s_icmp_le (X : Cx p s m args meth c own cc nL rt D cy ad sh A) {a b : Int32} {i : Decidable (a ≤ b)} {off : Int} (tgt : Nat) (ht : (pc : Int) + off = (tgt : Int)) (hd : decode cc pc = .ok (.if_icmp .le off, 3))
    (k1 : Sim p l e Rm s m args below meth c nL rt D cy ad sh A tgt lv st x M1) (k2 : Sim p l e Rm s m args below meth c nL rt D cy ad sh A (pc + 3) lv st x M2) : Sim p l e Rm s m args below meth c nL rt D cy ad sh A pc lv (.int b :: .int a :: st) x (@ite _ (a ≤ b) i M1 M2) :=
  fun r x' hM H locs ls hl hP hS => lv_icmp_le X.1.1 X.1.2.1 hd ht (fun h => k1 r x' (by rw [if_pos h] at hM; exact hM) H locs ls hl hP hS) (fun h => k2 r x' (by rw [if_neg h] at hM; exact hM) H locs ls hl hP hS)
theorem s_iald (X : Cx p s m args meth c own cc nL rt D cy ad sh A) {k n : Nat} {i : Int32} (hs : sh[k]? = some (.inl n)) (hd : decode cc pc = .ok (.iaload, 1))
    (kk : Sim p l e Rm s m args below meth c nL rt D cy ad sh A (pc + 1) lv (.int (x k i.toNatClampNeg) :: st) x M) : Sim p l e Rm s m args below meth c nL rt D cy ad sh A pc lv (.int i :: .ref (ad k) :: st) x (chk i n M) :=
  fun r x' hM H locs ls hl hP hS => by
    unfold chk at hM
    by_cases hb : i < 0 ∨ n ≤ i.toNatClampNeg
    · rw [if_pos hb] at hM; cases hM
    · rw [if_neg hb] at hM
      have hg := pic_get cy ad x sh 0 k _ hs
      rw [Nat.zero_add] at hg
      exact va_iald X.1.1 X.1.2.1 X.2.2.2.1.1 hP k 0 hg rfl hb hd (kk r x' hM H locs ls hl hP hS)
theorem s_iast (X : Cx p s m args meth c own cc nL rt D cy ad sh A) {k n : Nat} {i v : Int32} (hs : sh[k]? = some (.inl n)) (hd : decode cc pc = .ok (.iastore, 1))
    (kk : Sim p l e Rm s m args below meth c nL rt D cy ad sh A (pc + 1) lv st (wr x k i.toNatClampNeg v) M) : Sim p l e Rm s m args below meth c nL rt D cy ad sh A pc lv (.int v :: .int i :: .ref (ad k) :: st) x (chk i n M) :=
  fun r x' hM H locs ls hl hP hS => by
    unfold chk at hM
    by_cases hb : i < 0 ∨ n ≤ i.toNatClampNeg
    · rw [if_pos hb] at hM; cases hM
    · rw [if_neg hb] at hM
      have hg := pic_get cy ad x sh 0 k _ hs
      rw [Nat.zero_add] at hg
      refine va_iast X.1.1 X.1.2.1 X.2.2.2.1.1 hP (X.2.2.2.2.1 x) hS k 0 hg rfl hb hd (fun H1 locs1 hP1 _ hS1 => kk r x' hM H1 locs1 ls hl ?_ hS1)
      have e := pic_set cy ad x (wr x k i.toNatClampNeg v) sh 0 k _ (.inl (cy, n, .inl (upd (x k) i.toNatClampNeg v))) hs (by rw [Nat.zero_add, wr_self]; rfl) (by rw [Nat.zero_add]; exact wr_other)
      rw [Nat.zero_add] at e
      rw [← e]
      exact hP1
theorem s_getI (X : Cx p s m args meth c own cc nL rt D cy ad sh A) {k j ci idx : Nat} {fs : List (Option Nat)} (hs : sh[k]? = some (.inr (ci, fs))) (hj : fs[j]? = some none) (L : FL own idx ci j) (hd : decode cc pc = .ok (.getfield idx, 3))
    (kk : Sim p l e Rm s m args below meth c nL rt D cy ad sh A (pc + 3) lv (.int (x k j) :: st) x M) : Sim p l e Rm s m args below meth c nL rt D cy ad sh A pc lv (.ref (ad k) :: st) x M :=
  fun r x' hM H locs ls hl hP hS => by
    obtain ⟨C, T, N, h1, h2, h3, h4⟩ := L
    have hg := pic_get cy ad x sh 0 k _ hs
    rw [Nat.zero_add] at hg
    have hf := fvs_get ad (x k) fs 0 j hj
    rw [Nat.zero_add] at hf
    exact va_get X.1.1 X.1.2.1 X.1.2.2.2.2 h4 X.1.2.2.2.1 X.2.2.2.1.1 hP k hg h1 j h2 (X.1.2.2.2.2 _ h3) (fun _ h => h) hf hd (kk r x' hM H locs ls hl hP hS)
theorem s_getR (X : Cx p s m args meth c own cc nL rt D cy ad sh A) {k j t ci idx : Nat} {fs : List (Option Nat)} (hs : sh[k]? = some (.inr (ci, fs))) (hj : fs[j]? = some (some t)) (L : FL own idx ci j) (hd : decode cc pc = .ok (.getfield idx, 3))
    (kk : Sim p l e Rm s m args below meth c nL rt D cy ad sh A (pc + 3) lv (.ref (ad t) :: st) x M) : Sim p l e Rm s m args below meth c nL rt D cy ad sh A pc lv (.ref (ad k) :: st) x M :=
  fun r x' hM H locs ls hl hP hS => by
    obtain ⟨C, T, N, h1, h2, h3, h4⟩ := L
    have hg := pic_get cy ad x sh 0 k _ hs
    rw [Nat.zero_add] at hg
    have hf := fvs_ref ad (x k) fs 0 j t hj
    exact va_get X.1.1 X.1.2.1 X.1.2.2.2.2 h4 X.1.2.2.2.1 X.2.2.2.1.1 hP k hg h1 j h2 (X.1.2.2.2.2 _ h3) (fun _ h => h) hf hd (kk r x' hM H locs ls hl hP hS)
theorem fvs_len (ad : Nat → Nat) (f : Nat → Int32) : ∀ (fs : List (Option Nat)) (k : Nat), (fvs ad f k fs).length = fs.length := by
  intro fs
  induction fs with
  | nil => intro k; rfl
  | cons a r ih => intro k; cases a <;> simp [fvs, ih]
theorem s_put (X : Cx p s m args meth c own cc nL rt D cy ad sh A) {k j ci idx : Nat} {v : Int32} {fs : List (Option Nat)} (hs : sh[k]? = some (.inr (ci, fs))) (hj : fs[j]? = some none) (L : FP own idx ci j) (hd : decode cc pc = .ok (.putfield idx, 3))
    (kk : Sim p l e Rm s m args below meth c nL rt D cy ad sh A (pc + 3) lv st (wr x k j v) M) : Sim p l e Rm s m args below meth c nL rt D cy ad sh A pc lv (.int v :: .ref (ad k) :: st) x M :=
  fun r x' hM H locs ls hl hP hS => by
    obtain ⟨C, T, N, ty0, h1, h2, h3, h4, h5, h6, h7, h8⟩ := L
    have hg := pic_get cy ad x sh 0 k _ hs
    rw [Nat.zero_add] at hg
    have hlen : j < (fvs ad (x k) 0 fs).length := by rw [fvs_len]; exact (List.getElem?_eq_some_iff.mp hj).1
    refine va_put (v := .int v) X.1.1 X.1.2.1 X.1.2.2.2.2 h4 ty0 h5 h6 X.1.2.2.2.1 X.2.2.2.1.1 hP (X.2.2.2.2.1 x) hS k hg h1 j h2 (X.1.2.2.2.2 _ h3) (fun _ h => h) h7 h8 rfl rfl hlen hd (fun H1 locs1 hP1 _ hS1 => kk r x' hM H1 locs1 ls hl ?_ hS1)
    have hf := fvs_set ad (x k) v fs 0 j hj
    rw [Nat.zero_add] at hf
    have e := pic_set cy ad x (wr x k j v) sh 0 k _ (.inr (ci, fvs ad (upd (x k) j v) 0 fs)) hs (by rw [Nat.zero_add, wr_self]; rfl) (by rw [Nat.zero_add]; exact wr_other)
    rw [Nat.zero_add] at e
    rw [← e, ← hf]
    exact hP1
theorem s_iret (X : Cx p s m args meth c own cc nL (some .int) D cy ad sh A) {v : Int32} (hd : decode cc pc = .ok (.ireturn, 1)) : Sim p l e Rm s m args below meth c nL (some .int) D cy ad sh A pc lv [.int v] x (some (v, x)) :=
  fun r x' hM H locs ls hl hP hS => by
    cases hM
    exact W.iret X.1.1 X.1.2.1 X.2.1 (fun t ht hW => ⟨rfl, by rw [ht]; exact hP, hS.F ht⟩) hS.2.2 hd X.2.2.1
theorem s_zret (X : Cx p s m args meth c own cc nL (some .boolean) D cy ad sh A) {v : Int32} (hd : decode cc pc = .ok (.ireturn, 1)) : Sim p l e Rm s m args below meth c nL (some .boolean) D cy ad sh A pc lv [.int v] x (retz v x) :=
  fun r x' hM H locs ls hl hP hS => by
    unfold retz at hM
    by_cases hv : v = 0 ∨ v = 1
    · rw [if_pos hv] at hM
      cases hM
      exact W.zret X.1.1 X.1.2.1 X.2.1 (by rcases hv with rfl | rfl <;> rfl) (fun t ht hW => ⟨rfl, by rw [ht]; exact hP, hS.F ht⟩) hS.2.2 hd X.2.2.1
    · rw [if_neg hv] at hM; cases hM
theorem s_vret (X : Cx p s m args meth c own cc nL none D cy ad sh A) (hd : decode cc pc = .ok (.return_, 1)) : Sim p l e Rm s m args below meth c nL none D cy ad sh A pc lv [] x (some (0, x)) :=
  fun r x' hM H locs ls hl hP hS => by
    cases hM
    exact W.vret X.1.1 X.1.2.1 X.2.1 (fun t ht hW => ⟨rfl, by rw [ht]; exact hP, hS.F ht⟩) hS.2.2 hd X.2.2.1
theorem s_tabI (X : Cx p s m args meth c own cc nL rt D cy ad sh A) {dflt lo hi : Int} {offs : Array Int} {len : Nat} {v : Int32} {off : Int} (tgt : Nat) (h1 : ¬ v.toInt < lo) (h2 : ¬ hi < v.toInt) (ho : offs[(v.toInt - lo).toNat]? = some off) (ht : (pc : Int) + off = (tgt : Int)) (hd : decode cc pc = .ok (.tableswitch dflt lo hi offs, len))
    (k : Sim p l e Rm s m args below meth c nL rt D cy ad sh A tgt lv st x M) : Sim p l e Rm s m args below meth c nL rt D cy ad sh A pc lv (.int v :: st) x M :=
  fun r x' hM H locs ls hl hP hS => lv_tableIn X.1.1 X.1.2.1 hd h1 h2 ho ht (k r x' hM H locs ls hl hP hS)
theorem s_tabO (X : Cx p s m args meth c own cc nL rt D cy ad sh A) {dflt lo hi : Int} {offs : Array Int} {len : Nat} {v : Int32} (tgt : Nat) (h : v.toInt < lo ∨ hi < v.toInt) (ht : (pc : Int) + dflt = (tgt : Int)) (hd : decode cc pc = .ok (.tableswitch dflt lo hi offs, len))
    (k : Sim p l e Rm s m args below meth c nL rt D cy ad sh A tgt lv st x M) : Sim p l e Rm s m args below meth c nL rt D cy ad sh A pc lv (.int v :: st) x M :=
  fun r x' hM H locs ls hl hP hS => lv_tableOut X.1.1 X.1.2.1 hd h ht (k r x' hM H locs ls hl hP hS)
theorem s_ite {P : Prop} {i : Decidable P} (k1 : P → Sim p l e Rm s m args below meth c nL rt D cy ad sh A pc lv st x M1) (k2 : ¬ P → Sim p l e Rm s m args below meth c nL rt D cy ad sh A pc lv st x M2) : Sim p l e Rm s m args below meth c nL rt D cy ad sh A pc lv st x (@ite _ P i M1 M2) :=
  fun r x' hM => by
    by_cases h : P
    · rw [if_pos h] at hM; exact k1 h r x' hM
    · rw [if_neg h] at hM; exact k2 h r x' hM
end SIM
end
section
/-! ===== calls, and a contract out of a walk ===== -/
/-- the contract: called with the values vs over the memory x, the method does what M says -/
def Ct (l : Launch) (D : va_G) (cy : ClassId) (ad : Nat → Nat) (sh : List Sh) (y : MethodName) (bc : ByteArray) (mL : Nat) (rt : Option FieldType) (fr lo : Nat) (vs : List Value) (x : Mem) (M : Res) : Prop :=
  ∀ (r : Int32) (x' : Mem), M = some (r, x') → ∀ sz : Nat, Met l y (Cond.code y bc mL rt :: tg) ({ frames := fr, cells := 0, slots := 0, locals := lo }) (va_Pc vs (fun U => U.heap.size = sz ∧ va_P D vwCl (pic cy ad x 0 sh) U.heap ∧ KK D cy U ∧ va_D (fun _ => True) (pic cy ad x 0 sh))) (QR D cy ad sh (va_A (pic cy ad x 0 sh) sz) rt r x') 0 0 (va_A (pic cy ad x 0 sh) sz)
theorem pre_blind {D : va_G} {cy : ClassId} {ad : Nat → Nat} {sh : List Sh} {x : Mem} {sz : Nat} {vs : List Value} : FrameBlind (va_Pc vs (fun U => U.heap.size = sz ∧ va_P D vwCl (pic cy ad x 0 sh) U.heap ∧ KK D cy U ∧ va_D (fun _ => True) (pic cy ad x 0 sh))) := by
  intro a U g mk q
  obtain ⟨q0, q1, qP, qK, qD⟩ := q
  exact ⟨q0, q1, qP, qK.call, qD⟩
theorem ct_of {l : Launch} {D : va_G} {cy : ClassId} {ad : Nat → Nat} {sh : List Sh} {y : MethodName} {bc : ByteArray} {mL : Nat} {rt : Option FieldType} {fr lo : Nat} {vs : List Value} {x : Mem} {M : Res} (lv : List (Option Value)) (hy : plainName y.cls = true) (hlen : (lg_sl vs).length ≤ mL) (hlv : lv_args 0 vs = toA 0 lv) (hcat : (toA 0 lv).all (fun q => q.2.category == 1) = true)
    (body : ∀ (p : Program) (e : Env) (s : State) (m : MethodId) (args : Array Value) (below : List Frame) (meth : Method) (c : Code) (A : Nat → Prop), Cx p s m args meth c y.cls bc mL rt D cy ad sh A →
      Sim p l e ({ frames := fr, cells := 0, slots := 0, locals := lo }) s m args below meth c mL rt D cy ad sh A 0 lv [] x M) : Ct l D cy ad sh y bc mL rt fr lo vs x M := by
  intro r x' hM sz
  refine Met.ofW (cc := bc) (maxL := mL) (ret := rt) hy rfl ?_
  intro p e s m args below meth c s₁ B hml hv
  obtain ⟨rfl, hsz, hP, hK, hD0⟩ := hv
  have hts := atoms_spec (ws := Cond.code y bc mL rt :: tg) B.pre
  have hown : s.vm.findClass y.cls = some m.cls := findClass_of_methodNamed B.named
  subst hsz
  have hD := hD0.self (sz := s.heap.size)
  have X : Cx p s m vs.toArray meth c y.cls bc mL rt D cy ad sh (va_A (pic cy ad x 0 sh) s.heap.size) := ⟨⟨B.exec, B.bytes, hml, hown, fun w hw => hts w (List.mem_cons_of_mem _ hw)⟩, B.returns, B.notSynchronized, hK, fun z => pic_D x z hD, fun q h => Or.inr h⟩
  have hl := lv_entry vs (n := mL) hlen
  rw [lg_entry_eq]
  rw [hlv] at hl
  have hL : LVh ((lg_sl vs ++ List.replicate (mL - (lg_sl vs).length) Slot.unset).toArray) mL lv := by
    refine ⟨hl, fun k v hk => ?_⟩
    have h1 := List.all_eq_true.mp hcat (k, v) ((toA_mem lv 0 (k, v)).mpr ⟨k, hk, (Nat.zero_add k).symm⟩)
    simpa using h1
  exact body p e s m vs.toArray below meth c _ X r x' hM s.heap [] _ hL hP va_S.rf
section CALLS
variable {p : Program} {l : Launch} {e : Env} {Rm : Room} {s : State} {m : MethodId} {args : Array Value} {below : List Frame} {meth : Method} {c : Code} {own : String} {cc : ByteArray} {nL : Nat} {rt : Option FieldType} {D : va_G} {cy : ClassId} {ad : Nat → Nat} {sh : List Sh} {A : Nat → Prop}
variable {pc : Nat} {lv : List (Option Value)} {st stk : List Value} {x : Mem} {M : Res} {K : Int32 → Mem → Res}
theorem A_sub (X : Cx p s m args meth c own cc nL rt D cy ad sh A) {H : Heap} {locs : List Loc} (hS : va_S A s.heap H locs) (x : Mem) : ∀ q, va_A (pic cy ad x 0 sh) H.size q → A q := by
  intro q hq
  rcases hq with ⟨k, e, hk⟩ | hq
  · exact (X.2.2.2.2.1 x).2 k _ hk
  · exact X.2.2.2.2.2 q (Nat.le_trans hS.1 hq)
theorem run_int {ty : FieldType} {st0 : List Value} {H : Heap} {locs : List Loc} {ls : Array Slot} {a : Array Value} {Q : State → Prop} {A1 : Nat → Prop} {r1 : Int32} {x1 : Mem} (hr : va_Run p l e Rm s m args below meth c H locs 0 0 0 0 (F0 m pc ls st0) st (QR D cy ad sh A1 (some ty) r1 x1 a) A1) (hS : va_S A s.heap H locs) (hA : ∀ q, A1 q → A q)
    (kk : ∀ (H1 : Heap) (locs1 : List Loc), va_P D vwCl (pic cy ad x1 0 sh) H1 → va_S A s.heap H1 locs1 → W p l e Rm s m args below meth c H1 locs1 0 0 Q (F0 m (pc + 3) ls (.int r1 :: st))) : W p l e Rm s m args below meth c H locs 0 0 Q (F0 m pc ls st0) := by
  intro T hT X
  obtain ⟨v, st₀, t, T', L, h0, X', hL, e1, e2, ⟨hv, hp, hz, hk⟩, stp⟩ := hr T hT X
  cases hv
  rw [h0] at hz hk
  obtain ⟨t2, a1, b1⟩ := kk T'.heap (locs ++ L) (by rw [e1]; exact hp)
    ⟨Nat.le_trans hS.1 (by rw [e1]; exact hz), fun q h1 h2 => by rw [e1, hk q (Nat.lt_of_lt_of_le h1 hS.1) (fun z => h2 (hA q z))]; exact hS.2.1 q h1 h2, fun q hq => by
      rcases List.mem_append.mp hq with h | h
      · exact hS.2.2 q h
      · exact hA _ (hL q h)⟩ T' rfl X'
  exact ⟨t2, stp t2 a1, b1⟩
theorem run_void {st0 : List Value} {H : Heap} {locs : List Loc} {ls : Array Slot} {a : Array Value} {Q : State → Prop} {A1 : Nat → Prop} {r1 : Int32} {x1 : Mem} (hr : va_Run p l e Rm s m args below meth c H locs 0 0 0 0 (F0 m pc ls st0) st (QR D cy ad sh A1 none r1 x1 a) A1) (hS : va_S A s.heap H locs) (hA : ∀ q, A1 q → A q)
    (kk : ∀ (H1 : Heap) (locs1 : List Loc), va_P D vwCl (pic cy ad x1 0 sh) H1 → va_S A s.heap H1 locs1 → W p l e Rm s m args below meth c H1 locs1 0 0 Q (F0 m (pc + 3) ls st)) : W p l e Rm s m args below meth c H locs 0 0 Q (F0 m pc ls st0) := by
  intro T hT X
  obtain ⟨v, st₀, t, T', L, h0, X', hL, e1, e2, ⟨hv, hp, hz, hk⟩, stp⟩ := hr T hT X
  cases hv
  rw [h0] at hz hk
  obtain ⟨t2, a1, b1⟩ := kk T'.heap (locs ++ L) (by rw [e1]; exact hp)
    ⟨Nat.le_trans hS.1 (by rw [e1]; exact hz), fun q h1 h2 => by rw [e1, hk q (Nat.lt_of_lt_of_le h1 hS.1) (fun z => h2 (hA q z))]; exact hS.2.1 q h1 h2, fun q hq => by
      rcases List.mem_append.mp hq with h | h
      · exact hS.2.2 q h
      · exact hA _ (hL q h)⟩ T' rfl X'
  exact ⟨t2, stp t2 a1, b1⟩
theorem cl_some {r : Int32} {x' : Mem} (h : cl M K = some (r, x')) : ∃ r1 x1, M = some (r1, x1) ∧ K r1 x1 = some (r, x') := by
  unfold cl at h
  cases M with
  | none => cases h
  | some q => exact ⟨q.1, q.2, rfl, h⟩
variable {y : MethodName} {bc : ByteArray} {mL n fr lo idx : Nat} {ty : FieldType} {As : List Value}
theorem lkV_cw {own2 : String} {rt2 : Option FieldType} (X : Cx p s m args meth c own2 cc nL rt D cy ad sh A) (L : LkV own2 idx y bc mL rt2 n) (hroom : fr + 1 ≤ Rm.frames ∧ 8 + (mL + 11) + lo ≤ Rm.locals) : CallW Rm s args own2 y.cls idx y bc mL rt2 (Cond.code y bc mL rt2 :: tg) ({ frames := fr, cells := 0, slots := 0, locals := lo }) 0 0 n :=
  ⟨callB_of n X.1.2.2.2.2 (good_tg L.2.2.2.2.1) rfl rfl rfl (X.1.2.2.2.2 _ L.2.2.2.1) (X.1.2.2.2.2 _ L.1) L.2.2.2.2.2 hroom, X.1.2.2.2.2 _ L.2.1, X.1.2.2.2.2 _ L.2.2.1⟩
theorem lkS_cw {own2 : String} {rt2 : Option FieldType} (X : Cx p s m args meth c own2 cc nL rt D cy ad sh A) (L : LkS own2 idx y bc mL rt2 n) (hroom : fr + 1 ≤ Rm.frames ∧ 8 + (mL + 11) + lo ≤ Rm.locals) : CallB Rm s args own2 idx y bc mL rt2 (Cond.code y bc mL rt2 :: tg) ({ frames := fr, cells := 0, slots := 0, locals := lo }) 0 0 n ∧ (Cond.static y).before args s = true :=
  ⟨callB_of n X.1.2.2.2.2 (good_tg L.2.2.2.1) rfl rfl rfl (X.1.2.2.2.2 _ L.2.2.1) (X.1.2.2.2.2 _ L.1) L.2.2.2.2 hroom, X.1.2.2.2.2 _ L.2.1⟩
theorem lkN_cw {own2 host : String} {rt2 : Option FieldType} (X : Cx p s m args meth c own2 cc nL rt D cy ad sh A) (L : LkN nestW own2 idx y host bc mL rt2 n) (hroom : fr + 1 ≤ Rm.frames ∧ 8 + (mL + 11) + lo ≤ Rm.locals) : va_CN Rm s args own2 idx y host bc mL rt2 (Cond.code y bc mL rt2 :: tg) ({ frames := fr, cells := 0, slots := 0, locals := lo }) 0 0 n ∧ (Cond.static y).before args s = true ∧ True :=
  ⟨va_cnB n X.1.2.2.2.2 (good_tg L.2.2.2.1) rfl rfl rfl (X.2.2.2.1.2 _ L.1) (X.1.2.2.2.2 _ L.2.2.1) L.2.2.2.2 hroom, X.1.2.2.2.2 _ L.2.1, trivial⟩
theorem s_callV (X : Cx p s m args meth c own cc nL rt D cy ad sh A) {k ci : Nat} {fs : List (Option Nat)} {q : vw_C} (L : LkV own idx y bc mL (some ty) n) (C : Ct l D cy ad sh y bc mL (some ty) fr lo (.ref (ad k) :: As) x M) (hs : sh[k]? = some (.inr (ci, fs))) (hc : vwCl[ci]? = some q) (hq : q.1 = y.cls) (hn : As.length = n) (hstk : stk = As.reverse ++ .ref (ad k) :: st)
    (hroom : fr + 1 ≤ Rm.frames ∧ 8 + (mL + 11) + lo ≤ Rm.locals) (hw : (st.map fun v => v.category).sum ≤ 8) (hd : decode cc pc = .ok (.invokevirtual idx, 3))
    (kk : ∀ r y, Sim p l e Rm s m args below meth c nL rt D cy ad sh A (pc + 3) lv (.int r :: st) y (K r y)) : Sim p l e Rm s m args below meth c nL rt D cy ad sh A pc lv stk x (cl M K) :=
  fun r x' hM H locs ls hl hP hS => by
    obtain ⟨r1, x1, hM1, hK1⟩ := cl_some hM
    have hg := pic_get cy ad x sh 0 k _ hs
    rw [Nat.zero_add] at hg
    have hrecv := va_recv X.2.2.2.1.1 hP hc hg
    rw [hq] at hrecv
    have hrun := va_runV (e := e) (below := below) (meth := meth) (locs := locs) (cells := 0) (slots := 0) (As := As) (rest := st) (g := F0 m pc ls stk) X.1 (C r1 x1 hM1 H.size) (lkV_cw X L hroom) ⟨pre_blind, hrecv, fun U hU hW => ⟨rfl, by rw [hU], by rw [hU]; exact hP, X.2.2.2.1.warm hW, (X.2.2.2.2.1 x).weaken (fun _ _ _ _ => trivial)⟩⟩ rfl hn hl.1.1 hstk (lv_room hw) hd ⟨Nat.zero_le _, Nat.zero_le _⟩
    exact run_int hrun hS (A_sub X hS x) (fun H1 locs1 hP1 hS1 => kk r1 x1 r x' hK1 H1 locs1 ls hl hP1 hS1)
theorem s_callV0 (X : Cx p s m args meth c own cc nL rt D cy ad sh A) {k ci : Nat} {fs : List (Option Nat)} {q : vw_C} (L : LkV own idx y bc mL none n) (C : Ct l D cy ad sh y bc mL none fr lo (.ref (ad k) :: As) x M) (hs : sh[k]? = some (.inr (ci, fs))) (hc : vwCl[ci]? = some q) (hq : q.1 = y.cls) (hn : As.length = n) (hstk : stk = As.reverse ++ .ref (ad k) :: st)
    (hroom : fr + 1 ≤ Rm.frames ∧ 8 + (mL + 11) + lo ≤ Rm.locals) (hw : (st.map fun v => v.category).sum ≤ 8) (hd : decode cc pc = .ok (.invokevirtual idx, 3))
    (kk : ∀ r y, Sim p l e Rm s m args below meth c nL rt D cy ad sh A (pc + 3) lv st y (K r y)) : Sim p l e Rm s m args below meth c nL rt D cy ad sh A pc lv stk x (cl M K) :=
  fun r x' hM H locs ls hl hP hS => by
    obtain ⟨r1, x1, hM1, hK1⟩ := cl_some hM
    have hg := pic_get cy ad x sh 0 k _ hs
    rw [Nat.zero_add] at hg
    have hrecv := va_recv X.2.2.2.1.1 hP hc hg
    rw [hq] at hrecv
    have hrun := va_runV (e := e) (below := below) (meth := meth) (locs := locs) (cells := 0) (slots := 0) (As := As) (rest := st) (g := F0 m pc ls stk) X.1 (C r1 x1 hM1 H.size) (lkV_cw X L hroom) ⟨pre_blind, hrecv, fun U hU hW => ⟨rfl, by rw [hU], by rw [hU]; exact hP, X.2.2.2.1.warm hW, (X.2.2.2.2.1 x).weaken (fun _ _ _ _ => trivial)⟩⟩ rfl hn hl.1.1 hstk (lv_room hw) hd ⟨Nat.zero_le _, Nat.zero_le _⟩
    exact run_void hrun hS (A_sub X hS x) (fun H1 locs1 hP1 hS1 => kk r1 x1 r x' hK1 H1 locs1 ls hl hP1 hS1)
theorem s_callS (X : Cx p s m args meth c own cc nL rt D cy ad sh A) (L : LkS own idx y bc mL (some ty) n) (C : Ct l D cy ad sh y bc mL (some ty) fr lo As x M) (hn : As.length = n) (hstk : stk = As.reverse ++ st)
    (hroom : fr + 1 ≤ Rm.frames ∧ 8 + (mL + 11) + lo ≤ Rm.locals) (hw : (st.map fun v => v.category).sum ≤ 8) (hd : decode cc pc = .ok (.invokestatic idx, 3))
    (kk : ∀ r y, Sim p l e Rm s m args below meth c nL rt D cy ad sh A (pc + 3) lv (.int r :: st) y (K r y)) : Sim p l e Rm s m args below meth c nL rt D cy ad sh A pc lv stk x (cl M K) :=
  fun r x' hM H locs ls hl hP hS => by
    obtain ⟨r1, x1, hM1, hK1⟩ := cl_some hM
    have hrun := va_runS (e := e) (below := below) (meth := meth) (locs := locs) (cells := 0) (slots := 0) (As := As) (rest := st) (g := F0 m pc ls stk) X.1 (C r1 x1 hM1 H.size) (lkS_cw X L hroom) ⟨pre_blind, fun U hU hW => ⟨rfl, by rw [hU], by rw [hU]; exact hP, X.2.2.2.1.warm hW, (X.2.2.2.2.1 x).weaken (fun _ _ _ _ => trivial)⟩⟩ rfl hn hl.1.1 hstk (lv_room hw) hd ⟨Nat.zero_le _, Nat.zero_le _⟩
    exact run_int hrun hS (A_sub X hS x) (fun H1 locs1 hP1 hS1 => kk r1 x1 r x' hK1 H1 locs1 ls hl hP1 hS1)
theorem s_callS0 (X : Cx p s m args meth c own cc nL rt D cy ad sh A) (L : LkS own idx y bc mL none n) (C : Ct l D cy ad sh y bc mL none fr lo As x M) (hn : As.length = n) (hstk : stk = As.reverse ++ st)
    (hroom : fr + 1 ≤ Rm.frames ∧ 8 + (mL + 11) + lo ≤ Rm.locals) (hw : (st.map fun v => v.category).sum ≤ 8) (hd : decode cc pc = .ok (.invokestatic idx, 3))
    (kk : ∀ r y, Sim p l e Rm s m args below meth c nL rt D cy ad sh A (pc + 3) lv st y (K r y)) : Sim p l e Rm s m args below meth c nL rt D cy ad sh A pc lv stk x (cl M K) :=
  fun r x' hM H locs ls hl hP hS => by
    obtain ⟨r1, x1, hM1, hK1⟩ := cl_some hM
    have hrun := va_runS (e := e) (below := below) (meth := meth) (locs := locs) (cells := 0) (slots := 0) (As := As) (rest := st) (g := F0 m pc ls stk) X.1 (C r1 x1 hM1 H.size) (lkS_cw X L hroom) ⟨pre_blind, fun U hU hW => ⟨rfl, by rw [hU], by rw [hU]; exact hP, X.2.2.2.1.warm hW, (X.2.2.2.2.1 x).weaken (fun _ _ _ _ => trivial)⟩⟩ rfl hn hl.1.1 hstk (lv_room hw) hd ⟨Nat.zero_le _, Nat.zero_le _⟩
    exact run_void hrun hS (A_sub X hS x) (fun H1 locs1 hP1 hS1 => kk r1 x1 r x' hK1 H1 locs1 ls hl hP1 hS1)
theorem s_callN (X : Cx p s m args meth c own cc nL rt D cy ad sh A) {host : String} (L : LkN nestW own idx y host bc mL (some ty) n) (C : Ct l D cy ad sh y bc mL (some ty) fr lo As x M) (hn : As.length = n) (hstk : stk = As.reverse ++ st)
    (hroom : fr + 1 ≤ Rm.frames ∧ 8 + (mL + 11) + lo ≤ Rm.locals) (hw : (st.map fun v => v.category).sum ≤ 8) (hd : decode cc pc = .ok (.invokestatic idx, 3))
    (kk : ∀ r y, Sim p l e Rm s m args below meth c nL rt D cy ad sh A (pc + 3) lv (.int r :: st) y (K r y)) : Sim p l e Rm s m args below meth c nL rt D cy ad sh A pc lv stk x (cl M K) :=
  fun r x' hM H locs ls hl hP hS => by
    obtain ⟨r1, x1, hM1, hK1⟩ := cl_some hM
    have hrun := va_runSN (e := e) (below := below) (meth := meth) (locs := locs) (cells := 0) (slots := 0) (As := As) (rest := st) (g := F0 m pc ls stk) X.1 (C r1 x1 hM1 H.size) (lkN_cw X L hroom) ⟨pre_blind, fun U hU hW => ⟨rfl, by rw [hU], by rw [hU]; exact hP, X.2.2.2.1.warm hW, (X.2.2.2.2.1 x).weaken (fun _ _ _ _ => trivial)⟩⟩ rfl hn hl.1.1 hstk (lv_room hw) hd ⟨Nat.zero_le _, Nat.zero_le _⟩
    exact run_int hrun hS (A_sub X hS x) (fun H1 locs1 hP1 hS1 => kk r1 x1 r x' hK1 H1 locs1 ls hl hP1 hS1)
def imax (a b : Int32) : Int32 := if a < b then b else a
def imin (a b : Int32) : Int32 := if b < a then b else a
def iabs (a : Int32) : Int32 := if 0 ≤ a then a else 0 - a
theorem s_mmax (X : Cx p s m args meth c own cc nL rt D cy ad sh A) {a b : Int32} (h1 : Cond.methodLink own idx Lib.Math.max.name ∈ tg) (h2 : Cond.static Lib.Math.max.name ∈ tg) (h3 : Cond.initialized "java/lang/Math" ∈ tg) (h4 : Cond.code Lib.Math.max.name Lib.Math.max.code 2 (some .int) ∈ tg) (hfr : 1 ≤ Rm.frames) (hlo : (st.map fun v => v.category).sum + 13 ≤ Rm.locals) (hd : decode cc pc = .ok (.invokestatic idx, 3))
    (k : Sim p l e Rm s m args below meth c nL rt D cy ad sh A (pc + 3) lv (.int (imax a b) :: st) x M) : Sim p l e Rm s m args below meth c nL rt D cy ad sh A pc lv (.int b :: .int a :: st) x M :=
  fun r x' hM H locs ls hl hP hS => va_mmax X.1.1 X.1.2.1 (X.1.2.2.1.trans hl.1.1.symm) X.1.2.2.2.1 (X.1.2.2.2.2 _ h1) (X.1.2.2.2.2 _ h2) (X.1.2.2.2.2 _ h3) (X.1.2.2.2.2 _ h4) hfr hlo (Nat.zero_le _) (Nat.zero_le _) hd (k r x' hM H locs ls hl hP hS)
theorem s_mmin (X : Cx p s m args meth c own cc nL rt D cy ad sh A) {a b : Int32} (h1 : Cond.methodLink own idx Lib.Math.min.name ∈ tg) (h2 : Cond.static Lib.Math.min.name ∈ tg) (h3 : Cond.initialized "java/lang/Math" ∈ tg) (h4 : Cond.code Lib.Math.min.name Lib.Math.min.code 2 (some .int) ∈ tg) (hfr : 1 ≤ Rm.frames) (hlo : (st.map fun v => v.category).sum + 13 ≤ Rm.locals) (hd : decode cc pc = .ok (.invokestatic idx, 3))
    (k : Sim p l e Rm s m args below meth c nL rt D cy ad sh A (pc + 3) lv (.int (imin a b) :: st) x M) : Sim p l e Rm s m args below meth c nL rt D cy ad sh A pc lv (.int b :: .int a :: st) x M :=
  fun r x' hM H locs ls hl hP hS => va_mmin X.1.1 X.1.2.1 (X.1.2.2.1.trans hl.1.1.symm) X.1.2.2.2.1 (X.1.2.2.2.2 _ h1) (X.1.2.2.2.2 _ h2) (X.1.2.2.2.2 _ h3) (X.1.2.2.2.2 _ h4) hfr hlo (Nat.zero_le _) (Nat.zero_le _) hd (k r x' hM H locs ls hl hP hS)
theorem s_mabs (X : Cx p s m args meth c own cc nL rt D cy ad sh A) {a : Int32} (h1 : Cond.methodLink own idx Lib.Math.abs.name ∈ tg) (h2 : Cond.static Lib.Math.abs.name ∈ tg) (h3 : Cond.initialized "java/lang/Math" ∈ tg) (h4 : Cond.code Lib.Math.abs.name Lib.Math.abs.code 1 (some .int) ∈ tg) (hfr : 1 ≤ Rm.frames) (hlo : (st.map fun v => v.category).sum + 13 ≤ Rm.locals) (hd : decode cc pc = .ok (.invokestatic idx, 3))
    (k : Sim p l e Rm s m args below meth c nL rt D cy ad sh A (pc + 3) lv (.int (iabs a) :: st) x M) : Sim p l e Rm s m args below meth c nL rt D cy ad sh A pc lv (.int a :: st) x M :=
  fun r x' hM H locs ls hl hP hS => va_mabs X.1.1 X.1.2.1 (X.1.2.2.1.trans hl.1.1.symm) X.1.2.2.2.1 (X.1.2.2.2.2 _ h1) (X.1.2.2.2.2 _ h2) (X.1.2.2.2.2 _ h3) (X.1.2.2.2.2 _ h4) hfr hlo (Nat.zero_le _) (Nat.zero_le _) hd (k r x' hM H locs ls hl hP hS)
end CALLS
end
