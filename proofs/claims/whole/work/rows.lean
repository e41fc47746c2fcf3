section
-- ===== PART A: goes FIRST, ahead of the names: the tables' words, and 'selects' of the private methods out of them =====
/-- a private method of a class that the tables say can be made, by its rows of tables_1 -/
def lw_okq (q : MethodName × Nat) : Prop := (q.1.cls ≠ "java/lang/invoke/MethodHandle" ∧ q.1.cls ≠ "java/lang/invoke/VarHandle") ∧ Cond.instantiable q.1.cls q.2 ∈ tables_1 ∧ Cond.privateMethod q.1 ∈ tables_1 ∧ Cond.instanceMethod q.1 ∈ tables_1
theorem lw_p0 : lw_okq (⟨"FireNets", "runPlan", "(II)V"⟩, 8) := ⟨⟨by decide +kernel, by decide +kernel⟩, List.mem_of_getElem? (i := 15) (by decide +kernel), List.mem_of_getElem? (i := 317) (by decide +kernel), List.mem_of_getElem? (i := 318) (by decide +kernel)⟩
theorem lw_p1 : lw_okq (⟨"FireNets$Course", "pay", "(II)V"⟩, 7) := ⟨⟨by decide +kernel, by decide +kernel⟩, List.mem_of_getElem? (i := 77) (by decide +kernel), List.mem_of_getElem? (i := 354) (by decide +kernel), List.mem_of_getElem? (i := 355) (by decide +kernel)⟩
theorem lw_p2 : lw_okq (⟨"FireNets", "seekBest", "(I)V"⟩, 8) := ⟨⟨by decide +kernel, by decide +kernel⟩, List.mem_of_getElem? (i := 15) (by decide +kernel), List.mem_of_getElem? (i := 379) (by decide +kernel), List.mem_of_getElem? (i := 380) (by decide +kernel)⟩
theorem lw_p3 : lw_okq (⟨"FireNets$Search", "seek", "(LFireNets$Net;IIII)V"⟩, 8) := ⟨⟨by decide +kernel, by decide +kernel⟩, List.mem_of_getElem? (i := 110) (by decide +kernel), List.mem_of_getElem? (i := 395) (by decide +kernel), List.mem_of_getElem? (i := 396) (by decide +kernel)⟩
theorem lw_p4 : lw_okq (⟨"FireNets$Search", "look", "(LFireNets$Net;IIIII)V"⟩, 8) := ⟨⟨by decide +kernel, by decide +kernel⟩, List.mem_of_getElem? (i := 110) (by decide +kernel), List.mem_of_getElem? (i := 401) (by decide +kernel), List.mem_of_getElem? (i := 402) (by decide +kernel)⟩
theorem lw_p5 : lw_okq (⟨"FireNets$Search", "judge", "(LFireNets$Net;III)V"⟩, 8) := ⟨⟨by decide +kernel, by decide +kernel⟩, List.mem_of_getElem? (i := 110) (by decide +kernel), List.mem_of_getElem? (i := 407) (by decide +kernel), List.mem_of_getElem? (i := 408) (by decide +kernel)⟩
theorem lw_p6 : lw_okq (⟨"FireNets", "runRule", "(II)V"⟩, 8) := ⟨⟨by decide +kernel, by decide +kernel⟩, List.mem_of_getElem? (i := 15) (by decide +kernel), List.mem_of_getElem? (i := 437) (by decide +kernel), List.mem_of_getElem? (i := 438) (by decide +kernel)⟩
theorem lw_p7 : lw_okq (⟨"FireNets$Net", "rankOf", "(III)I"⟩, 6) := ⟨⟨by decide +kernel, by decide +kernel⟩, List.mem_of_getElem? (i := 23) (by decide +kernel), List.mem_of_getElem? (i := 450) (by decide +kernel), List.mem_of_getElem? (i := 451) (by decide +kernel)⟩
theorem lw_p8 : lw_okq (⟨"FireNets", "savedByRule", "(II)I"⟩, 8) := ⟨⟨by decide +kernel, by decide +kernel⟩, List.mem_of_getElem? (i := 15) (by decide +kernel), List.mem_of_getElem? (i := 464) (by decide +kernel), List.mem_of_getElem? (i := 465) (by decide +kernel)⟩
theorem lw_p9 : lw_okq (⟨"FireNets$Chances", "waysFrom", "(IIII)J"⟩, 5) := ⟨⟨by decide +kernel, by decide +kernel⟩, List.mem_of_getElem? (i := 148) (by decide +kernel), List.mem_of_getElem? (i := 504) (by decide +kernel), List.mem_of_getElem? (i := 505) (by decide +kernel)⟩
theorem lw_p10 : lw_okq (⟨"FireNets$Chances", "lineOnward", "(II)I"⟩, 5) := ⟨⟨by decide +kernel, by decide +kernel⟩, List.mem_of_getElem? (i := 148) (by decide +kernel), List.mem_of_getElem? (i := 511) (by decide +kernel), List.mem_of_getElem? (i := 512) (by decide +kernel)⟩
theorem lw_p11 : lw_okq (⟨"FireNets$Chances", "waysOver", "(IIIII)J"⟩, 5) := ⟨⟨by decide +kernel, by decide +kernel⟩, List.mem_of_getElem? (i := 148) (by decide +kernel), List.mem_of_getElem? (i := 516) (by decide +kernel), List.mem_of_getElem? (i := 517) (by decide +kernel)⟩
theorem lw_p12 : lw_okq (⟨"FireNets$Board", "putGuards", "(I)V"⟩, 9) := ⟨⟨by decide +kernel, by decide +kernel⟩, List.mem_of_getElem? (i := 170) (by decide +kernel), List.mem_of_getElem? (i := 552) (by decide +kernel), List.mem_of_getElem? (i := 553) (by decide +kernel)⟩
theorem lw_p13 : lw_okq (⟨"FireNets$Board", "putGuard", "(IJ)V"⟩, 9) := ⟨⟨by decide +kernel, by decide +kernel⟩, List.mem_of_getElem? (i := 170) (by decide +kernel), List.mem_of_getElem? (i := 560) (by decide +kernel), List.mem_of_getElem? (i := 561) (by decide +kernel)⟩
theorem lw_p14 : lw_okq (⟨"FireNets$Board", "spread", "()Z"⟩, 9) := ⟨⟨by decide +kernel, by decide +kernel⟩, List.mem_of_getElem? (i := 170) (by decide +kernel), List.mem_of_getElem? (i := 564) (by decide +kernel), List.mem_of_getElem? (i := 565) (by decide +kernel)⟩
theorem lw_p15 : lw_okq (⟨"FireNets$Board", "rowAt", "(I)J"⟩, 9) := ⟨⟨by decide +kernel, by decide +kernel⟩, List.mem_of_getElem? (i := 170) (by decide +kernel), List.mem_of_getElem? (i := 568) (by decide +kernel), List.mem_of_getElem? (i := 569) (by decide +kernel)⟩
def lw_privs_1 : List (MethodName × Nat) := [(⟨"FireNets", "runPlan", "(II)V"⟩, 8), (⟨"FireNets$Course", "pay", "(II)V"⟩, 7), (⟨"FireNets", "seekBest", "(I)V"⟩, 8), (⟨"FireNets$Search", "seek", "(LFireNets$Net;IIII)V"⟩, 8), (⟨"FireNets$Search", "look", "(LFireNets$Net;IIIII)V"⟩, 8), (⟨"FireNets$Search", "judge", "(LFireNets$Net;III)V"⟩, 8), (⟨"FireNets", "runRule", "(II)V"⟩, 8), (⟨"FireNets$Net", "rankOf", "(III)I"⟩, 6), (⟨"FireNets", "savedByRule", "(II)I"⟩, 8), (⟨"FireNets$Chances", "waysFrom", "(IIII)J"⟩, 5), (⟨"FireNets$Chances", "lineOnward", "(II)I"⟩, 5), (⟨"FireNets$Chances", "waysOver", "(IIIII)J"⟩, 5), (⟨"FireNets$Board", "putGuards", "(I)V"⟩, 9), (⟨"FireNets$Board", "putGuard", "(IJ)V"⟩, 9), (⟨"FireNets$Board", "spread", "()Z"⟩, 9), (⟨"FireNets$Board", "rowAt", "(I)J"⟩, 9)]
theorem lw_r1 : ∀ q ∈ lw_privs_1, lw_okq q := List.forall_mem_cons.mpr ⟨lw_p0, List.forall_mem_cons.mpr ⟨lw_p1, List.forall_mem_cons.mpr ⟨lw_p2, List.forall_mem_cons.mpr ⟨lw_p3, List.forall_mem_cons.mpr ⟨lw_p4, List.forall_mem_cons.mpr ⟨lw_p5, List.forall_mem_cons.mpr ⟨lw_p6, List.forall_mem_cons.mpr ⟨lw_p7, List.forall_mem_cons.mpr ⟨lw_p8, List.forall_mem_cons.mpr ⟨lw_p9, List.forall_mem_cons.mpr ⟨lw_p10, List.forall_mem_cons.mpr ⟨lw_p11, List.forall_mem_cons.mpr ⟨lw_p12, List.forall_mem_cons.mpr ⟨lw_p13, List.forall_mem_cons.mpr ⟨lw_p14, List.forall_mem_cons.mpr ⟨lw_p15, fun _ h => absurd h List.not_mem_nil⟩⟩⟩⟩⟩⟩⟩⟩⟩⟩⟩⟩⟩⟩⟩⟩
theorem lw_p16 : lw_okq (⟨"FireNetsModel", "clear", "()V"⟩, 34) := ⟨⟨by decide +kernel, by decide +kernel⟩, List.mem_of_getElem? (i := 591) (by decide +kernel), List.mem_of_getElem? (i := 597) (by decide +kernel), List.mem_of_getElem? (i := 598) (by decide +kernel)⟩
theorem lw_p17 : lw_okq (⟨"FireNetsModel", "isNode", "(I)Z"⟩, 34) := ⟨⟨by decide +kernel, by decide +kernel⟩, List.mem_of_getElem? (i := 591) (by decide +kernel), List.mem_of_getElem? (i := 716) (by decide +kernel), List.mem_of_getElem? (i := 717) (by decide +kernel)⟩
theorem lw_p18 : lw_okq (⟨"FireNetsModel", "all", "()I"⟩, 34) := ⟨⟨by decide +kernel, by decide +kernel⟩, List.mem_of_getElem? (i := 591) (by decide +kernel), List.mem_of_getElem? (i := 741) (by decide +kernel), List.mem_of_getElem? (i := 742) (by decide +kernel)⟩
theorem lw_p19 : lw_okq (⟨"FireNetsModel", "worthOf", "(I)I"⟩, 34) := ⟨⟨by decide +kernel, by decide +kernel⟩, List.mem_of_getElem? (i := 591) (by decide +kernel), List.mem_of_getElem? (i := 745) (by decide +kernel), List.mem_of_getElem? (i := 746) (by decide +kernel)⟩
theorem lw_p20 : lw_okq (⟨"FireNetsModel", "isFire", "(I)Z"⟩, 34) := ⟨⟨by decide +kernel, by decide +kernel⟩, List.mem_of_getElem? (i := 591) (by decide +kernel), List.mem_of_getElem? (i := 758) (by decide +kernel), List.mem_of_getElem? (i := 759) (by decide +kernel)⟩
theorem lw_p21 : lw_okq (⟨"FireNetsModel", "playTo", "(II)V"⟩, 34) := ⟨⟨by decide +kernel, by decide +kernel⟩, List.mem_of_getElem? (i := 591) (by decide +kernel), List.mem_of_getElem? (i := 763) (by decide +kernel), List.mem_of_getElem? (i := 764) (by decide +kernel)⟩
theorem lw_p22 : lw_okq (⟨"FireNetsModel", "light", "(I)V"⟩, 34) := ⟨⟨by decide +kernel, by decide +kernel⟩, List.mem_of_getElem? (i := 591) (by decide +kernel), List.mem_of_getElem? (i := 767) (by decide +kernel), List.mem_of_getElem? (i := 768) (by decide +kernel)⟩
theorem lw_p23 : lw_okq (⟨"FireNetsModel", "fill", "(I)V"⟩, 34) := ⟨⟨by decide +kernel, by decide +kernel⟩, List.mem_of_getElem? (i := 591) (by decide +kernel), List.mem_of_getElem? (i := 771) (by decide +kernel), List.mem_of_getElem? (i := 772) (by decide +kernel)⟩
theorem lw_p24 : lw_okq (⟨"FireNetsModel", "isLawful", "(I)Z"⟩, 34) := ⟨⟨by decide +kernel, by decide +kernel⟩, List.mem_of_getElem? (i := 591) (by decide +kernel), List.mem_of_getElem? (i := 775) (by decide +kernel), List.mem_of_getElem? (i := 776) (by decide +kernel)⟩
theorem lw_p25 : lw_okq (⟨"FireNetsModel", "priceOf", "(I)I"⟩, 34) := ⟨⟨by decide +kernel, by decide +kernel⟩, List.mem_of_getElem? (i := 591) (by decide +kernel), List.mem_of_getElem? (i := 779) (by decide +kernel), List.mem_of_getElem? (i := 780) (by decide +kernel)⟩
theorem lw_p26 : lw_okq (⟨"FireNetsModel", "guard", "(I)V"⟩, 34) := ⟨⟨by decide +kernel, by decide +kernel⟩, List.mem_of_getElem? (i := 591) (by decide +kernel), List.mem_of_getElem? (i := 783) (by decide +kernel), List.mem_of_getElem? (i := 784) (by decide +kernel)⟩
theorem lw_p27 : lw_okq (⟨"FireNetsModel", "spreads", "()Z"⟩, 34) := ⟨⟨by decide +kernel, by decide +kernel⟩, List.mem_of_getElem? (i := 591) (by decide +kernel), List.mem_of_getElem? (i := 787) (by decide +kernel), List.mem_of_getElem? (i := 788) (by decide +kernel)⟩
theorem lw_p28 : lw_okq (⟨"FireNetsModel", "near", "()I"⟩, 34) := ⟨⟨by decide +kernel, by decide +kernel⟩, List.mem_of_getElem? (i := 591) (by decide +kernel), List.mem_of_getElem? (i := 791) (by decide +kernel), List.mem_of_getElem? (i := 792) (by decide +kernel)⟩
theorem lw_p29 : lw_okq (⟨"FireNetsModel", "saved", "()I"⟩, 34) := ⟨⟨by decide +kernel, by decide +kernel⟩, List.mem_of_getElem? (i := 591) (by decide +kernel), List.mem_of_getElem? (i := 795) (by decide +kernel), List.mem_of_getElem? (i := 796) (by decide +kernel)⟩
theorem lw_p30 : lw_okq (⟨"FireNetsModel", "seek", "(I)V"⟩, 34) := ⟨⟨by decide +kernel, by decide +kernel⟩, List.mem_of_getElem? (i := 591) (by decide +kernel), List.mem_of_getElem? (i := 808) (by decide +kernel), List.mem_of_getElem? (i := 809) (by decide +kernel)⟩
theorem lw_p31 : lw_okq (⟨"FireNetsModel", "keep", "(I)V"⟩, 34) := ⟨⟨by decide +kernel, by decide +kernel⟩, List.mem_of_getElem? (i := 591) (by decide +kernel), List.mem_of_getElem? (i := 812) (by decide +kernel), List.mem_of_getElem? (i := 813) (by decide +kernel)⟩
def lw_privs_2 : List (MethodName × Nat) := [(⟨"FireNetsModel", "clear", "()V"⟩, 34), (⟨"FireNetsModel", "isNode", "(I)Z"⟩, 34), (⟨"FireNetsModel", "all", "()I"⟩, 34), (⟨"FireNetsModel", "worthOf", "(I)I"⟩, 34), (⟨"FireNetsModel", "isFire", "(I)Z"⟩, 34), (⟨"FireNetsModel", "playTo", "(II)V"⟩, 34), (⟨"FireNetsModel", "light", "(I)V"⟩, 34), (⟨"FireNetsModel", "fill", "(I)V"⟩, 34), (⟨"FireNetsModel", "isLawful", "(I)Z"⟩, 34), (⟨"FireNetsModel", "priceOf", "(I)I"⟩, 34), (⟨"FireNetsModel", "guard", "(I)V"⟩, 34), (⟨"FireNetsModel", "spreads", "()Z"⟩, 34), (⟨"FireNetsModel", "near", "()I"⟩, 34), (⟨"FireNetsModel", "saved", "()I"⟩, 34), (⟨"FireNetsModel", "seek", "(I)V"⟩, 34), (⟨"FireNetsModel", "keep", "(I)V"⟩, 34)]
theorem lw_r2 : ∀ q ∈ lw_privs_2, lw_okq q := List.forall_mem_cons.mpr ⟨lw_p16, List.forall_mem_cons.mpr ⟨lw_p17, List.forall_mem_cons.mpr ⟨lw_p18, List.forall_mem_cons.mpr ⟨lw_p19, List.forall_mem_cons.mpr ⟨lw_p20, List.forall_mem_cons.mpr ⟨lw_p21, List.forall_mem_cons.mpr ⟨lw_p22, List.forall_mem_cons.mpr ⟨lw_p23, List.forall_mem_cons.mpr ⟨lw_p24, List.forall_mem_cons.mpr ⟨lw_p25, List.forall_mem_cons.mpr ⟨lw_p26, List.forall_mem_cons.mpr ⟨lw_p27, List.forall_mem_cons.mpr ⟨lw_p28, List.forall_mem_cons.mpr ⟨lw_p29, List.forall_mem_cons.mpr ⟨lw_p30, List.forall_mem_cons.mpr ⟨lw_p31, fun _ h => absurd h List.not_mem_nil⟩⟩⟩⟩⟩⟩⟩⟩⟩⟩⟩⟩⟩⟩⟩⟩
theorem lw_p32 : lw_okq (⟨"FireNetsModel", "restore", "(I)V"⟩, 34) := ⟨⟨by decide +kernel, by decide +kernel⟩, List.mem_of_getElem? (i := 591) (by decide +kernel), List.mem_of_getElem? (i := 816) (by decide +kernel), List.mem_of_getElem? (i := 817) (by decide +kernel)⟩
theorem lw_p33 : lw_okq (⟨"FireNetsModel", "goOn", "(I)V"⟩, 34) := ⟨⟨by decide +kernel, by decide +kernel⟩, List.mem_of_getElem? (i := 591) (by decide +kernel), List.mem_of_getElem? (i := 820) (by decide +kernel), List.mem_of_getElem? (i := 821) (by decide +kernel)⟩
theorem lw_p34 : lw_okq (⟨"FireNetsModel", "compare", "(II)V"⟩, 34) := ⟨⟨by decide +kernel, by decide +kernel⟩, List.mem_of_getElem? (i := 591) (by decide +kernel), List.mem_of_getElem? (i := 824) (by decide +kernel), List.mem_of_getElem? (i := 825) (by decide +kernel)⟩
theorem lw_p35 : lw_okq (⟨"FireNetsModel", "liveOf", "(II)I"⟩, 34) := ⟨⟨by decide +kernel, by decide +kernel⟩, List.mem_of_getElem? (i := 591) (by decide +kernel), List.mem_of_getElem? (i := 845) (by decide +kernel), List.mem_of_getElem? (i := 846) (by decide +kernel)⟩
theorem lw_p36 : lw_okq (⟨"FireNetsModel", "next", "(I)I"⟩, 34) := ⟨⟨by decide +kernel, by decide +kernel⟩, List.mem_of_getElem? (i := 591) (by decide +kernel), List.mem_of_getElem? (i := 849) (by decide +kernel), List.mem_of_getElem? (i := 850) (by decide +kernel)⟩
theorem lw_p37 : lw_okq (⟨"FireNetsModel", "findShare", "(II)V"⟩, 34) := ⟨⟨by decide +kernel, by decide +kernel⟩, List.mem_of_getElem? (i := 591) (by decide +kernel), List.mem_of_getElem? (i := 860) (by decide +kernel), List.mem_of_getElem? (i := 861) (by decide +kernel)⟩
theorem lw_p38 : lw_okq (⟨"FireNetsModel", "reached", "(III)I"⟩, 34) := ⟨⟨by decide +kernel, by decide +kernel⟩, List.mem_of_getElem? (i := 591) (by decide +kernel), List.mem_of_getElem? (i := 883) (by decide +kernel), List.mem_of_getElem? (i := 884) (by decide +kernel)⟩
theorem lw_p39 : lw_okq (⟨"FireNetsModel", "run", "()V"⟩, 34) := ⟨⟨by decide +kernel, by decide +kernel⟩, List.mem_of_getElem? (i := 591) (by decide +kernel), List.mem_of_getElem? (i := 905) (by decide +kernel), List.mem_of_getElem? (i := 906) (by decide +kernel)⟩
theorem lw_p40 : lw_okq (⟨"FireNetsModel", "build", "(I)V"⟩, 34) := ⟨⟨by decide +kernel, by decide +kernel⟩, List.mem_of_getElem? (i := 591) (by decide +kernel), List.mem_of_getElem? (i := 912) (by decide +kernel), List.mem_of_getElem? (i := 913) (by decide +kernel)⟩
theorem lw_p41 : lw_okq (⟨"FireNetsModel", "burnOn", "()Z"⟩, 34) := ⟨⟨by decide +kernel, by decide +kernel⟩, List.mem_of_getElem? (i := 591) (by decide +kernel), List.mem_of_getElem? (i := 916) (by decide +kernel), List.mem_of_getElem? (i := 917) (by decide +kernel)⟩
theorem lw_p42 : lw_okq (⟨"FireNetsModel", "touches", "(II)Z"⟩, 34) := ⟨⟨by decide +kernel, by decide +kernel⟩, List.mem_of_getElem? (i := 591) (by decide +kernel), List.mem_of_getElem? (i := 920) (by decide +kernel), List.mem_of_getElem? (i := 921) (by decide +kernel)⟩
def lw_privs_3 : List (MethodName × Nat) := [(⟨"FireNetsModel", "restore", "(I)V"⟩, 34), (⟨"FireNetsModel", "goOn", "(I)V"⟩, 34), (⟨"FireNetsModel", "compare", "(II)V"⟩, 34), (⟨"FireNetsModel", "liveOf", "(II)I"⟩, 34), (⟨"FireNetsModel", "next", "(I)I"⟩, 34), (⟨"FireNetsModel", "findShare", "(II)V"⟩, 34), (⟨"FireNetsModel", "reached", "(III)I"⟩, 34), (⟨"FireNetsModel", "run", "()V"⟩, 34), (⟨"FireNetsModel", "build", "(I)V"⟩, 34), (⟨"FireNetsModel", "burnOn", "()Z"⟩, 34), (⟨"FireNetsModel", "touches", "(II)Z"⟩, 34)]
theorem lw_r3 : ∀ q ∈ lw_privs_3, lw_okq q := List.forall_mem_cons.mpr ⟨lw_p32, List.forall_mem_cons.mpr ⟨lw_p33, List.forall_mem_cons.mpr ⟨lw_p34, List.forall_mem_cons.mpr ⟨lw_p35, List.forall_mem_cons.mpr ⟨lw_p36, List.forall_mem_cons.mpr ⟨lw_p37, List.forall_mem_cons.mpr ⟨lw_p38, List.forall_mem_cons.mpr ⟨lw_p39, List.forall_mem_cons.mpr ⟨lw_p40, List.forall_mem_cons.mpr ⟨lw_p41, List.forall_mem_cons.mpr ⟨lw_p42, fun _ h => absurd h List.not_mem_nil⟩⟩⟩⟩⟩⟩⟩⟩⟩⟩⟩
def lw_privs : List (MethodName × Nat) := lw_privs_1 ++ (lw_privs_2 ++ (lw_privs_3))
def lw_tbl : List Cond := k2_sels lw_privs ++ tables_1
theorem lw_privs_ok : ∀ q ∈ lw_privs, lw_okq q := by
  show ∀ q ∈ lw_privs_1 ++ (lw_privs_2 ++ (lw_privs_3)), lw_okq q
  exact List.forall_mem_append.mpr ⟨lw_r1, List.forall_mem_append.mpr ⟨lw_r2, lw_r3⟩⟩
/-! ===== BEGIN words of one list among another's, by their places ===== -/
theorem goodIn_r {big : List Cond} (ws : List Cond) (ps : List Nat) (hp : ws = ps.filterMap (fun i => big[i]?)) (h : ws.all goodWord = true) : GoodIn big ws := by
  intro w hw
  have h1 := List.all_eq_true.mp h w hw
  rw [hp] at hw
  obtain ⟨i, -, hi⟩ := List.mem_filterMap.mp hw
  have hm : w ∈ big := by first | exact List.mem_of_getElem? hi | exact List.getElem?_mem hi
  exact ⟨hm, good_of_word h1⟩
theorem goodIn_app {big a b : List Cond} (ha : GoodIn big a) (hb : GoodIn big b) : GoodIn big (a ++ b) := fun w h => (List.mem_append.mp h).elim (ha w) (hb w)
theorem goodIn_ca {big a b : List Cond} {c : Cond} (ha : GoodIn big (c :: a)) (hb : GoodIn big b) : GoodIn big (c :: (a ++ b)) := fun w h => (List.mem_cons.mp h).elim (fun e => ha w (List.mem_cons.mpr (Or.inl e))) (fun h => (List.mem_append.mp h).elim (fun h => ha w (List.mem_cons.mpr (Or.inr h))) (hb w))
theorem goodIn_sub {big ws : List Cond} (hm : ∀ w ∈ ws, w ∈ big) (h : ws.all goodWord = true) : GoodIn big ws := fun w hw => ⟨hm w hw, good_of_word (List.all_eq_true.mp h w hw)⟩
/-! ===== END ===== -/

/-! ===== BEGIN printed: names, fields, word lists, decode rows ===== -/
def RX0 : String := "FireNets$Board"
def TX0 : u_T := fun k => match k with
  | 0 => ("FireNets$Board", "squares", "I", false)
  | 1 => ("FireNets$Board", "shutIn", "I", false)
  | 2 => ("FireNets$Board", "lost", "I", false)
  | 3 => ("FireNets$Board", "wallX", "[I", true)
  | 4 => ("FireNets$Board", "wallY", "[I", true)
  | 5 => ("FireNets$Board", "wallTick", "[I", true)
  | 6 => ("FireNets$Board", "burning", "[J", true)
  | 7 => ("FireNets$Board", "after", "[J", true)
  | _ => ("FireNets$Board", "guarded", "[J", true)
def tyX0 : Nat → FieldType := fun k => match k with
  | 0 => .int
  | 1 => .int
  | 2 => .int
  | 3 => .array .int
  | 4 => .array .int
  | 5 => .array .int
  | 6 => .array .long
  | 7 => .array .long
  | _ => .array .long
abbrev wsX00 : List Cond := u_ws RX0 TX0 9
theorem nmX0 : ∀ a, a < 9 → ∀ b, b < 9 → a ≠ b → (TX0 a).2.1 ≠ (TX0 b).2.1 := by decide +kernel
theorem tyX0_ok : ∀ k, k < 9 → parseFieldDescriptor (TX0 k).2.2.1 = some (tyX0 k) := by decide +kernel
abbrev cX0_init : ByteArray := prog_2_method_1_code
def yX0_init : MethodName := ⟨RX0, "<init>", "()V"⟩
abbrev cX0_isWall : ByteArray := prog_2_method_2_code
def yX0_isWall : MethodName := ⟨RX0, "isWall", "(II)Z"⟩
abbrev cX0_add : ByteArray := prog_2_method_3_code
def yX0_add : MethodName := ⟨RX0, "add", "(III)I"⟩
abbrev cX0_needed : ByteArray := prog_2_method_4_code
def yX0_needed : MethodName := ⟨RX0, "needed", "()I"⟩
abbrev cX0_burn : ByteArray := prog_2_method_5_code
def yX0_burn : MethodName := ⟨RX0, "burn", "()V"⟩
abbrev cX0_putGuards : ByteArray := prog_2_method_6_code
def yX0_putGuards : MethodName := ⟨RX0, "putGuards", "(I)V"⟩
abbrev cX0_onRows : ByteArray := prog_2_method_7_code
def yX0_onRows : MethodName := ⟨RX0, "onRows", "(I)Z"⟩
abbrev cX0_putGuard : ByteArray := prog_2_method_8_code
def yX0_putGuard : MethodName := ⟨RX0, "putGuard", "(IJ)V"⟩
abbrev cX0_spread : ByteArray := prog_2_method_9_code
def yX0_spread : MethodName := ⟨RX0, "spread", "()Z"⟩
abbrev cX0_rowAt : ByteArray := prog_2_method_10_code
def yX0_rowAt : MethodName := ⟨RX0, "rowAt", "(I)J"⟩
abbrev cX0_burnt : ByteArray := prog_2_method_11_code
def yX0_burnt : MethodName := ⟨RX0, "burnt", "()I"⟩
abbrev cX0_reach : ByteArray := prog_2_method_12_code
def yX0_reach : MethodName := ⟨RX0, "reach", "()I"⟩
def RX1 : String := "FireNets$Chances"
def TX1 : u_T := fun k => match k with
  | 0 => ("FireNets$Chances", "ends", "[I", true)
  | 1 => ("FireNets$Chances", "lines", "I", false)
  | 2 => ("FireNets$Chances", "barred", "I", false)
  | 3 => ("FireNets$Chances", "open", "I", false)
  | _ => ("FireNets$Chances", "shut", "I", false)
def tyX1 : Nat → FieldType := fun k => match k with
  | 0 => .array .int
  | 1 => .int
  | 2 => .int
  | 3 => .int
  | _ => .int
abbrev wsX10 : List Cond := u_ws RX1 TX1 5
theorem nmX1 : ∀ a, a < 5 → ∀ b, b < 5 → a ≠ b → (TX1 a).2.1 ≠ (TX1 b).2.1 := by decide +kernel
theorem tyX1_ok : ∀ k, k < 5 → parseFieldDescriptor (TX1 k).2.2.1 = some (tyX1 k) := by decide +kernel
abbrev cX1_init : ByteArray := prog_3_method_1_code
def yX1_init : MethodName := ⟨RX1, "<init>", "()V"⟩
abbrev cX1_lay : ByteArray := prog_3_method_2_code
def yX1_lay : MethodName := ⟨RX1, "lay", "(LFireNets$Net;III)V"⟩
abbrev cX1_allWays : ByteArray := prog_3_method_3_code
def yX1_allWays : MethodName := ⟨RX1, "allWays", "()J"⟩
abbrev cX1_waysTo : ByteArray := prog_3_method_4_code
def yX1_waysTo : MethodName := ⟨RX1, "waysTo", "(II)J"⟩
abbrev cX1_waysFrom : ByteArray := prog_3_method_5_code
def yX1_waysFrom : MethodName := ⟨RX1, "waysFrom", "(IIII)J"⟩
abbrev cX1_waysOver : ByteArray := prog_3_method_6_code
def yX1_waysOver : MethodName := ⟨RX1, "waysOver", "(IIIII)J"⟩
abbrev cX1_lineOnward : ByteArray := prog_3_method_7_code
def yX1_lineOnward : MethodName := ⟨RX1, "lineOnward", "(II)I"⟩
abbrev cX1_power : ByteArray := prog_3_method_8_code
def yX1_power : MethodName := ⟨RX1, "power", "(JI)J"⟩
def RX2 : String := "FireNets$Course"
def TX2 : u_T := fun k => match k with
  | 0 => ("FireNets$Course", "burning", "I", false)
  | 1 => ("FireNets$Course", "guards", "I", false)
  | 2 => ("FireNets$Course", "tick", "I", false)
  | 3 => ("FireNets$Course", "cost", "I", false)
  | 4 => ("FireNets$Course", "bad", "Z", false)
  | 5 => ("FireNets$Course", "over", "Z", false)
  | _ => ("FireNets$Course", "money", "I", false)
def tyX2 : Nat → FieldType := fun k => match k with
  | 0 => .int
  | 1 => .int
  | 2 => .int
  | 3 => .int
  | 4 => .boolean
  | 5 => .boolean
  | _ => .int
abbrev wsX20 : List Cond := u_ws RX2 TX2 7
theorem nmX2 : ∀ a, a < 7 → ∀ b, b < 7 → a ≠ b → (TX2 a).2.1 ≠ (TX2 b).2.1 := by decide +kernel
theorem tyX2_ok : ∀ k, k < 7 → parseFieldDescriptor (TX2 k).2.2.1 = some (tyX2 k) := by decide +kernel
abbrev cX2_init : ByteArray := prog_4_method_1_code
def yX2_init : MethodName := ⟨RX2, "<init>", "()V"⟩
abbrev cX2_begin : ByteArray := prog_4_method_2_code
def yX2_begin : MethodName := ⟨RX2, "begin", "(I)V"⟩
abbrev cX2_ended : ByteArray := prog_4_method_3_code
def yX2_ended : MethodName := ⟨RX2, "ended", "()Z"⟩
abbrev cX2_openTick : ByteArray := prog_4_method_4_code
def yX2_openTick : MethodName := ⟨RX2, "openTick", "(LFireNets$Purses;)V"⟩
abbrev cX2_putSet : ByteArray := prog_4_method_5_code
def yX2_putSet : MethodName := ⟨RX2, "putSet", "(LFireNets$Net;I)V"⟩
abbrev cX2_pay : ByteArray := prog_4_method_6_code
def yX2_pay : MethodName := ⟨RX2, "pay", "(II)V"⟩
abbrev cX2_putByRule : ByteArray := prog_4_method_7_code
def yX2_putByRule : MethodName := ⟨RX2, "putByRule", "(LFireNets$Net;I)V"⟩
abbrev cX2_spread : ByteArray := prog_4_method_8_code
def yX2_spread : MethodName := ⟨RX2, "spread", "(LFireNets$Net;)V"⟩
def RX3 : String := "FireNets$Net"
def TX3 : u_T := fun k => match k with
  | 0 => ("FireNets$Net", "nodes", "I", false)
  | 1 => ("FireNets$Net", "lines", "I", false)
  | 2 => ("FireNets$Net", "worth", "[I", true)
  | 3 => ("FireNets$Net", "price", "[I", true)
  | 4 => ("FireNets$Net", "near", "[I", true)
  | _ => ("FireNets$Net", "ends", "[I", true)
def tyX3 : Nat → FieldType := fun k => match k with
  | 0 => .int
  | 1 => .int
  | 2 => .array .int
  | 3 => .array .int
  | 4 => .array .int
  | _ => .array .int
abbrev wsX30 : List Cond := u_ws RX3 TX3 6
theorem nmX3 : ∀ a, a < 6 → ∀ b, b < 6 → a ≠ b → (TX3 a).2.1 ≠ (TX3 b).2.1 := by decide +kernel
theorem tyX3_ok : ∀ k, k < 6 → parseFieldDescriptor (TX3 k).2.2.1 = some (tyX3 k) := by decide +kernel
abbrev cX3_init : ByteArray := prog_5_method_1_code
def yX3_init : MethodName := ⟨RX3, "<init>", "()V"⟩
abbrev cX3_renew : ByteArray := prog_5_method_2_code
def yX3_renew : MethodName := ⟨RX3, "renew", "(I)V"⟩
abbrev cX3_has : ByteArray := prog_5_method_3_code
def yX3_has : MethodName := ⟨RX3, "has", "(I)Z"⟩
abbrev cX3_all : ByteArray := prog_5_method_4_code
def yX3_all : MethodName := ⟨RX3, "all", "()I"⟩
abbrev cX3_isStart : ByteArray := prog_5_method_5_code
def yX3_isStart : MethodName := ⟨RX3, "isStart", "(I)Z"⟩
abbrev cX3_joined : ByteArray := prog_5_method_6_code
def yX3_joined : MethodName := ⟨RX3, "joined", "(II)Z"⟩
abbrev cX3_nearTo : ByteArray := prog_5_method_7_code
def yX3_nearTo : MethodName := ⟨RX3, "nearTo", "(I)I"⟩
abbrev cX3_endsOf : ByteArray := prog_5_method_8_code
def yX3_endsOf : MethodName := ⟨RX3, "endsOf", "(I)I"⟩
abbrev cX3_join : ByteArray := prog_5_method_9_code
def yX3_join : MethodName := ⟨RX3, "join", "(II)I"⟩
abbrev cX3_worthOf : ByteArray := prog_5_method_10_code
def yX3_worthOf : MethodName := ⟨RX3, "worthOf", "(I)I"⟩
abbrev cX3_priceOf : ByteArray := prog_5_method_11_code
def yX3_priceOf : MethodName := ⟨RX3, "priceOf", "(I)I"⟩
abbrev cX3_sumOver : ByteArray := prog_5_method_12_code
def yX3_sumOver : MethodName := ⟨RX3, "sumOver", "([II)I"⟩
abbrev cX3_savedFrom : ByteArray := prog_5_method_13_code
def yX3_savedFrom : MethodName := ⟨RX3, "savedFrom", "(I)I"⟩
abbrev cX3_threatened : ByteArray := prog_5_method_14_code
def yX3_threatened : MethodName := ⟨RX3, "threatened", "(II)I"⟩
abbrev cX3_isLawful : ByteArray := prog_5_method_15_code
def yX3_isLawful : MethodName := ⟨RX3, "isLawful", "(IIII)Z"⟩
abbrev cX3_pick : ByteArray := prog_5_method_16_code
def yX3_pick : MethodName := ⟨RX3, "pick", "(IIII)I"⟩
abbrev cX3_rankOf : ByteArray := prog_5_method_17_code
def yX3_rankOf : MethodName := ⟨RX3, "rankOf", "(III)I"⟩
def RX4 : String := "FireNets$Purses"
def TX4 : u_T := fun k => match k with
  | 0 => ("FireNets$Purses", "own", "[I", true)
  | _ => ("FireNets$Purses", "keeping", "I", false)
def tyX4 : Nat → FieldType := fun k => match k with
  | 0 => .array .int
  | _ => .int
abbrev wsX40 : List Cond := u_ws RX4 TX4 2
theorem nmX4 : ∀ a, a < 2 → ∀ b, b < 2 → a ≠ b → (TX4 a).2.1 ≠ (TX4 b).2.1 := by decide +kernel
theorem tyX4_ok : ∀ k, k < 2 → parseFieldDescriptor (TX4 k).2.2.1 = some (tyX4 k) := by decide +kernel
abbrev cX4_init : ByteArray := prog_6_method_1_code
def yX4_init : MethodName := ⟨RX4, "<init>", "()V"⟩
abbrev cX4_copy : ByteArray := prog_6_method_2_code
def yX4_copy : MethodName := ⟨RX4, "copy", "(LFireNets$Purses;)V"⟩
abbrev cX4_money : ByteArray := prog_6_method_3_code
def yX4_money : MethodName := ⟨RX4, "money", "(II)I"⟩
def RX5 : String := "FireNets$Search"
def TX5 : u_T := fun k => match k with
  | 0 => ("FireNets$Search", "purses", "LFireNets$Purses;", true)
  | 1 => ("FireNets$Search", "looks", "I", false)
  | 2 => ("FireNets$Search", "saved", "I", false)
  | 3 => ("FireNets$Search", "over", "I", false)
  | 4 => ("FireNets$Search", "spent", "Z", false)
  | 5 => ("FireNets$Search", "bound", "I", false)
  | 6 => ("FireNets$Search", "way", "[I", true)
  | _ => ("FireNets$Search", "kept", "[I", true)
def tyX5 : Nat → FieldType := fun k => match k with
  | 0 => .object "FireNets$Purses"
  | 1 => .int
  | 2 => .int
  | 3 => .int
  | 4 => .boolean
  | 5 => .int
  | 6 => .array .int
  | _ => .array .int
abbrev wsX50 : List Cond := u_ws RX5 TX5 8
theorem nmX5 : ∀ a, a < 8 → ∀ b, b < 8 → a ≠ b → (TX5 a).2.1 ≠ (TX5 b).2.1 := by decide +kernel
theorem tyX5_ok : ∀ k, k < 8 → parseFieldDescriptor (TX5 k).2.2.1 = some (tyX5 k) := by decide +kernel
abbrev cX5_init : ByteArray := prog_7_method_1_code
def yX5_init : MethodName := ⟨RX5, "<init>", "()V"⟩
abbrev cX5_chosen : ByteArray := prog_7_method_2_code
def yX5_chosen : MethodName := ⟨RX5, "chosen", "(I)I"⟩
abbrev cX5_run : ByteArray := prog_7_method_3_code
def yX5_run : MethodName := ⟨RX5, "run", "(LFireNets$Net;II)V"⟩
abbrev cX5_seek : ByteArray := prog_7_method_4_code
def yX5_seek : MethodName := ⟨RX5, "seek", "(LFireNets$Net;IIII)V"⟩
abbrev cX5_nextWithin : ByteArray := prog_7_method_5_code
def yX5_nextWithin : MethodName := ⟨RX5, "nextWithin", "(II)I"⟩
abbrev cX5_lastAbove : ByteArray := prog_7_method_6_code
def yX5_lastAbove : MethodName := ⟨RX5, "lastAbove", "(I)I"⟩
abbrev cX5_look : ByteArray := prog_7_method_7_code
def yX5_look : MethodName := ⟨RX5, "look", "(LFireNets$Net;IIIII)V"⟩
abbrev cX5_judge : ByteArray := prog_7_method_8_code
def yX5_judge : MethodName := ⟨RX5, "judge", "(LFireNets$Net;III)V"⟩
def RX6 : String := "FireNets"
def TX6 : u_T := fun k => match k with
  | 0 => ("FireNets", "theNet", "LFireNets$Net;", true)
  | 1 => ("FireNets", "thePurses", "LFireNets$Purses;", true)
  | 2 => ("FireNets", "thePlan", "[I", true)
  | 3 => ("FireNets", "theCourse", "LFireNets$Course;", true)
  | 4 => ("FireNets", "theSearch", "LFireNets$Search;", true)
  | 5 => ("FireNets", "theChances", "LFireNets$Chances;", true)
  | 6 => ("FireNets", "theBoard", "LFireNets$Board;", true)
  | _ => ("FireNets", "bound", "I", false)
def tyX6 : Nat → FieldType := fun k => match k with
  | 0 => .object "FireNets$Net"
  | 1 => .object "FireNets$Purses"
  | 2 => .array .int
  | 3 => .object "FireNets$Course"
  | 4 => .object "FireNets$Search"
  | 5 => .object "FireNets$Chances"
  | 6 => .object "FireNets$Board"
  | _ => .int
abbrev wsX60 : List Cond := u_ws RX6 TX6 8
theorem nmX6 : ∀ a, a < 8 → ∀ b, b < 8 → a ≠ b → (TX6 a).2.1 ≠ (TX6 b).2.1 := by decide +kernel
theorem tyX6_ok : ∀ k, k < 8 → parseFieldDescriptor (TX6 k).2.2.1 = some (tyX6 k) := by decide +kernel
abbrev cX6_init : ByteArray := prog_1_method_1_code
def yX6_init : MethodName := ⟨RX6, "<init>", "()V"⟩
abbrev cX6_net : ByteArray := prog_1_method_2_code
def yX6_net : MethodName := ⟨RX6, "net", "(I)I"⟩
abbrev cX6_line : ByteArray := prog_1_method_3_code
def yX6_line : MethodName := ⟨RX6, "line", "(II)I"⟩
abbrev cX6_node : ByteArray := prog_1_method_4_code
def yX6_node : MethodName := ⟨RX6, "node", "(III)I"⟩
abbrev cX6_purse : ByteArray := prog_1_method_5_code
def yX6_purse : MethodName := ⟨RX6, "purse", "(II)I"⟩
abbrev cX6_rule : ByteArray := prog_1_method_6_code
def yX6_rule : MethodName := ⟨RX6, "rule", "(II)I"⟩
abbrev cX6_count : ByteArray := prog_1_method_7_code
def yX6_count : MethodName := ⟨RX6, "count", "(I)I"⟩
abbrev cX6_plan : ByteArray := prog_1_method_8_code
def yX6_plan : MethodName := ⟨RX6, "plan", "(II)I"⟩
abbrev cX6_play : ByteArray := prog_1_method_9_code
def yX6_play : MethodName := ⟨RX6, "play", "(II)I"⟩
abbrev cX6_burns : ByteArray := prog_1_method_10_code
def yX6_burns : MethodName := ⟨RX6, "burns", "(II)I"⟩
abbrev cX6_best : ByteArray := prog_1_method_11_code
def yX6_best : MethodName := ⟨RX6, "best", "(II)I"⟩
abbrev cX6_take : ByteArray := prog_1_method_12_code
def yX6_take : MethodName := ⟨RX6, "take", "(I)I"⟩
abbrev cX6_least : ByteArray := prog_1_method_13_code
def yX6_least : MethodName := ⟨RX6, "least", "(II)I"⟩
abbrev cX6_live : ByteArray := prog_1_method_14_code
def yX6_live : MethodName := ⟨RX6, "live", "(III)I"⟩
abbrev cX6_share : ByteArray := prog_1_method_15_code
def yX6_share : MethodName := ⟨RX6, "share", "(III)I"⟩
abbrev cX6_worst : ByteArray := prog_1_method_16_code
def yX6_worst : MethodName := ⟨RX6, "worst", "(I)I"⟩
abbrev cX6_mean : ByteArray := prog_1_method_17_code
def yX6_mean : MethodName := ⟨RX6, "mean", "(III)I"⟩
abbrev cX6_chance : ByteArray := prog_1_method_18_code
def yX6_chance : MethodName := ⟨RX6, "chance", "(IIIIII)J"⟩
abbrev cX6_wall : ByteArray := prog_1_method_19_code
def yX6_wall : MethodName := ⟨RX6, "wall", "(III)I"⟩
abbrev cX6_raze : ByteArray := prog_1_method_20_code
def yX6_raze : MethodName := ⟨RX6, "raze", "()I"⟩
abbrev cX6_board : ByteArray := prog_1_method_21_code
def yX6_board : MethodName := ⟨RX6, "board", "(I)I"⟩
abbrev cX6_within : ByteArray := prog_1_method_22_code
def yX6_within : MethodName := ⟨RX6, "within", "(III)Z"⟩
abbrev cX6_isRule : ByteArray := prog_1_method_23_code
def yX6_isRule : MethodName := ⟨RX6, "isRule", "(I)Z"⟩
abbrev cX6_holds : ByteArray := prog_1_method_24_code
def yX6_holds : MethodName := ⟨RX6, "holds", "(II)Z"⟩
abbrev cX6_swap : ByteArray := prog_1_method_25_code
def yX6_swap : MethodName := ⟨RX6, "swap", "([III)I"⟩
abbrev cX6_fractionPart : ByteArray := prog_1_method_26_code
def yX6_fractionPart : MethodName := ⟨RX6, "fractionPart", "(JJI)J"⟩
abbrev cX6_commonDivisor : ByteArray := prog_1_method_27_code
def yX6_commonDivisor : MethodName := ⟨RX6, "commonDivisor", "(JJ)J"⟩
abbrev cX6_runPlan : ByteArray := prog_1_method_28_code
def yX6_runPlan : MethodName := ⟨RX6, "runPlan", "(II)V"⟩
abbrev cX6_runRule : ByteArray := prog_1_method_29_code
def yX6_runRule : MethodName := ⟨RX6, "runRule", "(II)V"⟩
abbrev cX6_savedByRule : ByteArray := prog_1_method_30_code
def yX6_savedByRule : MethodName := ⟨RX6, "savedByRule", "(II)I"⟩
abbrev cX6_seekBest : ByteArray := prog_1_method_31_code
def yX6_seekBest : MethodName := ⟨RX6, "seekBest", "(I)V"⟩
def RX7 : String := "FireNetsModel"
def TX7 : u_T := fun k => match k with
  | 0 => ("FireNetsModel", "n", "I", false)
  | 1 => ("FireNetsModel", "lines", "I", false)
  | 2 => ("FireNetsModel", "ends", "[I", true)
  | 3 => ("FireNetsModel", "joined", "[I", true)
  | 4 => ("FireNetsModel", "worth", "[I", true)
  | 5 => ("FireNetsModel", "price", "[I", true)
  | 6 => ("FireNetsModel", "purse", "[I", true)
  | 7 => ("FireNetsModel", "keeps", "Z", false)
  | 8 => ("FireNetsModel", "bound", "I", false)
  | 9 => ("FireNetsModel", "plan", "[I", true)
  | 10 => ("FireNetsModel", "squares", "I", false)
  | 11 => ("FireNetsModel", "wall", "[I", true)
  | 12 => ("FireNetsModel", "fire", "I", false)
  | 13 => ("FireNetsModel", "guards", "I", false)
  | 14 => ("FireNetsModel", "left", "I", false)
  | 15 => ("FireNetsModel", "cost", "I", false)
  | 16 => ("FireNetsModel", "isBad", "Z", false)
  | 17 => ("FireNetsModel", "overAt", "I", false)
  | 18 => ("FireNetsModel", "tried", "[I", true)
  | 19 => ("FireNetsModel", "fireAt", "[I", true)
  | 20 => ("FireNetsModel", "guardsAt", "[I", true)
  | 21 => ("FireNetsModel", "leftAt", "[I", true)
  | 22 => ("FireNetsModel", "looks", "I", false)
  | 23 => ("FireNetsModel", "isSpent", "Z", false)
  | 24 => ("FireNetsModel", "bestSaved", "I", false)
  | 25 => ("FireNetsModel", "bestOver", "I", false)
  | 26 => ("FireNetsModel", "bestSets", "[I", true)
  | 27 => ("FireNetsModel", "prices", "[I", true)
  | 28 => ("FireNetsModel", "kept", "[I", true)
  | 29 => ("FireNetsModel", "shareUpper", "I", false)
  | 30 => ("FireNetsModel", "shareLower", "I", false)
  | 31 => ("FireNetsModel", "board", "[I", true)
  | 32 => ("FireNetsModel", "lost", "I", false)
  | _ => ("FireNetsModel", "shutAt", "I", false)
def tyX7 : Nat → FieldType := fun k => match k with
  | 0 => .int
  | 1 => .int
  | 2 => .array .int
  | 3 => .array .int
  | 4 => .array .int
  | 5 => .array .int
  | 6 => .array .int
  | 7 => .boolean
  | 8 => .int
  | 9 => .array .int
  | 10 => .int
  | 11 => .array .int
  | 12 => .int
  | 13 => .int
  | 14 => .int
  | 15 => .int
  | 16 => .boolean
  | 17 => .int
  | 18 => .array .int
  | 19 => .array .int
  | 20 => .array .int
  | 21 => .array .int
  | 22 => .int
  | 23 => .boolean
  | 24 => .int
  | 25 => .int
  | 26 => .array .int
  | 27 => .array .int
  | 28 => .array .int
  | 29 => .int
  | 30 => .int
  | 31 => .array .int
  | 32 => .int
  | _ => .int
abbrev wsX70 : List Cond := u_ws RX7 TX7 34
theorem nmX7 : ∀ a, a < 34 → ∀ b, b < 34 → a ≠ b → (TX7 a).2.1 ≠ (TX7 b).2.1 := by decide +kernel
theorem tyX7_ok : ∀ k, k < 34 → parseFieldDescriptor (TX7 k).2.2.1 = some (tyX7 k) := by decide +kernel
abbrev cX7_init : ByteArray := prog_9_method_1_code
def yX7_init : MethodName := ⟨RX7, "<init>", "()V"⟩
abbrev cX7_clear : ByteArray := prog_9_method_3_code
def yX7_clear : MethodName := ⟨RX7, "clear", "()V"⟩
abbrev cX7_in : ByteArray := prog_9_method_4_code
def yX7_in : MethodName := ⟨RX7, "in", "(JJJ)Z"⟩
abbrev cX7_isNode : ByteArray := prog_9_method_5_code
def yX7_isNode : MethodName := ⟨RX7, "isNode", "(I)Z"⟩
abbrev cX7_all : ByteArray := prog_9_method_6_code
def yX7_all : MethodName := ⟨RX7, "all", "()I"⟩
abbrev cX7_isFire : ByteArray := prog_9_method_7_code
def yX7_isFire : MethodName := ⟨RX7, "isFire", "(I)Z"⟩
abbrev cX7_net : ByteArray := prog_9_method_8_code
def yX7_net : MethodName := ⟨RX7, "net", "(I)I"⟩
abbrev cX7_line : ByteArray := prog_9_method_9_code
def yX7_line : MethodName := ⟨RX7, "line", "(II)I"⟩
abbrev cX7_node : ByteArray := prog_9_method_10_code
def yX7_node : MethodName := ⟨RX7, "node", "(III)I"⟩
abbrev cX7_purse : ByteArray := prog_9_method_11_code
def yX7_purse : MethodName := ⟨RX7, "purse", "(II)I"⟩
abbrev cX7_rule : ByteArray := prog_9_method_12_code
def yX7_rule : MethodName := ⟨RX7, "rule", "(II)I"⟩
abbrev cX7_worthOf : ByteArray := prog_9_method_13_code
def yX7_worthOf : MethodName := ⟨RX7, "worthOf", "(I)I"⟩
abbrev cX7_priceOf : ByteArray := prog_9_method_14_code
def yX7_priceOf : MethodName := ⟨RX7, "priceOf", "(I)I"⟩
abbrev cX7_count : ByteArray := prog_9_method_15_code
def yX7_count : MethodName := ⟨RX7, "count", "(I)I"⟩
abbrev cX7_light : ByteArray := prog_9_method_16_code
def yX7_light : MethodName := ⟨RX7, "light", "(I)V"⟩
abbrev cX7_fill : ByteArray := prog_9_method_17_code
def yX7_fill : MethodName := ⟨RX7, "fill", "(I)V"⟩
abbrev cX7_isLawful : ByteArray := prog_9_method_18_code
def yX7_isLawful : MethodName := ⟨RX7, "isLawful", "(I)Z"⟩
abbrev cX7_guard : ByteArray := prog_9_method_19_code
def yX7_guard : MethodName := ⟨RX7, "guard", "(I)V"⟩
abbrev cX7_near : ByteArray := prog_9_method_20_code
def yX7_near : MethodName := ⟨RX7, "near", "()I"⟩
abbrev cX7_spreads : ByteArray := prog_9_method_21_code
def yX7_spreads : MethodName := ⟨RX7, "spreads", "()Z"⟩
abbrev cX7_saved : ByteArray := prog_9_method_22_code
def yX7_saved : MethodName := ⟨RX7, "saved", "()I"⟩
abbrev cX7_plan : ByteArray := prog_9_method_23_code
def yX7_plan : MethodName := ⟨RX7, "plan", "(II)I"⟩
abbrev cX7_playTo : ByteArray := prog_9_method_24_code
def yX7_playTo : MethodName := ⟨RX7, "playTo", "(II)V"⟩
abbrev cX7_play : ByteArray := prog_9_method_25_code
def yX7_play : MethodName := ⟨RX7, "play", "(II)I"⟩
abbrev cX7_burns : ByteArray := prog_9_method_26_code
def yX7_burns : MethodName := ⟨RX7, "burns", "(II)I"⟩
abbrev cX7_keep : ByteArray := prog_9_method_27_code
def yX7_keep : MethodName := ⟨RX7, "keep", "(I)V"⟩
abbrev cX7_restore : ByteArray := prog_9_method_28_code
def yX7_restore : MethodName := ⟨RX7, "restore", "(I)V"⟩
abbrev cX7_compare : ByteArray := prog_9_method_29_code
def yX7_compare : MethodName := ⟨RX7, "compare", "(II)V"⟩
abbrev cX7_goOn : ByteArray := prog_9_method_30_code
def yX7_goOn : MethodName := ⟨RX7, "goOn", "(I)V"⟩
abbrev cX7_seek : ByteArray := prog_9_method_31_code
def yX7_seek : MethodName := ⟨RX7, "seek", "(I)V"⟩
abbrev cX7_best : ByteArray := prog_9_method_32_code
def yX7_best : MethodName := ⟨RX7, "best", "(II)I"⟩
abbrev cX7_take : ByteArray := prog_9_method_33_code
def yX7_take : MethodName := ⟨RX7, "take", "(I)I"⟩
abbrev cX7_least : ByteArray := prog_9_method_34_code
def yX7_least : MethodName := ⟨RX7, "least", "(II)I"⟩
abbrev cX7_bits : ByteArray := prog_9_method_35_code
def yX7_bits : MethodName := ⟨RX7, "bits", "(I)I"⟩
abbrev cX7_next : ByteArray := prog_9_method_36_code
def yX7_next : MethodName := ⟨RX7, "next", "(I)I"⟩
abbrev cX7_liveOf : ByteArray := prog_9_method_37_code
def yX7_liveOf : MethodName := ⟨RX7, "liveOf", "(II)I"⟩
abbrev cX7_isRule : ByteArray := prog_9_method_38_code
def yX7_isRule : MethodName := ⟨RX7, "isRule", "(I)Z"⟩
abbrev cX7_live : ByteArray := prog_9_method_39_code
def yX7_live : MethodName := ⟨RX7, "live", "(III)I"⟩
abbrev cX7_part : ByteArray := prog_9_method_40_code
def yX7_part : MethodName := ⟨RX7, "part", "(III)I"⟩
abbrev cX7_findShare : ByteArray := prog_9_method_41_code
def yX7_findShare : MethodName := ⟨RX7, "findShare", "(II)V"⟩
abbrev cX7_share : ByteArray := prog_9_method_42_code
def yX7_share : MethodName := ⟨RX7, "share", "(III)I"⟩
abbrev cX7_worst : ByteArray := prog_9_method_43_code
def yX7_worst : MethodName := ⟨RX7, "worst", "(I)I"⟩
abbrev cX7_mean : ByteArray := prog_9_method_44_code
def yX7_mean : MethodName := ⟨RX7, "mean", "(III)I"⟩
abbrev cX7_reached : ByteArray := prog_9_method_45_code
def yX7_reached : MethodName := ⟨RX7, "reached", "(III)I"⟩
abbrev cX7_power : ByteArray := prog_9_method_46_code
def yX7_power : MethodName := ⟨RX7, "power", "(JI)J"⟩
abbrev cX7_chance : ByteArray := prog_9_method_47_code
def yX7_chance : MethodName := ⟨RX7, "chance", "(IIIIII)J"⟩
abbrev cX7_square : ByteArray := prog_9_method_48_code
def yX7_square : MethodName := ⟨RX7, "square", "(II)I"⟩
abbrev cX7_wall : ByteArray := prog_9_method_49_code
def yX7_wall : MethodName := ⟨RX7, "wall", "(III)I"⟩
abbrev cX7_raze : ByteArray := prog_9_method_50_code
def yX7_raze : MethodName := ⟨RX7, "raze", "()I"⟩
abbrev cX7_build : ByteArray := prog_9_method_51_code
def yX7_build : MethodName := ⟨RX7, "build", "(I)V"⟩
abbrev cX7_touches : ByteArray := prog_9_method_52_code
def yX7_touches : MethodName := ⟨RX7, "touches", "(II)Z"⟩
abbrev cX7_burnOn : ByteArray := prog_9_method_53_code
def yX7_burnOn : MethodName := ⟨RX7, "burnOn", "()Z"⟩
abbrev cX7_run : ByteArray := prog_9_method_54_code
def yX7_run : MethodName := ⟨RX7, "run", "()V"⟩
abbrev cX7_size : ByteArray := prog_9_method_55_code
def yX7_size : MethodName := ⟨RX7, "size", "(I)I"⟩
abbrev cX7_board : ByteArray := prog_9_method_56_code
def yX7_board : MethodName := ⟨RX7, "board", "(I)I"⟩
def RJ6 : String := "java/lang/Integer"
def TJ6 : u_T := fun k => match k with
  | _ => ("", "", "", false)
def tyJ6 : Nat → FieldType := fun k => match k with
  | _ => .int
abbrev wsJ60 : List Cond := u_ws RJ6 TJ6 0
theorem nmJ6 : ∀ a, a < 0 → ∀ b, b < 0 → a ≠ b → (TJ6 a).2.1 ≠ (TJ6 b).2.1 := by decide +kernel
theorem tyJ6_ok : ∀ k, k < 0 → parseFieldDescriptor (TJ6 k).2.2.1 = some (tyJ6 k) := by decide +kernel
abbrev cJ6_bitCount_0f7a4 : ByteArray := prog_10_method_49_code
def yJ6_bitCount_0f7a4 : MethodName := ⟨RJ6, "bitCount", "(I)I"⟩
def RJ13 : String := "java/lang/Long"
def TJ13 : u_T := fun k => match k with
  | _ => ("", "", "", false)
def tyJ13 : Nat → FieldType := fun k => match k with
  | _ => .int
abbrev wsJ130 : List Cond := u_ws RJ13 TJ13 0
theorem nmJ13 : ∀ a, a < 0 → ∀ b, b < 0 → a ≠ b → (TJ13 a).2.1 ≠ (TJ13 b).2.1 := by decide +kernel
theorem tyJ13_ok : ∀ k, k < 0 → parseFieldDescriptor (TJ13 k).2.2.1 = some (tyJ13 k) := by decide +kernel
abbrev cJ13_bitCount_95d88 : ByteArray := prog_11_method_50_code
def yJ13_bitCount_95d88 : MethodName := ⟨RJ13, "bitCount", "(J)I"⟩
def RJ9 : String := "java/lang/Math"
def TJ9 : u_T := fun k => match k with
  | _ => ("", "", "", false)
def tyJ9 : Nat → FieldType := fun k => match k with
  | _ => .int
abbrev wsJ90 : List Cond := u_ws RJ9 TJ9 0
theorem nmJ9 : ∀ a, a < 0 → ∀ b, b < 0 → a ≠ b → (TJ9 a).2.1 ≠ (TJ9 b).2.1 := by decide +kernel
theorem tyJ9_ok : ∀ k, k < 0 → parseFieldDescriptor (TJ9 k).2.2.1 = some (tyJ9 k) := by decide +kernel
abbrev cJ9_abs_0f7a4 : ByteArray := prog_12_method_59_code
def yJ9_abs_0f7a4 : MethodName := ⟨RJ9, "abs", "(I)I"⟩
abbrev cJ9_max_7cf53 : ByteArray := prog_12_method_65_code
def yJ9_max_7cf53 : MethodName := ⟨RJ9, "max", "(II)I"⟩
abbrev cJ9_min_7cf53 : ByteArray := prog_12_method_69_code
def yJ9_min_7cf53 : MethodName := ⟨RJ9, "min", "(II)I"⟩
def RJ10 : String := "java/lang/System"
def TJ10 : u_T := fun k => match k with
  | _ => ("", "", "", false)
def tyJ10 : Nat → FieldType := fun k => match k with
  | _ => .int
abbrev wsJ100 : List Cond := u_ws RJ10 TJ10 0
theorem nmJ10 : ∀ a, a < 0 → ∀ b, b < 0 → a ≠ b → (TJ10 a).2.1 ≠ (TJ10 b).2.1 := by decide +kernel
theorem tyJ10_ok : ∀ k, k < 0 → parseFieldDescriptor (TJ10 k).2.2.1 = some (tyJ10 k) := by decide +kernel
def RJ7 : String := "java/util/Arrays"
def TJ7 : u_T := fun k => match k with
  | _ => ("", "", "", false)
def tyJ7 : Nat → FieldType := fun k => match k with
  | _ => .int
abbrev wsJ70 : List Cond := u_ws RJ7 TJ7 0
theorem nmJ7 : ∀ a, a < 0 → ∀ b, b < 0 → a ≠ b → (TJ7 a).2.1 ≠ (TJ7 b).2.1 := by decide +kernel
theorem tyJ7_ok : ∀ k, k < 0 → parseFieldDescriptor (TJ7 k).2.2.1 = some (tyJ7 k) := by decide +kernel
abbrev cJ7_fill_d0a16 : ByteArray := prog_14_method_101_code
def yJ7_fill_d0a16 : MethodName := ⟨RJ7, "fill", "([JJ)V"⟩
abbrev cJ7_fill_53178 : ByteArray := prog_14_method_103_code
def yJ7_fill_53178 : MethodName := ⟨RJ7, "fill", "([II)V"⟩
def RL : String := "FireNetsLaw"
abbrev cL_law : ByteArray := code
def yL_law : MethodName := ⟨RL, "law", "([I)Z"⟩
def wsX0_init : List Cond := .code yX0_init cX0_init 1 none :: ([.methodLink RX0 5 objectInit, .instanceMethod objectInit, .code objectInit ⟨#[0xb1]⟩ 1 none, .arrayClass .int, .fieldLink RX0 11 "FireNets$Board" "wallX" "[I", .fieldLink RX0 15 "FireNets$Board" "wallY" "[I", .fieldLink RX0 18 "FireNets$Board" "wallTick" "[I", .arrayClass .long, .fieldLink RX0 21 "FireNets$Board" "burning" "[J", .fieldLink RX0 25 "FireNets$Board" "after" "[J", .fieldLink RX0 28 "FireNets$Board" "guarded" "[J"] ++ wsX00)
def wsX0_isWall : List Cond := .code yX0_isWall cX0_isWall 4 (some .boolean) :: ([.fieldLink RX0 31 "FireNets$Board" "squares" "I", .fieldLink RX0 11 "FireNets$Board" "wallX" "[I", .fieldLink RX0 15 "FireNets$Board" "wallY" "[I"] ++ wsX00)
def wsX0_add : List Cond := .code yX0_add cX0_add 4 (some .int) :: ([.fieldLink RX0 31 "FireNets$Board" "squares" "I", .fieldLink RX0 11 "FireNets$Board" "wallX" "[I", .fieldLink RX0 15 "FireNets$Board" "wallY" "[I", .fieldLink RX0 18 "FireNets$Board" "wallTick" "[I"] ++ wsX00)
def wsX0_needed : List Cond := .code yX0_needed cX0_needed 5 (some .int) :: ([.fieldLink RX0 31 "FireNets$Board" "squares" "I", .fieldLink RX0 18 "FireNets$Board" "wallTick" "[I", .methodLink RX0 35 Lib.Math.max.name, .static Lib.Math.max.name, .initialized "java/lang/Math", .code Lib.Math.max.name Lib.Math.max.code 2 (some .int)] ++ wsX00)
def wsJ7_fill_d0a16 : List Cond := .code yJ7_fill_d0a16 cJ7_fill_d0a16 5 none :: ([])
def wsX6_within : List Cond := .code yX6_within cX6_within 3 (some .boolean) :: ([])
def wsX0_onRows : List Cond := .code yX0_onRows cX0_onRows 1 (some .boolean) :: ([.static yX6_within, .initialized RX6, .code yX6_within cX6_within 3 (some .boolean)])
def wsX0_putGuard : List Cond := .code yX0_putGuard cX0_putGuard 4 none :: ([.fieldLink RX0 21 "FireNets$Board" "burning" "[J", .fieldLink RX0 52 "FireNets$Board" "lost" "I", .fieldLink RX0 28 "FireNets$Board" "guarded" "[J"] ++ wsX00)
def wsX0_putGuards : List Cond := .code yX0_putGuards cX0_putGuards 3 none :: ([.fieldLink RX0 31 "FireNets$Board" "squares" "I", .fieldLink RX0 18 "FireNets$Board" "wallTick" "[I", .fieldLink RX0 11 "FireNets$Board" "wallX" "[I", .fieldLink RX0 15 "FireNets$Board" "wallY" "[I", .methodLink RX0 63 yX0_onRows, .static yX0_onRows, .initialized RX0, .code yX0_onRows cX0_onRows 1 (some .boolean), .static yX6_within, .initialized RX6, .code yX6_within cX6_within 3 (some .boolean), .methodLink RX0 67 yX0_putGuard, .instanceMethod yX0_putGuard, .selects RX0 yX0_putGuard yX0_putGuard, .code yX0_putGuard cX0_putGuard 4 none, .fieldLink RX0 21 "FireNets$Board" "burning" "[J", .fieldLink RX0 52 "FireNets$Board" "lost" "I", .fieldLink RX0 28 "FireNets$Board" "guarded" "[J"] ++ wsX00)
def wsX0_rowAt : List Cond := .code yX0_rowAt cX0_rowAt 2 (some .long) :: ([.fieldLink RX0 21 "FireNets$Board" "burning" "[J"] ++ wsX00)
def wsX0_spread : List Cond := .code yX0_spread cX0_spread 7 (some .boolean) :: ([.fieldLink RX0 21 "FireNets$Board" "burning" "[J", .fieldLink RX0 25 "FireNets$Board" "after" "[J", .fieldLink RX0 28 "FireNets$Board" "guarded" "[J", .constantLong RX0 79 (-1), .methodLink RX0 81 arraycopyName, .native arraycopyName, .static arraycopyName, .initialized "java/lang/System", .methodLink RX0 75 yX0_rowAt, .instanceMethod yX0_rowAt, .selects RX0 yX0_rowAt yX0_rowAt, .initialized RX0, .code yX0_rowAt cX0_rowAt 2 (some .long)] ++ wsX00)
def wsX0_burn_r1 : List Cond := [Cond.fieldLink RX0 21 "FireNets$Board" "burning" "[J", Cond.fieldLink RX0 28 "FireNets$Board" "guarded" "[J", Cond.constantLong RX0 47 (16777216), Cond.fieldLink RX0 49 "FireNets$Board" "shutIn" "I", Cond.fieldLink RX0 52 "FireNets$Board" "lost" "I", Cond.methodLink RX0 41 yJ7_fill_d0a16, Cond.static yJ7_fill_d0a16, Cond.initialized RJ7, Cond.code yJ7_fill_d0a16 cJ7_fill_d0a16 5 none, Cond.methodLink RX0 55 yX0_putGuards, Cond.instanceMethod yX0_putGuards, Cond.selects RX0 yX0_putGuards yX0_putGuards, Cond.initialized RX0, Cond.code yX0_putGuards cX0_putGuards 3 none, Cond.fieldLink RX0 31 "FireNets$Board" "squares" "I", Cond.fieldLink RX0 18 "FireNets$Board" "wallTick" "[I", Cond.fieldLink RX0 11 "FireNets$Board" "wallX" "[I", Cond.fieldLink RX0 15 "FireNets$Board" "wallY" "[I", Cond.methodLink RX0 63 yX0_onRows, Cond.static yX0_onRows, Cond.code yX0_onRows cX0_onRows 1 (some .boolean), Cond.static yX6_within, Cond.initialized RX6, Cond.code yX6_within cX6_within 3 (some .boolean)]
def wsX0_burn_r2 : List Cond := [Cond.methodLink RX0 67 yX0_putGuard, Cond.instanceMethod yX0_putGuard, Cond.selects RX0 yX0_putGuard yX0_putGuard, Cond.code yX0_putGuard cX0_putGuard 4 none, Cond.methodLink RX0 59 yX0_spread, Cond.instanceMethod yX0_spread, Cond.selects RX0 yX0_spread yX0_spread, Cond.code yX0_spread cX0_spread 7 (some .boolean), Cond.fieldLink RX0 25 "FireNets$Board" "after" "[J", Cond.constantLong RX0 79 (-1), Cond.methodLink RX0 81 arraycopyName, Cond.native arraycopyName, Cond.static arraycopyName, Cond.initialized "java/lang/System", Cond.methodLink RX0 75 yX0_rowAt, Cond.instanceMethod yX0_rowAt, Cond.selects RX0 yX0_rowAt yX0_rowAt, Cond.code yX0_rowAt cX0_rowAt 2 (some .long)]
def wsX0_burn : List Cond := .code yX0_burn cX0_burn 2 none :: ((wsX0_burn_r1 ++ wsX0_burn_r2) ++ wsX00)
def wsJ13_bitCount_95d88 : List Cond := .code yJ13_bitCount_95d88 cJ13_bitCount_95d88 2 (some .int) :: ([.constantLong RJ13 314 (6148914691236517205), .constantLong RJ13 316 (3689348814741910323), .constantLong RJ13 318 (1085102592571150095)])
def wsX0_burnt : List Cond := .code yX0_burnt cX0_burnt 3 (some .int) :: ([.fieldLink RX0 21 "FireNets$Board" "burning" "[J", .methodLink RX0 87 yJ13_bitCount_95d88, .static yJ13_bitCount_95d88, .initialized RJ13, .code yJ13_bitCount_95d88 cJ13_bitCount_95d88 2 (some .int), .constantLong RJ13 314 (6148914691236517205), .constantLong RJ13 316 (3689348814741910323), .constantLong RJ13 318 (1085102592571150095)] ++ wsX00)
def wsX0_reach : List Cond := .code yX0_reach cX0_reach 4 (some .int) :: ([.fieldLink RX0 21 "FireNets$Board" "burning" "[J", .methodLink RX0 93 Lib.Math.abs.name, .static Lib.Math.abs.name, .initialized "java/lang/Math", .code Lib.Math.abs.name Lib.Math.abs.code 1 (some .int), .methodLink RX0 35 Lib.Math.max.name, .static Lib.Math.max.name, .code Lib.Math.max.name Lib.Math.max.code 2 (some .int)] ++ wsX00)
def wsX1_init : List Cond := .code yX1_init cX1_init 1 none :: ([.methodLink RX1 3 objectInit, .instanceMethod objectInit, .code objectInit ⟨#[0xb1]⟩ 1 none, .arrayClass .int, .fieldLink RX1 9 "FireNets$Chances" "ends" "[I"] ++ wsX10)
def wsX3_endsOf : List Cond := .code yX3_endsOf cX3_endsOf 2 (some .int) :: ([.fieldLink RX3 21 "FireNets$Net" "ends" "[I"] ++ wsX30)
def wsX1_lay : List Cond := .code yX1_lay cX1_lay 6 none :: ([.fieldLink RX1 15 "FireNets$Net" "lines" "I", .methodLink RX1 21 Lib.Math.min.name, .static Lib.Math.min.name, .initialized "java/lang/Math", .code Lib.Math.min.name Lib.Math.min.code 2 (some .int), .fieldLink RX1 27 "FireNets$Chances" "lines" "I", .fieldLink RX1 9 "FireNets$Chances" "ends" "[I", .fieldLink RX1 32 "FireNets$Chances" "barred" "I", .fieldLink RX1 35 "FireNets$Chances" "open" "I", .fieldLink RX1 38 "FireNets$Chances" "shut" "I", .methodLink RX1 28 yX3_endsOf, .instanceMethod yX3_endsOf, .selects RX3 yX3_endsOf yX3_endsOf, .initialized RX3, .code yX3_endsOf cX3_endsOf 2 (some .int), .fieldLink RX3 21 "FireNets$Net" "ends" "[I"] ++ wsX30 ++ wsX10)
def wsX1_power : List Cond := .code yX1_power cX1_power 6 (some .long) :: ([])
def wsX1_allWays : List Cond := .code yX1_allWays cX1_allWays 1 (some .long) :: ([.fieldLink RX1 35 "FireNets$Chances" "open" "I", .fieldLink RX1 38 "FireNets$Chances" "shut" "I", .fieldLink RX1 27 "FireNets$Chances" "lines" "I", .methodLink RX1 41 yX1_power, .static yX1_power, .initialized RX1, .code yX1_power cX1_power 6 (some .long)] ++ wsX10)
def wsX6_holds : List Cond := .code yX6_holds cX6_holds 2 (some .boolean) :: ([])
def wsX1_lineOnward : List Cond := .code yX1_lineOnward cX1_lineOnward 6 (some .int) :: ([.fieldLink RX1 27 "FireNets$Chances" "lines" "I", .fieldLink RX1 9 "FireNets$Chances" "ends" "[I", .fieldLink RX1 32 "FireNets$Chances" "barred" "I", .static yX6_holds, .initialized RX6, .code yX6_holds cX6_holds 2 (some .boolean)] ++ wsX10)
def wsX1_waysFrom : List Cond := .code yX1_waysFrom cX1_waysFrom 6 (some .long) :: ([.fieldLink RX1 35 "FireNets$Chances" "open" "I", .fieldLink RX1 38 "FireNets$Chances" "shut" "I", .methodLink RX1 41 yX1_power, .static yX1_power, .initialized RX1, .code yX1_power cX1_power 6 (some .long), .methodLink RX1 49 yX1_lineOnward, .instanceMethod yX1_lineOnward, .selects RX1 yX1_lineOnward yX1_lineOnward, .code yX1_lineOnward cX1_lineOnward 6 (some .int), .fieldLink RX1 27 "FireNets$Chances" "lines" "I", .fieldLink RX1 9 "FireNets$Chances" "ends" "[I", .fieldLink RX1 32 "FireNets$Chances" "barred" "I", .static yX6_holds, .initialized RX6, .code yX6_holds cX6_holds 2 (some .boolean), .methodLink RX1 52 yX1_waysOver, .instanceMethod yX1_waysOver, .selects RX1 yX1_waysOver yX1_waysOver, .code yX1_waysOver cX1_waysOver 9 (some .long), .methodLink RX1 45 yX1_waysFrom, .instanceMethod yX1_waysFrom, .selects RX1 yX1_waysFrom yX1_waysFrom] ++ wsX10)
def wsX1_waysOver : List Cond := .code yX1_waysOver cX1_waysOver 9 (some .long) :: ([.fieldLink RX1 9 "FireNets$Chances" "ends" "[I", .fieldLink RX1 35 "FireNets$Chances" "open" "I", .fieldLink RX1 38 "FireNets$Chances" "shut" "I", .methodLink RX1 45 yX1_waysFrom, .instanceMethod yX1_waysFrom, .selects RX1 yX1_waysFrom yX1_waysFrom, .initialized RX1, .code yX1_waysFrom cX1_waysFrom 6 (some .long), .methodLink RX1 41 yX1_power, .static yX1_power, .code yX1_power cX1_power 6 (some .long), .methodLink RX1 49 yX1_lineOnward, .instanceMethod yX1_lineOnward, .selects RX1 yX1_lineOnward yX1_lineOnward, .code yX1_lineOnward cX1_lineOnward 6 (some .int), .fieldLink RX1 27 "FireNets$Chances" "lines" "I", .fieldLink RX1 32 "FireNets$Chances" "barred" "I", .static yX6_holds, .initialized RX6, .code yX6_holds cX6_holds 2 (some .boolean), .methodLink RX1 52 yX1_waysOver, .instanceMethod yX1_waysOver, .selects RX1 yX1_waysOver yX1_waysOver] ++ wsX10)
def wsX1_waysTo : List Cond := .code yX1_waysTo cX1_waysTo 3 (some .long) :: ([.fieldLink RX1 27 "FireNets$Chances" "lines" "I", .methodLink RX1 45 yX1_waysFrom, .instanceMethod yX1_waysFrom, .selects RX1 yX1_waysFrom yX1_waysFrom, .initialized RX1, .code yX1_waysFrom cX1_waysFrom 6 (some .long), .fieldLink RX1 35 "FireNets$Chances" "open" "I", .fieldLink RX1 38 "FireNets$Chances" "shut" "I", .methodLink RX1 41 yX1_power, .static yX1_power, .code yX1_power cX1_power 6 (some .long), .methodLink RX1 49 yX1_lineOnward, .instanceMethod yX1_lineOnward, .selects RX1 yX1_lineOnward yX1_lineOnward, .code yX1_lineOnward cX1_lineOnward 6 (some .int), .fieldLink RX1 9 "FireNets$Chances" "ends" "[I", .fieldLink RX1 32 "FireNets$Chances" "barred" "I", .static yX6_holds, .initialized RX6, .code yX6_holds cX6_holds 2 (some .boolean), .methodLink RX1 52 yX1_waysOver, .instanceMethod yX1_waysOver, .selects RX1 yX1_waysOver yX1_waysOver, .code yX1_waysOver cX1_waysOver 9 (some .long)] ++ wsX10)
def wsX2_init : List Cond := .code yX2_init cX2_init 1 none :: ([.methodLink RX2 3 objectInit, .instanceMethod objectInit, .code objectInit ⟨#[0xb1]⟩ 1 none])
def wsX2_begin : List Cond := .code yX2_begin cX2_begin 2 none :: ([.fieldLink RX2 9 "FireNets$Course" "burning" "I", .fieldLink RX2 15 "FireNets$Course" "guards" "I", .fieldLink RX2 18 "FireNets$Course" "tick" "I", .fieldLink RX2 21 "FireNets$Course" "cost" "I", .fieldLink RX2 24 "FireNets$Course" "bad" "Z", .fieldLink RX2 28 "FireNets$Course" "over" "Z", .fieldLink RX2 31 "FireNets$Course" "money" "I"] ++ wsX20)
def wsX2_ended : List Cond := .code yX2_ended cX2_ended 1 (some .boolean) :: ([.fieldLink RX2 28 "FireNets$Course" "over" "Z", .fieldLink RX2 24 "FireNets$Course" "bad" "Z"] ++ wsX20)
def wsX4_money : List Cond := .code yX4_money cX4_money 4 (some .int) :: ([.methodLink RX4 31 Lib.Math.min.name, .static Lib.Math.min.name, .initialized "java/lang/Math", .code Lib.Math.min.name Lib.Math.min.code 2 (some .int), .methodLink RX4 37 Lib.Math.max.name, .static Lib.Math.max.name, .code Lib.Math.max.name Lib.Math.max.code 2 (some .int), .fieldLink RX4 9 "FireNets$Purses" "own" "[I", .fieldLink RX4 27 "FireNets$Purses" "keeping" "I"] ++ wsX40)
def wsX2_openTick : List Cond := .code yX2_openTick cX2_openTick 2 none :: ([.fieldLink RX2 18 "FireNets$Course" "tick" "I", .fieldLink RX2 31 "FireNets$Course" "money" "I", .methodLink RX2 34 yX4_money, .instanceMethod yX4_money, .selects RX4 yX4_money yX4_money, .initialized RX4, .code yX4_money cX4_money 4 (some .int), .methodLink RX4 31 Lib.Math.min.name, .static Lib.Math.min.name, .initialized "java/lang/Math", .code Lib.Math.min.name Lib.Math.min.code 2 (some .int), .methodLink RX4 37 Lib.Math.max.name, .static Lib.Math.max.name, .code Lib.Math.max.name Lib.Math.max.code 2 (some .int), .fieldLink RX4 9 "FireNets$Purses" "own" "[I", .fieldLink RX4 27 "FireNets$Purses" "keeping" "I"] ++ wsX20 ++ wsX40)
def wsX3_all : List Cond := .code yX3_all cX3_all 1 (some .int) :: ([.fieldLink RX3 28 "FireNets$Net" "nodes" "I"] ++ wsX30)
def wsX3_sumOver : List Cond := .code yX3_sumOver cX3_sumOver 4 (some .int) :: ([])
def wsX3_priceOf : List Cond := .code yX3_priceOf cX3_priceOf 2 (some .int) :: ([.fieldLink RX3 15 "FireNets$Net" "price" "[I", .methodLink RX3 61 yX3_sumOver, .static yX3_sumOver, .initialized RX3, .code yX3_sumOver cX3_sumOver 4 (some .int)] ++ wsX30)
def wsX3_isLawful : List Cond := .code yX3_isLawful cX3_isLawful 6 (some .boolean) :: ([.methodLink RX3 45 yX3_all, .instanceMethod yX3_all, .selects RX3 yX3_all yX3_all, .initialized RX3, .code yX3_all cX3_all 1 (some .int), .fieldLink RX3 28 "FireNets$Net" "nodes" "I", .methodLink RX3 68 yX3_priceOf, .instanceMethod yX3_priceOf, .selects RX3 yX3_priceOf yX3_priceOf, .code yX3_priceOf cX3_priceOf 2 (some .int), .fieldLink RX3 15 "FireNets$Net" "price" "[I", .methodLink RX3 61 yX3_sumOver, .static yX3_sumOver, .code yX3_sumOver cX3_sumOver 4 (some .int)] ++ wsX30)
def wsX2_pay : List Cond := .code yX2_pay cX2_pay 3 none :: ([.fieldLink RX2 15 "FireNets$Course" "guards" "I", .fieldLink RX2 31 "FireNets$Course" "money" "I", .fieldLink RX2 21 "FireNets$Course" "cost" "I"] ++ wsX20)
def wsX2_putSet_r1 : List Cond := [Cond.fieldLink RX2 9 "FireNets$Course" "burning" "I", Cond.fieldLink RX2 15 "FireNets$Course" "guards" "I", Cond.fieldLink RX2 31 "FireNets$Course" "money" "I", Cond.fieldLink RX2 24 "FireNets$Course" "bad" "Z", Cond.methodLink RX2 39 yX3_isLawful, Cond.instanceMethod yX3_isLawful, Cond.selects RX3 yX3_isLawful yX3_isLawful, Cond.initialized RX3, Cond.code yX3_isLawful cX3_isLawful 6 (some .boolean), Cond.methodLink RX3 45 yX3_all, Cond.instanceMethod yX3_all, Cond.selects RX3 yX3_all yX3_all, Cond.code yX3_all cX3_all 1 (some .int), Cond.fieldLink RX3 28 "FireNets$Net" "nodes" "I", Cond.methodLink RX3 68 yX3_priceOf, Cond.instanceMethod yX3_priceOf, Cond.selects RX3 yX3_priceOf yX3_priceOf, Cond.code yX3_priceOf cX3_priceOf 2 (some .int), Cond.fieldLink RX3 15 "FireNets$Net" "price" "[I", Cond.methodLink RX3 61 yX3_sumOver, Cond.static yX3_sumOver, Cond.code yX3_sumOver cX3_sumOver 4 (some .int), Cond.methodLink RX2 45 yX3_priceOf, Cond.methodLink RX2 49 yX2_pay]
def wsX2_putSet_r2 : List Cond := [Cond.instanceMethod yX2_pay, Cond.selects RX2 yX2_pay yX2_pay, Cond.initialized RX2, Cond.code yX2_pay cX2_pay 3 none, Cond.fieldLink RX2 21 "FireNets$Course" "cost" "I"]
def wsX2_putSet : List Cond := .code yX2_putSet cX2_putSet 3 none :: ((wsX2_putSet_r1 ++ wsX2_putSet_r2) ++ wsX20 ++ wsX30)
def wsX3_threatened : List Cond := .code yX3_threatened cX3_threatened 5 (some .int) :: ([.fieldLink RX3 18 "FireNets$Net" "near" "[I", .static yX6_holds, .initialized RX6, .code yX6_holds cX6_holds 2 (some .boolean)] ++ wsX30)
def wsJ6_bitCount_0f7a4 : List Cond := .code yJ6_bitCount_0f7a4 cJ6_bitCount_0f7a4 1 (some .int) :: ([.constant RJ6 265 (1431655765), .constant RJ6 266 (858993459), .constant RJ6 267 (252645135)])
def wsX3_rankOf : List Cond := .code yX3_rankOf cX3_rankOf 4 (some .int) :: ([.fieldLink RX3 9 "FireNets$Net" "worth" "[I", .fieldLink RX3 18 "FireNets$Net" "near" "[I", .methodLink RX3 79 yJ6_bitCount_0f7a4, .static yJ6_bitCount_0f7a4, .initialized RJ6, .code yJ6_bitCount_0f7a4 cJ6_bitCount_0f7a4 1 (some .int), .constant RJ6 265 (1431655765), .constant RJ6 266 (858993459), .constant RJ6 267 (252645135)] ++ wsX30)
def wsX3_pick : List Cond := .code yX3_pick cX3_pick 10 (some .int) :: ([.fieldLink RX3 15 "FireNets$Net" "price" "[I", .methodLink RX3 71 yX3_threatened, .instanceMethod yX3_threatened, .selects RX3 yX3_threatened yX3_threatened, .initialized RX3, .code yX3_threatened cX3_threatened 5 (some .int), .fieldLink RX3 18 "FireNets$Net" "near" "[I", .static yX6_holds, .initialized RX6, .code yX6_holds cX6_holds 2 (some .boolean), .methodLink RX3 75 yX3_rankOf, .instanceMethod yX3_rankOf, .selects RX3 yX3_rankOf yX3_rankOf, .code yX3_rankOf cX3_rankOf 4 (some .int), .fieldLink RX3 9 "FireNets$Net" "worth" "[I", .methodLink RX3 79 yJ6_bitCount_0f7a4, .static yJ6_bitCount_0f7a4, .initialized RJ6, .code yJ6_bitCount_0f7a4 cJ6_bitCount_0f7a4 1 (some .int), .constant RJ6 265 (1431655765), .constant RJ6 266 (858993459), .constant RJ6 267 (252645135)] ++ wsX30)
def wsX2_putByRule_r1 : List Cond := [Cond.fieldLink RX2 9 "FireNets$Course" "burning" "I", Cond.fieldLink RX2 15 "FireNets$Course" "guards" "I", Cond.fieldLink RX2 31 "FireNets$Course" "money" "I", Cond.methodLink RX2 53 yX3_pick, Cond.instanceMethod yX3_pick, Cond.selects RX3 yX3_pick yX3_pick, Cond.initialized RX3, Cond.code yX3_pick cX3_pick 10 (some .int), Cond.fieldLink RX3 15 "FireNets$Net" "price" "[I", Cond.methodLink RX3 71 yX3_threatened, Cond.instanceMethod yX3_threatened, Cond.selects RX3 yX3_threatened yX3_threatened, Cond.code yX3_threatened cX3_threatened 5 (some .int), Cond.fieldLink RX3 18 "FireNets$Net" "near" "[I", Cond.static yX6_holds, Cond.initialized RX6, Cond.code yX6_holds cX6_holds 2 (some .boolean), Cond.methodLink RX3 75 yX3_rankOf, Cond.instanceMethod yX3_rankOf, Cond.selects RX3 yX3_rankOf yX3_rankOf, Cond.code yX3_rankOf cX3_rankOf 4 (some .int), Cond.fieldLink RX3 9 "FireNets$Net" "worth" "[I", Cond.methodLink RX3 79 yJ6_bitCount_0f7a4, Cond.static yJ6_bitCount_0f7a4]
def wsX2_putByRule_r2 : List Cond := [Cond.initialized RJ6, Cond.code yJ6_bitCount_0f7a4 cJ6_bitCount_0f7a4 1 (some .int), Cond.constant RJ6 265 (1431655765), Cond.constant RJ6 266 (858993459), Cond.constant RJ6 267 (252645135), Cond.methodLink RX2 45 yX3_priceOf, Cond.instanceMethod yX3_priceOf, Cond.selects RX3 yX3_priceOf yX3_priceOf, Cond.code yX3_priceOf cX3_priceOf 2 (some .int), Cond.methodLink RX3 61 yX3_sumOver, Cond.static yX3_sumOver, Cond.code yX3_sumOver cX3_sumOver 4 (some .int), Cond.methodLink RX2 49 yX2_pay, Cond.instanceMethod yX2_pay, Cond.selects RX2 yX2_pay yX2_pay, Cond.initialized RX2, Cond.code yX2_pay cX2_pay 3 none, Cond.fieldLink RX2 21 "FireNets$Course" "cost" "I"]
def wsX2_putByRule : List Cond := .code yX2_putByRule cX2_putByRule 5 none :: ((wsX2_putByRule_r1 ++ wsX2_putByRule_r2) ++ wsX20 ++ wsX30)
def wsX2_spread : List Cond := .code yX2_spread cX2_spread 3 none :: ([.fieldLink RX2 24 "FireNets$Course" "bad" "Z", .fieldLink RX2 9 "FireNets$Course" "burning" "I", .fieldLink RX2 15 "FireNets$Course" "guards" "I", .fieldLink RX2 28 "FireNets$Course" "over" "Z", .methodLink RX2 57 yX3_threatened, .instanceMethod yX3_threatened, .selects RX3 yX3_threatened yX3_threatened, .initialized RX3, .code yX3_threatened cX3_threatened 5 (some .int), .fieldLink RX3 18 "FireNets$Net" "near" "[I", .static yX6_holds, .initialized RX6, .code yX6_holds cX6_holds 2 (some .boolean)] ++ wsX20 ++ wsX30)
def wsJ7_fill_53178 : List Cond := .code yJ7_fill_53178 cJ7_fill_53178 4 none :: ([])
def wsX3_renew : List Cond := .code yX3_renew cX3_renew 2 none :: ([.fieldLink RX3 28 "FireNets$Net" "nodes" "I", .fieldLink RX3 32 "FireNets$Net" "lines" "I", .fieldLink RX3 9 "FireNets$Net" "worth" "[I", .fieldLink RX3 15 "FireNets$Net" "price" "[I", .fieldLink RX3 18 "FireNets$Net" "near" "[I", .methodLink RX3 35 yJ7_fill_53178, .static yJ7_fill_53178, .initialized RJ7, .code yJ7_fill_53178 cJ7_fill_53178 4 none] ++ wsX30)
def wsX3_init : List Cond := .code yX3_init cX3_init 1 none :: ([.methodLink RX3 3 objectInit, .instanceMethod objectInit, .code objectInit ⟨#[0xb1]⟩ 1 none, .arrayClass .int, .fieldLink RX3 9 "FireNets$Net" "worth" "[I", .fieldLink RX3 15 "FireNets$Net" "price" "[I", .fieldLink RX3 18 "FireNets$Net" "near" "[I", .fieldLink RX3 21 "FireNets$Net" "ends" "[I", .methodLink RX3 24 yX3_renew, .instanceMethod yX3_renew, .selects RX3 yX3_renew yX3_renew, .initialized RX3, .code yX3_renew cX3_renew 2 none, .fieldLink RX3 28 "FireNets$Net" "nodes" "I", .fieldLink RX3 32 "FireNets$Net" "lines" "I", .methodLink RX3 35 yJ7_fill_53178, .static yJ7_fill_53178, .initialized RJ7, .code yJ7_fill_53178 cJ7_fill_53178 4 none] ++ wsX30)
def wsX3_has : List Cond := .code yX3_has cX3_has 2 (some .boolean) :: ([.fieldLink RX3 28 "FireNets$Net" "nodes" "I", .static yX6_within, .initialized RX6, .code yX6_within cX6_within 3 (some .boolean)] ++ wsX30)
def wsX3_isStart : List Cond := .code yX3_isStart cX3_isStart 2 (some .boolean) :: ([.methodLink RX3 45 yX3_all, .instanceMethod yX3_all, .selects RX3 yX3_all yX3_all, .initialized RX3, .code yX3_all cX3_all 1 (some .int), .fieldLink RX3 28 "FireNets$Net" "nodes" "I", .static yX6_within, .initialized RX6, .code yX6_within cX6_within 3 (some .boolean)] ++ wsX30)
def wsX3_nearTo : List Cond := .code yX3_nearTo cX3_nearTo 2 (some .int) :: ([.fieldLink RX3 18 "FireNets$Net" "near" "[I"] ++ wsX30)
def wsX3_joined : List Cond := .code yX3_joined cX3_joined 3 (some .boolean) :: ([.methodLink RX3 49 yX3_nearTo, .instanceMethod yX3_nearTo, .selects RX3 yX3_nearTo yX3_nearTo, .initialized RX3, .code yX3_nearTo cX3_nearTo 2 (some .int), .fieldLink RX3 18 "FireNets$Net" "near" "[I", .static yX6_holds, .initialized RX6, .code yX6_holds cX6_holds 2 (some .boolean)] ++ wsX30)
def wsX3_join : List Cond := .code yX3_join cX3_join 3 (some .int) :: ([.fieldLink RX3 32 "FireNets$Net" "lines" "I", .fieldLink RX3 18 "FireNets$Net" "near" "[I", .fieldLink RX3 21 "FireNets$Net" "ends" "[I", .methodLink RX3 57 yX3_has, .instanceMethod yX3_has, .selects RX3 yX3_has yX3_has, .initialized RX3, .code yX3_has cX3_has 2 (some .boolean), .fieldLink RX3 28 "FireNets$Net" "nodes" "I", .static yX6_within, .initialized RX6, .code yX6_within cX6_within 3 (some .boolean)] ++ wsX30)
def wsX3_worthOf : List Cond := .code yX3_worthOf cX3_worthOf 2 (some .int) :: ([.fieldLink RX3 9 "FireNets$Net" "worth" "[I", .methodLink RX3 61 yX3_sumOver, .static yX3_sumOver, .initialized RX3, .code yX3_sumOver cX3_sumOver 4 (some .int)] ++ wsX30)
def wsX3_savedFrom : List Cond := .code yX3_savedFrom cX3_savedFrom 2 (some .int) :: ([.methodLink RX3 45 yX3_all, .instanceMethod yX3_all, .selects RX3 yX3_all yX3_all, .initialized RX3, .code yX3_all cX3_all 1 (some .int), .fieldLink RX3 28 "FireNets$Net" "nodes" "I", .methodLink RX3 65 yX3_worthOf, .instanceMethod yX3_worthOf, .selects RX3 yX3_worthOf yX3_worthOf, .code yX3_worthOf cX3_worthOf 2 (some .int), .fieldLink RX3 9 "FireNets$Net" "worth" "[I", .methodLink RX3 61 yX3_sumOver, .static yX3_sumOver, .code yX3_sumOver cX3_sumOver 4 (some .int)] ++ wsX30)
def wsX4_init : List Cond := .code yX4_init cX4_init 1 none :: ([.methodLink RX4 3 objectInit, .instanceMethod objectInit, .code objectInit ⟨#[0xb1]⟩ 1 none, .arrayClass .int, .fieldLink RX4 9 "FireNets$Purses" "own" "[I", .methodLink RX4 15 yJ7_fill_53178, .static yJ7_fill_53178, .initialized RJ7, .code yJ7_fill_53178 cJ7_fill_53178 4 none] ++ wsX40)
def wsX4_copy : List Cond := .code yX4_copy cX4_copy 2 none :: ([.fieldLink RX4 9 "FireNets$Purses" "own" "[I", .methodLink RX4 21 arraycopyName, .native arraycopyName, .static arraycopyName, .initialized "java/lang/System", .fieldLink RX4 27 "FireNets$Purses" "keeping" "I"] ++ wsX40)
def wsX5_init : List Cond := .code yX5_init cX5_init 1 none :: ([.methodLink RX5 3 objectInit, .instanceMethod objectInit, .code objectInit ⟨#[0xb1]⟩ 1 none, .classLink RX5 9 RX4, .instantiable RX4 2, .initialized RX4, .fieldLink RX5 12 "FireNets$Search" "purses" "LFireNets$Purses;", .arrayClass .int, .fieldLink RX5 18 "FireNets$Search" "way" "[I", .fieldLink RX5 22 "FireNets$Search" "kept" "[I", .methodLink RX5 11 yX4_init, .instanceMethod yX4_init, .code yX4_init cX4_init 1 none, .methodLink RX4 3 objectInit, .fieldLink RX4 9 "FireNets$Purses" "own" "[I", .methodLink RX4 15 yJ7_fill_53178, .static yJ7_fill_53178, .initialized RJ7, .code yJ7_fill_53178 cJ7_fill_53178 4 none] ++ wsX40 ++ wsX50)
def wsX5_chosen : List Cond := .code yX5_chosen cX5_chosen 2 (some .int) :: ([.fieldLink RX5 22 "FireNets$Search" "kept" "[I", .static yX6_within, .initialized RX6, .code yX6_within cX6_within 3 (some .boolean)] ++ wsX50)
def wsX5_judge_r1 : List Cond := [Cond.fieldLink RX5 40 "FireNets$Search" "saved" "I", Cond.fieldLink RX5 81 "FireNets$Search" "over" "I", Cond.fieldLink RX5 22 "FireNets$Search" "kept" "[I", Cond.fieldLink RX5 18 "FireNets$Search" "way" "[I", Cond.methodLink RX5 71 yX3_threatened, Cond.instanceMethod yX3_threatened, Cond.selects RX3 yX3_threatened yX3_threatened, Cond.initialized RX3, Cond.code yX3_threatened cX3_threatened 5 (some .int), Cond.fieldLink RX3 18 "FireNets$Net" "near" "[I", Cond.static yX6_holds, Cond.initialized RX6, Cond.code yX6_holds cX6_holds 2 (some .boolean), Cond.methodLink RX5 78 yX3_savedFrom, Cond.instanceMethod yX3_savedFrom, Cond.selects RX3 yX3_savedFrom yX3_savedFrom, Cond.code yX3_savedFrom cX3_savedFrom 2 (some .int), Cond.methodLink RX3 45 yX3_all, Cond.instanceMethod yX3_all, Cond.selects RX3 yX3_all yX3_all, Cond.code yX3_all cX3_all 1 (some .int), Cond.fieldLink RX3 28 "FireNets$Net" "nodes" "I", Cond.methodLink RX3 65 yX3_worthOf, Cond.instanceMethod yX3_worthOf]
def wsX5_judge_r2 : List Cond := [Cond.selects RX3 yX3_worthOf yX3_worthOf, Cond.code yX3_worthOf cX3_worthOf 2 (some .int), Cond.fieldLink RX3 9 "FireNets$Net" "worth" "[I", Cond.methodLink RX3 61 yX3_sumOver, Cond.static yX3_sumOver, Cond.code yX3_sumOver cX3_sumOver 4 (some .int)]
def wsX5_judge : List Cond := .code yX5_judge cX5_judge 10 none :: ((wsX5_judge_r1 ++ wsX5_judge_r2) ++ wsX50 ++ wsX30)
def wsX5_lastAbove : List Cond := .code yX5_lastAbove cX5_lastAbove 1 (some .int) :: ([])
def wsX5_nextWithin : List Cond := .code yX5_nextWithin cX5_nextWithin 2 (some .int) :: ([])
def wsX5_look_r1 : List Cond := [Cond.fieldLink RX5 33 "FireNets$Search" "looks" "I", Cond.fieldLink RX5 29 "FireNets$Search" "bound" "I", Cond.fieldLink RX5 36 "FireNets$Search" "spent" "Z", Cond.fieldLink RX5 18 "FireNets$Search" "way" "[I", Cond.fieldLink RX5 12 "FireNets$Search" "purses" "LFireNets$Purses;", Cond.static yX6_within, Cond.initialized RX6, Cond.code yX6_within cX6_within 3 (some .boolean), Cond.methodLink RX5 71 yX3_threatened, Cond.instanceMethod yX3_threatened, Cond.selects RX3 yX3_threatened yX3_threatened, Cond.initialized RX3, Cond.code yX3_threatened cX3_threatened 5 (some .int), Cond.fieldLink RX3 18 "FireNets$Net" "near" "[I", Cond.static yX6_holds, Cond.code yX6_holds cX6_holds 2 (some .boolean), Cond.methodLink RX5 43 yX4_money, Cond.instanceMethod yX4_money, Cond.selects RX4 yX4_money yX4_money, Cond.initialized RX4, Cond.code yX4_money cX4_money 4 (some .int), Cond.methodLink RX4 31 Lib.Math.min.name, Cond.static Lib.Math.min.name, Cond.initialized "java/lang/Math"]
def wsX5_look_r2 : List Cond := [Cond.code Lib.Math.min.name Lib.Math.min.code 2 (some .int), Cond.methodLink RX4 37 Lib.Math.max.name, Cond.static Lib.Math.max.name, Cond.code Lib.Math.max.name Lib.Math.max.code 2 (some .int), Cond.fieldLink RX4 9 "FireNets$Purses" "own" "[I", Cond.fieldLink RX4 27 "FireNets$Purses" "keeping" "I", Cond.methodLink RX5 47 yX5_seek, Cond.instanceMethod yX5_seek, Cond.selects RX5 yX5_seek yX5_seek, Cond.initialized RX5, Cond.methodLink RX5 74 yX5_judge, Cond.instanceMethod yX5_judge, Cond.selects RX5 yX5_judge yX5_judge, Cond.code yX5_judge cX5_judge 10 none, Cond.fieldLink RX5 40 "FireNets$Search" "saved" "I", Cond.fieldLink RX5 81 "FireNets$Search" "over" "I", Cond.fieldLink RX5 22 "FireNets$Search" "kept" "[I", Cond.methodLink RX5 78 yX3_savedFrom, Cond.instanceMethod yX3_savedFrom, Cond.selects RX3 yX3_savedFrom yX3_savedFrom, Cond.code yX3_savedFrom cX3_savedFrom 2 (some .int), Cond.methodLink RX3 45 yX3_all, Cond.instanceMethod yX3_all, Cond.selects RX3 yX3_all yX3_all]
def wsX5_look_r3 : List Cond := [Cond.code yX3_all cX3_all 1 (some .int), Cond.fieldLink RX3 28 "FireNets$Net" "nodes" "I", Cond.methodLink RX3 65 yX3_worthOf, Cond.instanceMethod yX3_worthOf, Cond.selects RX3 yX3_worthOf yX3_worthOf, Cond.code yX3_worthOf cX3_worthOf 2 (some .int), Cond.fieldLink RX3 9 "FireNets$Net" "worth" "[I", Cond.methodLink RX3 61 yX3_sumOver, Cond.static yX3_sumOver, Cond.code yX3_sumOver cX3_sumOver 4 (some .int), Cond.code yX5_seek cX5_seek 10 none, Cond.methodLink RX5 51 yX3_all, Cond.methodLink RX5 57 yX3_priceOf, Cond.instanceMethod yX3_priceOf, Cond.selects RX3 yX3_priceOf yX3_priceOf, Cond.code yX3_priceOf cX3_priceOf 2 (some .int), Cond.fieldLink RX3 15 "FireNets$Net" "price" "[I", Cond.methodLink RX5 61 yX5_look, Cond.instanceMethod yX5_look, Cond.selects RX5 yX5_look yX5_look, Cond.methodLink RX5 65 yX5_lastAbove, Cond.static yX5_lastAbove, Cond.code yX5_lastAbove cX5_lastAbove 1 (some .int), Cond.methodLink RX5 68 yX5_nextWithin]
def wsX5_look_r4 : List Cond := [Cond.static yX5_nextWithin, Cond.code yX5_nextWithin cX5_nextWithin 2 (some .int)]
def wsX5_look : List Cond := .code yX5_look cX5_look 9 none :: ((wsX5_look_r1 ++ (wsX5_look_r2 ++ (wsX5_look_r3 ++ wsX5_look_r4))) ++ wsX50 ++ wsX30 ++ wsX40)
def wsX5_seek_r1 : List Cond := [Cond.fieldLink RX5 36 "FireNets$Search" "spent" "Z", Cond.methodLink RX5 51 yX3_all, Cond.instanceMethod yX3_all, Cond.selects RX3 yX3_all yX3_all, Cond.initialized RX3, Cond.code yX3_all cX3_all 1 (some .int), Cond.fieldLink RX3 28 "FireNets$Net" "nodes" "I", Cond.methodLink RX5 57 yX3_priceOf, Cond.instanceMethod yX3_priceOf, Cond.selects RX3 yX3_priceOf yX3_priceOf, Cond.code yX3_priceOf cX3_priceOf 2 (some .int), Cond.fieldLink RX3 15 "FireNets$Net" "price" "[I", Cond.methodLink RX3 61 yX3_sumOver, Cond.static yX3_sumOver, Cond.code yX3_sumOver cX3_sumOver 4 (some .int), Cond.methodLink RX5 61 yX5_look, Cond.instanceMethod yX5_look, Cond.selects RX5 yX5_look yX5_look, Cond.initialized RX5, Cond.methodLink RX5 65 yX5_lastAbove, Cond.static yX5_lastAbove, Cond.code yX5_lastAbove cX5_lastAbove 1 (some .int), Cond.methodLink RX5 68 yX5_nextWithin, Cond.static yX5_nextWithin]
def wsX5_seek_r2 : List Cond := [Cond.code yX5_nextWithin cX5_nextWithin 2 (some .int), Cond.code yX5_look cX5_look 9 none, Cond.fieldLink RX5 33 "FireNets$Search" "looks" "I", Cond.fieldLink RX5 29 "FireNets$Search" "bound" "I", Cond.fieldLink RX5 18 "FireNets$Search" "way" "[I", Cond.fieldLink RX5 12 "FireNets$Search" "purses" "LFireNets$Purses;", Cond.static yX6_within, Cond.initialized RX6, Cond.code yX6_within cX6_within 3 (some .boolean), Cond.methodLink RX5 71 yX3_threatened, Cond.instanceMethod yX3_threatened, Cond.selects RX3 yX3_threatened yX3_threatened, Cond.code yX3_threatened cX3_threatened 5 (some .int), Cond.fieldLink RX3 18 "FireNets$Net" "near" "[I", Cond.static yX6_holds, Cond.code yX6_holds cX6_holds 2 (some .boolean), Cond.methodLink RX5 43 yX4_money, Cond.instanceMethod yX4_money, Cond.selects RX4 yX4_money yX4_money, Cond.initialized RX4, Cond.code yX4_money cX4_money 4 (some .int), Cond.methodLink RX4 31 Lib.Math.min.name, Cond.static Lib.Math.min.name, Cond.initialized "java/lang/Math"]
def wsX5_seek_r3 : List Cond := [Cond.code Lib.Math.min.name Lib.Math.min.code 2 (some .int), Cond.methodLink RX4 37 Lib.Math.max.name, Cond.static Lib.Math.max.name, Cond.code Lib.Math.max.name Lib.Math.max.code 2 (some .int), Cond.fieldLink RX4 9 "FireNets$Purses" "own" "[I", Cond.fieldLink RX4 27 "FireNets$Purses" "keeping" "I", Cond.methodLink RX5 47 yX5_seek, Cond.instanceMethod yX5_seek, Cond.selects RX5 yX5_seek yX5_seek, Cond.methodLink RX5 74 yX5_judge, Cond.instanceMethod yX5_judge, Cond.selects RX5 yX5_judge yX5_judge, Cond.code yX5_judge cX5_judge 10 none, Cond.fieldLink RX5 40 "FireNets$Search" "saved" "I", Cond.fieldLink RX5 81 "FireNets$Search" "over" "I", Cond.fieldLink RX5 22 "FireNets$Search" "kept" "[I", Cond.methodLink RX5 78 yX3_savedFrom, Cond.instanceMethod yX3_savedFrom, Cond.selects RX3 yX3_savedFrom yX3_savedFrom, Cond.code yX3_savedFrom cX3_savedFrom 2 (some .int), Cond.methodLink RX3 45 yX3_all, Cond.methodLink RX3 65 yX3_worthOf, Cond.instanceMethod yX3_worthOf, Cond.selects RX3 yX3_worthOf yX3_worthOf]
def wsX5_seek_r4 : List Cond := [Cond.code yX3_worthOf cX3_worthOf 2 (some .int), Cond.fieldLink RX3 9 "FireNets$Net" "worth" "[I"]
def wsX5_seek : List Cond := .code yX5_seek cX5_seek 10 none :: ((wsX5_seek_r1 ++ (wsX5_seek_r2 ++ (wsX5_seek_r3 ++ wsX5_seek_r4))) ++ wsX50 ++ wsX30 ++ wsX40)
def wsX5_run_r1 : List Cond := [Cond.fieldLink RX5 29 "FireNets$Search" "bound" "I", Cond.fieldLink RX5 33 "FireNets$Search" "looks" "I", Cond.fieldLink RX5 36 "FireNets$Search" "spent" "Z", Cond.fieldLink RX5 40 "FireNets$Search" "saved" "I", Cond.fieldLink RX5 12 "FireNets$Search" "purses" "LFireNets$Purses;", Cond.methodLink RX5 43 yX4_money, Cond.instanceMethod yX4_money, Cond.selects RX4 yX4_money yX4_money, Cond.initialized RX4, Cond.code yX4_money cX4_money 4 (some .int), Cond.methodLink RX4 31 Lib.Math.min.name, Cond.static Lib.Math.min.name, Cond.initialized "java/lang/Math", Cond.code Lib.Math.min.name Lib.Math.min.code 2 (some .int), Cond.methodLink RX4 37 Lib.Math.max.name, Cond.static Lib.Math.max.name, Cond.code Lib.Math.max.name Lib.Math.max.code 2 (some .int), Cond.fieldLink RX4 9 "FireNets$Purses" "own" "[I", Cond.fieldLink RX4 27 "FireNets$Purses" "keeping" "I", Cond.methodLink RX5 47 yX5_seek, Cond.instanceMethod yX5_seek, Cond.selects RX5 yX5_seek yX5_seek, Cond.initialized RX5, Cond.code yX5_seek cX5_seek 10 none]
def wsX5_run_r2 : List Cond := [Cond.methodLink RX5 51 yX3_all, Cond.instanceMethod yX3_all, Cond.selects RX3 yX3_all yX3_all, Cond.initialized RX3, Cond.code yX3_all cX3_all 1 (some .int), Cond.fieldLink RX3 28 "FireNets$Net" "nodes" "I", Cond.methodLink RX5 57 yX3_priceOf, Cond.instanceMethod yX3_priceOf, Cond.selects RX3 yX3_priceOf yX3_priceOf, Cond.code yX3_priceOf cX3_priceOf 2 (some .int), Cond.fieldLink RX3 15 "FireNets$Net" "price" "[I", Cond.methodLink RX3 61 yX3_sumOver, Cond.static yX3_sumOver, Cond.code yX3_sumOver cX3_sumOver 4 (some .int), Cond.methodLink RX5 61 yX5_look, Cond.instanceMethod yX5_look, Cond.selects RX5 yX5_look yX5_look, Cond.methodLink RX5 65 yX5_lastAbove, Cond.static yX5_lastAbove, Cond.code yX5_lastAbove cX5_lastAbove 1 (some .int), Cond.methodLink RX5 68 yX5_nextWithin, Cond.static yX5_nextWithin, Cond.code yX5_nextWithin cX5_nextWithin 2 (some .int), Cond.code yX5_look cX5_look 9 none]
def wsX5_run_r3 : List Cond := [Cond.fieldLink RX5 18 "FireNets$Search" "way" "[I", Cond.static yX6_within, Cond.initialized RX6, Cond.code yX6_within cX6_within 3 (some .boolean), Cond.methodLink RX5 71 yX3_threatened, Cond.instanceMethod yX3_threatened, Cond.selects RX3 yX3_threatened yX3_threatened, Cond.code yX3_threatened cX3_threatened 5 (some .int), Cond.fieldLink RX3 18 "FireNets$Net" "near" "[I", Cond.static yX6_holds, Cond.code yX6_holds cX6_holds 2 (some .boolean), Cond.methodLink RX5 74 yX5_judge, Cond.instanceMethod yX5_judge, Cond.selects RX5 yX5_judge yX5_judge, Cond.code yX5_judge cX5_judge 10 none, Cond.fieldLink RX5 81 "FireNets$Search" "over" "I", Cond.fieldLink RX5 22 "FireNets$Search" "kept" "[I", Cond.methodLink RX5 78 yX3_savedFrom, Cond.instanceMethod yX3_savedFrom, Cond.selects RX3 yX3_savedFrom yX3_savedFrom, Cond.code yX3_savedFrom cX3_savedFrom 2 (some .int), Cond.methodLink RX3 45 yX3_all, Cond.methodLink RX3 65 yX3_worthOf, Cond.instanceMethod yX3_worthOf]
def wsX5_run_r4 : List Cond := [Cond.selects RX3 yX3_worthOf yX3_worthOf, Cond.code yX3_worthOf cX3_worthOf 2 (some .int), Cond.fieldLink RX3 9 "FireNets$Net" "worth" "[I"]
def wsX5_run : List Cond := .code yX5_run cX5_run 4 none :: ((wsX5_run_r1 ++ (wsX5_run_r2 ++ (wsX5_run_r3 ++ wsX5_run_r4))) ++ wsX50 ++ wsX40 ++ wsX30)
def wsX6_init_r1 : List Cond := [Cond.methodLink RX6 1 objectInit, Cond.instanceMethod objectInit, Cond.code objectInit ⟨#[0xb1]⟩ 1 none, Cond.classLink RX6 7 RX3, Cond.instantiable RX3 6, Cond.initialized RX3, Cond.fieldLink RX6 10 "FireNets" "theNet" "LFireNets$Net;", Cond.classLink RX6 16 RX4, Cond.instantiable RX4 2, Cond.initialized RX4, Cond.fieldLink RX6 19 "FireNets" "thePurses" "LFireNets$Purses;", Cond.arrayClass .int, Cond.fieldLink RX6 23 "FireNets" "thePlan" "[I", Cond.classLink RX6 27 RX2, Cond.instantiable RX2 7, Cond.initialized RX2, Cond.fieldLink RX6 30 "FireNets" "theCourse" "LFireNets$Course;", Cond.classLink RX6 34 RX5, Cond.instantiable RX5 8, Cond.initialized RX5, Cond.fieldLink RX6 37 "FireNets" "theSearch" "LFireNets$Search;", Cond.classLink RX6 41 RX1, Cond.instantiable RX1 5, Cond.initialized RX1]
def wsX6_init_r2 : List Cond := [Cond.fieldLink RX6 44 "FireNets" "theChances" "LFireNets$Chances;", Cond.classLink RX6 48 RX0, Cond.instantiable RX0 9, Cond.initialized RX0, Cond.fieldLink RX6 51 "FireNets" "theBoard" "LFireNets$Board;", Cond.fieldLink RX6 55 "FireNets" "bound" "I", Cond.methodLink RX6 9 yX3_init, Cond.instanceMethod yX3_init, Cond.code yX3_init cX3_init 1 none, Cond.methodLink RX3 3 objectInit, Cond.fieldLink RX3 9 "FireNets$Net" "worth" "[I", Cond.fieldLink RX3 15 "FireNets$Net" "price" "[I", Cond.fieldLink RX3 18 "FireNets$Net" "near" "[I", Cond.fieldLink RX3 21 "FireNets$Net" "ends" "[I", Cond.methodLink RX3 24 yX3_renew, Cond.instanceMethod yX3_renew, Cond.selects RX3 yX3_renew yX3_renew, Cond.code yX3_renew cX3_renew 2 none, Cond.fieldLink RX3 28 "FireNets$Net" "nodes" "I", Cond.fieldLink RX3 32 "FireNets$Net" "lines" "I", Cond.methodLink RX3 35 yJ7_fill_53178, Cond.static yJ7_fill_53178, Cond.initialized RJ7, Cond.code yJ7_fill_53178 cJ7_fill_53178 4 none]
def wsX6_init_r3 : List Cond := [Cond.methodLink RX6 18 yX4_init, Cond.instanceMethod yX4_init, Cond.code yX4_init cX4_init 1 none, Cond.methodLink RX4 3 objectInit, Cond.fieldLink RX4 9 "FireNets$Purses" "own" "[I", Cond.methodLink RX4 15 yJ7_fill_53178, Cond.instanceMethod yX2_init, Cond.code yX2_init cX2_init 1 none, Cond.methodLink RX2 3 objectInit, Cond.methodLink RX6 36 yX5_init, Cond.instanceMethod yX5_init, Cond.code yX5_init cX5_init 1 none, Cond.methodLink RX5 3 objectInit, Cond.classLink RX5 9 RX4, Cond.fieldLink RX5 12 "FireNets$Search" "purses" "LFireNets$Purses;", Cond.fieldLink RX5 18 "FireNets$Search" "way" "[I", Cond.fieldLink RX5 22 "FireNets$Search" "kept" "[I", Cond.methodLink RX5 11 yX4_init, Cond.methodLink RX6 43 yX1_init, Cond.instanceMethod yX1_init, Cond.code yX1_init cX1_init 1 none, Cond.methodLink RX1 3 objectInit, Cond.fieldLink RX1 9 "FireNets$Chances" "ends" "[I", Cond.methodLink RX6 50 yX0_init]
def wsX6_init_r4 : List Cond := [Cond.instanceMethod yX0_init, Cond.code yX0_init cX0_init 1 none, Cond.methodLink RX0 5 objectInit, Cond.fieldLink RX0 11 "FireNets$Board" "wallX" "[I", Cond.fieldLink RX0 15 "FireNets$Board" "wallY" "[I", Cond.fieldLink RX0 18 "FireNets$Board" "wallTick" "[I", Cond.arrayClass .long, Cond.fieldLink RX0 21 "FireNets$Board" "burning" "[J", Cond.fieldLink RX0 25 "FireNets$Board" "after" "[J", Cond.fieldLink RX0 28 "FireNets$Board" "guarded" "[J"]
def wsX6_init : List Cond := .code yX6_init cX6_init 1 none :: ((wsX6_init_r1 ++ (wsX6_init_r2 ++ (wsX6_init_r3 ++ wsX6_init_r4))) ++ wsX30 ++ wsX60 ++ wsX40 ++ wsX20 ++ wsX50 ++ wsX10 ++ wsX00)
def wsX6_net : List Cond := .code yX6_net cX6_net 2 (some .int) :: ([.fieldLink RX6 10 "FireNets" "theNet" "LFireNets$Net;", .fieldLink RX6 23 "FireNets" "thePlan" "[I", .methodLink RX6 59 yX6_within, .static yX6_within, .initialized RX6, .code yX6_within cX6_within 3 (some .boolean), .methodLink RX6 63 yX3_renew, .instanceMethod yX3_renew, .selects RX3 yX3_renew yX3_renew, .initialized RX3, .code yX3_renew cX3_renew 2 none, .fieldLink RX3 28 "FireNets$Net" "nodes" "I", .fieldLink RX3 32 "FireNets$Net" "lines" "I", .fieldLink RX3 9 "FireNets$Net" "worth" "[I", .fieldLink RX3 15 "FireNets$Net" "price" "[I", .fieldLink RX3 18 "FireNets$Net" "near" "[I", .methodLink RX3 35 yJ7_fill_53178, .static yJ7_fill_53178, .initialized RJ7, .code yJ7_fill_53178 cJ7_fill_53178 4 none, .methodLink RX6 67 yJ7_fill_53178] ++ wsX60 ++ wsX30)
def wsX6_line_r1 : List Cond := [Cond.fieldLink RX6 10 "FireNets" "theNet" "LFireNets$Net;", Cond.fieldLink RX6 81 "FireNets$Net" "lines" "I", Cond.methodLink RX6 73 yX3_has, Cond.instanceMethod yX3_has, Cond.selects RX3 yX3_has yX3_has, Cond.initialized RX3, Cond.code yX3_has cX3_has 2 (some .boolean), Cond.fieldLink RX3 28 "FireNets$Net" "nodes" "I", Cond.static yX6_within, Cond.initialized RX6, Cond.code yX6_within cX6_within 3 (some .boolean), Cond.methodLink RX6 77 yX3_joined, Cond.instanceMethod yX3_joined, Cond.selects RX3 yX3_joined yX3_joined, Cond.code yX3_joined cX3_joined 3 (some .boolean), Cond.methodLink RX3 49 yX3_nearTo, Cond.instanceMethod yX3_nearTo, Cond.selects RX3 yX3_nearTo yX3_nearTo, Cond.code yX3_nearTo cX3_nearTo 2 (some .int), Cond.fieldLink RX3 18 "FireNets$Net" "near" "[I", Cond.static yX6_holds, Cond.code yX6_holds cX6_holds 2 (some .boolean), Cond.methodLink RX6 84 yX3_join, Cond.instanceMethod yX3_join]
def wsX6_line_r2 : List Cond := [Cond.selects RX3 yX3_join yX3_join, Cond.code yX3_join cX3_join 3 (some .int), Cond.fieldLink RX3 32 "FireNets$Net" "lines" "I", Cond.fieldLink RX3 21 "FireNets$Net" "ends" "[I", Cond.methodLink RX3 57 yX3_has]
def wsX6_line : List Cond := .code yX6_line cX6_line 3 (some .int) :: ((wsX6_line_r1 ++ wsX6_line_r2) ++ wsX60 ++ wsX30)
def wsX6_swap : List Cond := .code yX6_swap cX6_swap 4 (some .int) :: ([])
def wsX6_node : List Cond := .code yX6_node cX6_node 4 (some .int) :: ([.fieldLink RX6 10 "FireNets" "theNet" "LFireNets$Net;", .fieldLink RX6 88 "FireNets$Net" "worth" "[I", .fieldLink RX6 95 "FireNets$Net" "price" "[I", .methodLink RX6 73 yX3_has, .instanceMethod yX3_has, .selects RX3 yX3_has yX3_has, .initialized RX3, .code yX3_has cX3_has 2 (some .boolean), .fieldLink RX3 28 "FireNets$Net" "nodes" "I", .static yX6_within, .initialized RX6, .code yX6_within cX6_within 3 (some .boolean), .methodLink RX6 59 yX6_within, .methodLink RX6 91 yX6_swap, .static yX6_swap, .code yX6_swap cX6_swap 4 (some .int)] ++ wsX60 ++ wsX30)
def wsX6_purse : List Cond := .code yX6_purse cX6_purse 3 (some .int) :: ([.fieldLink RX6 19 "FireNets" "thePurses" "LFireNets$Purses;", .fieldLink RX6 98 "FireNets$Purses" "own" "[I", .methodLink RX6 59 yX6_within, .static yX6_within, .initialized RX6, .code yX6_within cX6_within 3 (some .boolean), .methodLink RX6 91 yX6_swap, .static yX6_swap, .code yX6_swap cX6_swap 4 (some .int)] ++ wsX60 ++ wsX40)
def wsX6_rule : List Cond := .code yX6_rule cX6_rule 4 (some .int) :: ([.fieldLink RX6 19 "FireNets" "thePurses" "LFireNets$Purses;", .fieldLink RX6 101 "FireNets$Purses" "keeping" "I", .fieldLink RX6 55 "FireNets" "bound" "I", .methodLink RX6 59 yX6_within, .static yX6_within, .initialized RX6, .code yX6_within cX6_within 3 (some .boolean)] ++ wsX60 ++ wsX40)
def wsX6_count_r1 : List Cond := [Cond.fieldLink RX6 10 "FireNets" "theNet" "LFireNets$Net;", Cond.fieldLink RX6 104 "FireNets$Net" "nodes" "I", Cond.fieldLink RX6 81 "FireNets$Net" "lines" "I", Cond.fieldLink RX6 51 "FireNets" "theBoard" "LFireNets$Board;", Cond.fieldLink RX6 115 "FireNets$Board" "squares" "I", Cond.methodLink RX6 107 yX3_all, Cond.instanceMethod yX3_all, Cond.selects RX3 yX3_all yX3_all, Cond.initialized RX3, Cond.code yX3_all cX3_all 1 (some .int), Cond.fieldLink RX3 28 "FireNets$Net" "nodes" "I", Cond.methodLink RX6 111 yX3_worthOf, Cond.instanceMethod yX3_worthOf, Cond.selects RX3 yX3_worthOf yX3_worthOf, Cond.code yX3_worthOf cX3_worthOf 2 (some .int), Cond.fieldLink RX3 9 "FireNets$Net" "worth" "[I", Cond.methodLink RX3 61 yX3_sumOver, Cond.static yX3_sumOver, Cond.code yX3_sumOver cX3_sumOver 4 (some .int), Cond.methodLink RX6 118 yX0_needed, Cond.instanceMethod yX0_needed, Cond.selects RX0 yX0_needed yX0_needed, Cond.initialized RX0, Cond.code yX0_needed cX0_needed 5 (some .int)]
def wsX6_count_r2 : List Cond := [Cond.fieldLink RX0 31 "FireNets$Board" "squares" "I", Cond.fieldLink RX0 18 "FireNets$Board" "wallTick" "[I", Cond.methodLink RX0 35 Lib.Math.max.name, Cond.static Lib.Math.max.name, Cond.initialized "java/lang/Math", Cond.code Lib.Math.max.name Lib.Math.max.code 2 (some .int)]
def wsX6_count : List Cond := .code yX6_count cX6_count 2 (some .int) :: ((wsX6_count_r1 ++ wsX6_count_r2) ++ wsX60 ++ wsX30 ++ wsX00)
def wsX6_plan : List Cond := .code yX6_plan cX6_plan 3 (some .int) :: ([.fieldLink RX6 23 "FireNets" "thePlan" "[I", .methodLink RX6 59 yX6_within, .static yX6_within, .initialized RX6, .code yX6_within cX6_within 3 (some .boolean), .methodLink RX6 91 yX6_swap, .static yX6_swap, .code yX6_swap cX6_swap 4 (some .int)] ++ wsX60)
def wsX6_runPlan_r1 : List Cond := [Cond.fieldLink RX6 30 "FireNets" "theCourse" "LFireNets$Course;", Cond.fieldLink RX6 19 "FireNets" "thePurses" "LFireNets$Purses;", Cond.fieldLink RX6 10 "FireNets" "theNet" "LFireNets$Net;", Cond.fieldLink RX6 23 "FireNets" "thePlan" "[I", Cond.methodLink RX6 237 yX2_begin, Cond.instanceMethod yX2_begin, Cond.selects RX2 yX2_begin yX2_begin, Cond.initialized RX2, Cond.code yX2_begin cX2_begin 2 none, Cond.fieldLink RX2 9 "FireNets$Course" "burning" "I", Cond.fieldLink RX2 15 "FireNets$Course" "guards" "I", Cond.fieldLink RX2 18 "FireNets$Course" "tick" "I", Cond.fieldLink RX2 21 "FireNets$Course" "cost" "I", Cond.fieldLink RX2 24 "FireNets$Course" "bad" "Z", Cond.fieldLink RX2 28 "FireNets$Course" "over" "Z", Cond.fieldLink RX2 31 "FireNets$Course" "money" "I", Cond.methodLink RX6 240 yX2_ended, Cond.instanceMethod yX2_ended, Cond.selects RX2 yX2_ended yX2_ended, Cond.code yX2_ended cX2_ended 1 (some .boolean), Cond.methodLink RX6 244 yX2_openTick, Cond.instanceMethod yX2_openTick, Cond.selects RX2 yX2_openTick yX2_openTick, Cond.code yX2_openTick cX2_openTick 2 none]
def wsX6_runPlan_r2 : List Cond := [Cond.methodLink RX2 34 yX4_money, Cond.instanceMethod yX4_money, Cond.selects RX4 yX4_money yX4_money, Cond.initialized RX4, Cond.code yX4_money cX4_money 4 (some .int), Cond.methodLink RX4 31 Lib.Math.min.name, Cond.static Lib.Math.min.name, Cond.initialized "java/lang/Math", Cond.code Lib.Math.min.name Lib.Math.min.code 2 (some .int), Cond.methodLink RX4 37 Lib.Math.max.name, Cond.static Lib.Math.max.name, Cond.code Lib.Math.max.name Lib.Math.max.code 2 (some .int), Cond.fieldLink RX4 9 "FireNets$Purses" "own" "[I", Cond.fieldLink RX4 27 "FireNets$Purses" "keeping" "I", Cond.methodLink RX6 248 yX2_putSet, Cond.instanceMethod yX2_putSet, Cond.selects RX2 yX2_putSet yX2_putSet, Cond.code yX2_putSet cX2_putSet 3 none, Cond.methodLink RX2 39 yX3_isLawful, Cond.instanceMethod yX3_isLawful, Cond.selects RX3 yX3_isLawful yX3_isLawful, Cond.initialized RX3, Cond.code yX3_isLawful cX3_isLawful 6 (some .boolean), Cond.methodLink RX3 45 yX3_all]
def wsX6_runPlan_r3 : List Cond := [Cond.instanceMethod yX3_all, Cond.selects RX3 yX3_all yX3_all, Cond.code yX3_all cX3_all 1 (some .int), Cond.fieldLink RX3 28 "FireNets$Net" "nodes" "I", Cond.methodLink RX3 68 yX3_priceOf, Cond.instanceMethod yX3_priceOf, Cond.selects RX3 yX3_priceOf yX3_priceOf, Cond.code yX3_priceOf cX3_priceOf 2 (some .int), Cond.fieldLink RX3 15 "FireNets$Net" "price" "[I", Cond.methodLink RX3 61 yX3_sumOver, Cond.static yX3_sumOver, Cond.code yX3_sumOver cX3_sumOver 4 (some .int), Cond.methodLink RX2 45 yX3_priceOf, Cond.methodLink RX2 49 yX2_pay, Cond.instanceMethod yX2_pay, Cond.selects RX2 yX2_pay yX2_pay, Cond.code yX2_pay cX2_pay 3 none, Cond.methodLink RX6 252 yX2_spread, Cond.instanceMethod yX2_spread, Cond.selects RX2 yX2_spread yX2_spread, Cond.code yX2_spread cX2_spread 3 none, Cond.methodLink RX2 57 yX3_threatened, Cond.instanceMethod yX3_threatened, Cond.selects RX3 yX3_threatened yX3_threatened]
def wsX6_runPlan_r4 : List Cond := [Cond.code yX3_threatened cX3_threatened 5 (some .int), Cond.fieldLink RX3 18 "FireNets$Net" "near" "[I", Cond.static yX6_holds, Cond.initialized RX6, Cond.code yX6_holds cX6_holds 2 (some .boolean)]
def wsX6_runPlan : List Cond := .code yX6_runPlan cX6_runPlan 4 none :: ((wsX6_runPlan_r1 ++ (wsX6_runPlan_r2 ++ (wsX6_runPlan_r3 ++ wsX6_runPlan_r4))) ++ wsX60 ++ wsX20 ++ wsX40 ++ wsX30)
def wsX6_play_r1 : List Cond := [Cond.fieldLink RX6 10 "FireNets" "theNet" "LFireNets$Net;", Cond.fieldLink RX6 30 "FireNets" "theCourse" "LFireNets$Course;", Cond.fieldLink RX6 128 "FireNets$Course" "bad" "Z", Cond.fieldLink RX6 132 "FireNets$Course" "burning" "I", Cond.fieldLink RX6 138 "FireNets$Course" "guards" "I", Cond.fieldLink RX6 141 "FireNets$Course" "tick" "I", Cond.fieldLink RX6 144 "FireNets$Course" "cost" "I", Cond.methodLink RX6 121 yX3_isStart, Cond.instanceMethod yX3_isStart, Cond.selects RX3 yX3_isStart yX3_isStart, Cond.initialized RX3, Cond.code yX3_isStart cX3_isStart 2 (some .boolean), Cond.methodLink RX3 45 yX3_all, Cond.instanceMethod yX3_all, Cond.selects RX3 yX3_all yX3_all, Cond.code yX3_all cX3_all 1 (some .int), Cond.fieldLink RX3 28 "FireNets$Net" "nodes" "I", Cond.static yX6_within, Cond.initialized RX6, Cond.code yX6_within cX6_within 3 (some .boolean), Cond.methodLink RX6 59 yX6_within, Cond.methodLink RX6 124 yX6_runPlan, Cond.instanceMethod yX6_runPlan, Cond.selects RX6 yX6_runPlan yX6_runPlan]
def wsX6_play_r2 : List Cond := [Cond.code yX6_runPlan cX6_runPlan 4 none, Cond.fieldLink RX6 19 "FireNets" "thePurses" "LFireNets$Purses;", Cond.fieldLink RX6 23 "FireNets" "thePlan" "[I", Cond.methodLink RX6 237 yX2_begin, Cond.instanceMethod yX2_begin, Cond.selects RX2 yX2_begin yX2_begin, Cond.initialized RX2, Cond.code yX2_begin cX2_begin 2 none, Cond.fieldLink RX2 9 "FireNets$Course" "burning" "I", Cond.fieldLink RX2 15 "FireNets$Course" "guards" "I", Cond.fieldLink RX2 18 "FireNets$Course" "tick" "I", Cond.fieldLink RX2 21 "FireNets$Course" "cost" "I", Cond.fieldLink RX2 24 "FireNets$Course" "bad" "Z", Cond.fieldLink RX2 28 "FireNets$Course" "over" "Z", Cond.fieldLink RX2 31 "FireNets$Course" "money" "I", Cond.methodLink RX6 240 yX2_ended, Cond.instanceMethod yX2_ended, Cond.selects RX2 yX2_ended yX2_ended, Cond.code yX2_ended cX2_ended 1 (some .boolean), Cond.methodLink RX6 244 yX2_openTick, Cond.instanceMethod yX2_openTick, Cond.selects RX2 yX2_openTick yX2_openTick, Cond.code yX2_openTick cX2_openTick 2 none, Cond.methodLink RX2 34 yX4_money]
def wsX6_play_r3 : List Cond := [Cond.instanceMethod yX4_money, Cond.selects RX4 yX4_money yX4_money, Cond.initialized RX4, Cond.code yX4_money cX4_money 4 (some .int), Cond.methodLink RX4 31 Lib.Math.min.name, Cond.static Lib.Math.min.name, Cond.initialized "java/lang/Math", Cond.code Lib.Math.min.name Lib.Math.min.code 2 (some .int), Cond.methodLink RX4 37 Lib.Math.max.name, Cond.static Lib.Math.max.name, Cond.code Lib.Math.max.name Lib.Math.max.code 2 (some .int), Cond.fieldLink RX4 9 "FireNets$Purses" "own" "[I", Cond.fieldLink RX4 27 "FireNets$Purses" "keeping" "I", Cond.methodLink RX6 248 yX2_putSet, Cond.instanceMethod yX2_putSet, Cond.selects RX2 yX2_putSet yX2_putSet, Cond.code yX2_putSet cX2_putSet 3 none, Cond.methodLink RX2 39 yX3_isLawful, Cond.instanceMethod yX3_isLawful, Cond.selects RX3 yX3_isLawful yX3_isLawful, Cond.code yX3_isLawful cX3_isLawful 6 (some .boolean), Cond.methodLink RX3 68 yX3_priceOf, Cond.instanceMethod yX3_priceOf, Cond.selects RX3 yX3_priceOf yX3_priceOf]
def wsX6_play_r4 : List Cond := [Cond.code yX3_priceOf cX3_priceOf 2 (some .int), Cond.fieldLink RX3 15 "FireNets$Net" "price" "[I", Cond.methodLink RX3 61 yX3_sumOver, Cond.static yX3_sumOver, Cond.code yX3_sumOver cX3_sumOver 4 (some .int), Cond.methodLink RX2 45 yX3_priceOf, Cond.methodLink RX2 49 yX2_pay, Cond.instanceMethod yX2_pay, Cond.selects RX2 yX2_pay yX2_pay, Cond.code yX2_pay cX2_pay 3 none, Cond.methodLink RX6 252 yX2_spread, Cond.instanceMethod yX2_spread, Cond.selects RX2 yX2_spread yX2_spread, Cond.code yX2_spread cX2_spread 3 none, Cond.methodLink RX2 57 yX3_threatened, Cond.instanceMethod yX3_threatened, Cond.selects RX3 yX3_threatened yX3_threatened, Cond.code yX3_threatened cX3_threatened 5 (some .int), Cond.fieldLink RX3 18 "FireNets$Net" "near" "[I", Cond.static yX6_holds, Cond.code yX6_holds cX6_holds 2 (some .boolean), Cond.methodLink RX6 135 yX3_savedFrom, Cond.instanceMethod yX3_savedFrom, Cond.selects RX3 yX3_savedFrom yX3_savedFrom]
def wsX6_play_r5 : List Cond := [Cond.code yX3_savedFrom cX3_savedFrom 2 (some .int), Cond.methodLink RX3 65 yX3_worthOf, Cond.instanceMethod yX3_worthOf, Cond.selects RX3 yX3_worthOf yX3_worthOf, Cond.code yX3_worthOf cX3_worthOf 2 (some .int), Cond.fieldLink RX3 9 "FireNets$Net" "worth" "[I"]
def wsX6_play : List Cond := .code yX6_play cX6_play 3 (some .int) :: ((wsX6_play_r1 ++ (wsX6_play_r2 ++ (wsX6_play_r3 ++ (wsX6_play_r4 ++ wsX6_play_r5)))) ++ wsX60 ++ wsX20 ++ wsX30 ++ wsX40)
def wsX6_burns_r1 : List Cond := [Cond.fieldLink RX6 10 "FireNets" "theNet" "LFireNets$Net;", Cond.fieldLink RX6 30 "FireNets" "theCourse" "LFireNets$Course;", Cond.fieldLink RX6 132 "FireNets$Course" "burning" "I", Cond.methodLink RX6 121 yX3_isStart, Cond.instanceMethod yX3_isStart, Cond.selects RX3 yX3_isStart yX3_isStart, Cond.initialized RX3, Cond.code yX3_isStart cX3_isStart 2 (some .boolean), Cond.methodLink RX3 45 yX3_all, Cond.instanceMethod yX3_all, Cond.selects RX3 yX3_all yX3_all, Cond.code yX3_all cX3_all 1 (some .int), Cond.fieldLink RX3 28 "FireNets$Net" "nodes" "I", Cond.static yX6_within, Cond.initialized RX6, Cond.code yX6_within cX6_within 3 (some .boolean), Cond.methodLink RX6 59 yX6_within, Cond.methodLink RX6 124 yX6_runPlan, Cond.instanceMethod yX6_runPlan, Cond.selects RX6 yX6_runPlan yX6_runPlan, Cond.code yX6_runPlan cX6_runPlan 4 none, Cond.fieldLink RX6 19 "FireNets" "thePurses" "LFireNets$Purses;", Cond.fieldLink RX6 23 "FireNets" "thePlan" "[I", Cond.methodLink RX6 237 yX2_begin]
def wsX6_burns_r2 : List Cond := [Cond.instanceMethod yX2_begin, Cond.selects RX2 yX2_begin yX2_begin, Cond.initialized RX2, Cond.code yX2_begin cX2_begin 2 none, Cond.fieldLink RX2 9 "FireNets$Course" "burning" "I", Cond.fieldLink RX2 15 "FireNets$Course" "guards" "I", Cond.fieldLink RX2 18 "FireNets$Course" "tick" "I", Cond.fieldLink RX2 21 "FireNets$Course" "cost" "I", Cond.fieldLink RX2 24 "FireNets$Course" "bad" "Z", Cond.fieldLink RX2 28 "FireNets$Course" "over" "Z", Cond.fieldLink RX2 31 "FireNets$Course" "money" "I", Cond.methodLink RX6 240 yX2_ended, Cond.instanceMethod yX2_ended, Cond.selects RX2 yX2_ended yX2_ended, Cond.code yX2_ended cX2_ended 1 (some .boolean), Cond.methodLink RX6 244 yX2_openTick, Cond.instanceMethod yX2_openTick, Cond.selects RX2 yX2_openTick yX2_openTick, Cond.code yX2_openTick cX2_openTick 2 none, Cond.methodLink RX2 34 yX4_money, Cond.instanceMethod yX4_money, Cond.selects RX4 yX4_money yX4_money, Cond.initialized RX4, Cond.code yX4_money cX4_money 4 (some .int)]
def wsX6_burns_r3 : List Cond := [Cond.methodLink RX4 31 Lib.Math.min.name, Cond.static Lib.Math.min.name, Cond.initialized "java/lang/Math", Cond.code Lib.Math.min.name Lib.Math.min.code 2 (some .int), Cond.methodLink RX4 37 Lib.Math.max.name, Cond.static Lib.Math.max.name, Cond.code Lib.Math.max.name Lib.Math.max.code 2 (some .int), Cond.fieldLink RX4 9 "FireNets$Purses" "own" "[I", Cond.fieldLink RX4 27 "FireNets$Purses" "keeping" "I", Cond.methodLink RX6 248 yX2_putSet, Cond.instanceMethod yX2_putSet, Cond.selects RX2 yX2_putSet yX2_putSet, Cond.code yX2_putSet cX2_putSet 3 none, Cond.methodLink RX2 39 yX3_isLawful, Cond.instanceMethod yX3_isLawful, Cond.selects RX3 yX3_isLawful yX3_isLawful, Cond.code yX3_isLawful cX3_isLawful 6 (some .boolean), Cond.methodLink RX3 68 yX3_priceOf, Cond.instanceMethod yX3_priceOf, Cond.selects RX3 yX3_priceOf yX3_priceOf, Cond.code yX3_priceOf cX3_priceOf 2 (some .int), Cond.fieldLink RX3 15 "FireNets$Net" "price" "[I", Cond.methodLink RX3 61 yX3_sumOver, Cond.static yX3_sumOver]
def wsX6_burns_r4 : List Cond := [Cond.code yX3_sumOver cX3_sumOver 4 (some .int), Cond.methodLink RX2 45 yX3_priceOf, Cond.methodLink RX2 49 yX2_pay, Cond.instanceMethod yX2_pay, Cond.selects RX2 yX2_pay yX2_pay, Cond.code yX2_pay cX2_pay 3 none, Cond.methodLink RX6 252 yX2_spread, Cond.instanceMethod yX2_spread, Cond.selects RX2 yX2_spread yX2_spread, Cond.code yX2_spread cX2_spread 3 none, Cond.methodLink RX2 57 yX3_threatened, Cond.instanceMethod yX3_threatened, Cond.selects RX3 yX3_threatened yX3_threatened, Cond.code yX3_threatened cX3_threatened 5 (some .int), Cond.fieldLink RX3 18 "FireNets$Net" "near" "[I", Cond.static yX6_holds, Cond.code yX6_holds cX6_holds 2 (some .boolean)]
def wsX6_burns : List Cond := .code yX6_burns cX6_burns 3 (some .int) :: ((wsX6_burns_r1 ++ (wsX6_burns_r2 ++ (wsX6_burns_r3 ++ wsX6_burns_r4))) ++ wsX60 ++ wsX20 ++ wsX30 ++ wsX40)
def wsX6_seekBest_r1 : List Cond := [Cond.fieldLink RX6 37 "FireNets" "theSearch" "LFireNets$Search;", Cond.fieldLink RX6 165 "FireNets$Search" "purses" "LFireNets$Purses;", Cond.fieldLink RX6 19 "FireNets" "thePurses" "LFireNets$Purses;", Cond.fieldLink RX6 10 "FireNets" "theNet" "LFireNets$Net;", Cond.fieldLink RX6 55 "FireNets" "bound" "I", Cond.methodLink RX6 259 yX4_copy, Cond.instanceMethod yX4_copy, Cond.selects RX4 yX4_copy yX4_copy, Cond.initialized RX4, Cond.code yX4_copy cX4_copy 2 none, Cond.fieldLink RX4 9 "FireNets$Purses" "own" "[I", Cond.methodLink RX4 21 arraycopyName, Cond.native arraycopyName, Cond.static arraycopyName, Cond.initialized "java/lang/System", Cond.fieldLink RX4 27 "FireNets$Purses" "keeping" "I", Cond.methodLink RX6 168 yX5_run, Cond.instanceMethod yX5_run, Cond.selects RX5 yX5_run yX5_run, Cond.initialized RX5, Cond.code yX5_run cX5_run 4 none, Cond.fieldLink RX5 29 "FireNets$Search" "bound" "I", Cond.fieldLink RX5 33 "FireNets$Search" "looks" "I", Cond.fieldLink RX5 36 "FireNets$Search" "spent" "Z"]
def wsX6_seekBest_r2 : List Cond := [Cond.fieldLink RX5 40 "FireNets$Search" "saved" "I", Cond.fieldLink RX5 12 "FireNets$Search" "purses" "LFireNets$Purses;", Cond.methodLink RX5 43 yX4_money, Cond.instanceMethod yX4_money, Cond.selects RX4 yX4_money yX4_money, Cond.code yX4_money cX4_money 4 (some .int), Cond.methodLink RX4 31 Lib.Math.min.name, Cond.static Lib.Math.min.name, Cond.initialized "java/lang/Math", Cond.code Lib.Math.min.name Lib.Math.min.code 2 (some .int), Cond.methodLink RX4 37 Lib.Math.max.name, Cond.static Lib.Math.max.name, Cond.code Lib.Math.max.name Lib.Math.max.code 2 (some .int), Cond.methodLink RX5 47 yX5_seek, Cond.instanceMethod yX5_seek, Cond.selects RX5 yX5_seek yX5_seek, Cond.code yX5_seek cX5_seek 10 none, Cond.methodLink RX5 51 yX3_all, Cond.instanceMethod yX3_all, Cond.selects RX3 yX3_all yX3_all, Cond.initialized RX3, Cond.code yX3_all cX3_all 1 (some .int), Cond.fieldLink RX3 28 "FireNets$Net" "nodes" "I", Cond.methodLink RX5 57 yX3_priceOf]
def wsX6_seekBest_r3 : List Cond := [Cond.instanceMethod yX3_priceOf, Cond.selects RX3 yX3_priceOf yX3_priceOf, Cond.code yX3_priceOf cX3_priceOf 2 (some .int), Cond.fieldLink RX3 15 "FireNets$Net" "price" "[I", Cond.methodLink RX3 61 yX3_sumOver, Cond.static yX3_sumOver, Cond.code yX3_sumOver cX3_sumOver 4 (some .int), Cond.methodLink RX5 61 yX5_look, Cond.instanceMethod yX5_look, Cond.selects RX5 yX5_look yX5_look, Cond.methodLink RX5 65 yX5_lastAbove, Cond.static yX5_lastAbove, Cond.code yX5_lastAbove cX5_lastAbove 1 (some .int), Cond.methodLink RX5 68 yX5_nextWithin, Cond.static yX5_nextWithin, Cond.code yX5_nextWithin cX5_nextWithin 2 (some .int), Cond.code yX5_look cX5_look 9 none, Cond.fieldLink RX5 18 "FireNets$Search" "way" "[I", Cond.static yX6_within, Cond.initialized RX6, Cond.code yX6_within cX6_within 3 (some .boolean), Cond.methodLink RX5 71 yX3_threatened, Cond.instanceMethod yX3_threatened, Cond.selects RX3 yX3_threatened yX3_threatened]
def wsX6_seekBest_r4 : List Cond := [Cond.code yX3_threatened cX3_threatened 5 (some .int), Cond.fieldLink RX3 18 "FireNets$Net" "near" "[I", Cond.static yX6_holds, Cond.code yX6_holds cX6_holds 2 (some .boolean), Cond.methodLink RX5 74 yX5_judge, Cond.instanceMethod yX5_judge, Cond.selects RX5 yX5_judge yX5_judge, Cond.code yX5_judge cX5_judge 10 none, Cond.fieldLink RX5 81 "FireNets$Search" "over" "I", Cond.fieldLink RX5 22 "FireNets$Search" "kept" "[I", Cond.methodLink RX5 78 yX3_savedFrom, Cond.instanceMethod yX3_savedFrom, Cond.selects RX3 yX3_savedFrom yX3_savedFrom, Cond.code yX3_savedFrom cX3_savedFrom 2 (some .int), Cond.methodLink RX3 45 yX3_all, Cond.methodLink RX3 65 yX3_worthOf, Cond.instanceMethod yX3_worthOf, Cond.selects RX3 yX3_worthOf yX3_worthOf, Cond.code yX3_worthOf cX3_worthOf 2 (some .int), Cond.fieldLink RX3 9 "FireNets$Net" "worth" "[I"]
def wsX6_seekBest : List Cond := .code yX6_seekBest cX6_seekBest 2 none :: ((wsX6_seekBest_r1 ++ (wsX6_seekBest_r2 ++ (wsX6_seekBest_r3 ++ wsX6_seekBest_r4))) ++ wsX60 ++ wsX50 ++ wsX40 ++ wsX30)
def wsX6_best_r1 : List Cond := [Cond.fieldLink RX6 10 "FireNets" "theNet" "LFireNets$Net;", Cond.fieldLink RX6 37 "FireNets" "theSearch" "LFireNets$Search;", Cond.fieldLink RX6 150 "FireNets$Search" "saved" "I", Cond.fieldLink RX6 153 "FireNets$Search" "looks" "I", Cond.fieldLink RX6 156 "FireNets$Search" "spent" "Z", Cond.fieldLink RX6 159 "FireNets$Search" "over" "I", Cond.methodLink RX6 121 yX3_isStart, Cond.instanceMethod yX3_isStart, Cond.selects RX3 yX3_isStart yX3_isStart, Cond.initialized RX3, Cond.code yX3_isStart cX3_isStart 2 (some .boolean), Cond.methodLink RX3 45 yX3_all, Cond.instanceMethod yX3_all, Cond.selects RX3 yX3_all yX3_all, Cond.code yX3_all cX3_all 1 (some .int), Cond.fieldLink RX3 28 "FireNets$Net" "nodes" "I", Cond.static yX6_within, Cond.initialized RX6, Cond.code yX6_within cX6_within 3 (some .boolean), Cond.methodLink RX6 59 yX6_within, Cond.methodLink RX6 147 yX6_seekBest, Cond.instanceMethod yX6_seekBest, Cond.selects RX6 yX6_seekBest yX6_seekBest, Cond.code yX6_seekBest cX6_seekBest 2 none]
def wsX6_best_r2 : List Cond := [Cond.fieldLink RX6 165 "FireNets$Search" "purses" "LFireNets$Purses;", Cond.fieldLink RX6 19 "FireNets" "thePurses" "LFireNets$Purses;", Cond.fieldLink RX6 55 "FireNets" "bound" "I", Cond.methodLink RX6 259 yX4_copy, Cond.instanceMethod yX4_copy, Cond.selects RX4 yX4_copy yX4_copy, Cond.initialized RX4, Cond.code yX4_copy cX4_copy 2 none, Cond.fieldLink RX4 9 "FireNets$Purses" "own" "[I", Cond.methodLink RX4 21 arraycopyName, Cond.native arraycopyName, Cond.static arraycopyName, Cond.initialized "java/lang/System", Cond.fieldLink RX4 27 "FireNets$Purses" "keeping" "I", Cond.methodLink RX6 168 yX5_run, Cond.instanceMethod yX5_run, Cond.selects RX5 yX5_run yX5_run, Cond.initialized RX5, Cond.code yX5_run cX5_run 4 none, Cond.fieldLink RX5 29 "FireNets$Search" "bound" "I", Cond.fieldLink RX5 33 "FireNets$Search" "looks" "I", Cond.fieldLink RX5 36 "FireNets$Search" "spent" "Z", Cond.fieldLink RX5 40 "FireNets$Search" "saved" "I", Cond.fieldLink RX5 12 "FireNets$Search" "purses" "LFireNets$Purses;"]
def wsX6_best_r3 : List Cond := [Cond.methodLink RX5 43 yX4_money, Cond.instanceMethod yX4_money, Cond.selects RX4 yX4_money yX4_money, Cond.code yX4_money cX4_money 4 (some .int), Cond.methodLink RX4 31 Lib.Math.min.name, Cond.static Lib.Math.min.name, Cond.initialized "java/lang/Math", Cond.code Lib.Math.min.name Lib.Math.min.code 2 (some .int), Cond.methodLink RX4 37 Lib.Math.max.name, Cond.static Lib.Math.max.name, Cond.code Lib.Math.max.name Lib.Math.max.code 2 (some .int), Cond.methodLink RX5 47 yX5_seek, Cond.instanceMethod yX5_seek, Cond.selects RX5 yX5_seek yX5_seek, Cond.code yX5_seek cX5_seek 10 none, Cond.methodLink RX5 51 yX3_all, Cond.methodLink RX5 57 yX3_priceOf, Cond.instanceMethod yX3_priceOf, Cond.selects RX3 yX3_priceOf yX3_priceOf, Cond.code yX3_priceOf cX3_priceOf 2 (some .int), Cond.fieldLink RX3 15 "FireNets$Net" "price" "[I", Cond.methodLink RX3 61 yX3_sumOver, Cond.static yX3_sumOver, Cond.code yX3_sumOver cX3_sumOver 4 (some .int)]
def wsX6_best_r4 : List Cond := [Cond.methodLink RX5 61 yX5_look, Cond.instanceMethod yX5_look, Cond.selects RX5 yX5_look yX5_look, Cond.methodLink RX5 65 yX5_lastAbove, Cond.static yX5_lastAbove, Cond.code yX5_lastAbove cX5_lastAbove 1 (some .int), Cond.methodLink RX5 68 yX5_nextWithin, Cond.static yX5_nextWithin, Cond.code yX5_nextWithin cX5_nextWithin 2 (some .int), Cond.code yX5_look cX5_look 9 none, Cond.fieldLink RX5 18 "FireNets$Search" "way" "[I", Cond.methodLink RX5 71 yX3_threatened, Cond.instanceMethod yX3_threatened, Cond.selects RX3 yX3_threatened yX3_threatened, Cond.code yX3_threatened cX3_threatened 5 (some .int), Cond.fieldLink RX3 18 "FireNets$Net" "near" "[I", Cond.static yX6_holds, Cond.code yX6_holds cX6_holds 2 (some .boolean), Cond.methodLink RX5 74 yX5_judge, Cond.instanceMethod yX5_judge, Cond.selects RX5 yX5_judge yX5_judge, Cond.code yX5_judge cX5_judge 10 none, Cond.fieldLink RX5 81 "FireNets$Search" "over" "I", Cond.fieldLink RX5 22 "FireNets$Search" "kept" "[I"]
def wsX6_best_r5 : List Cond := [Cond.methodLink RX5 78 yX3_savedFrom, Cond.instanceMethod yX3_savedFrom, Cond.selects RX3 yX3_savedFrom yX3_savedFrom, Cond.code yX3_savedFrom cX3_savedFrom 2 (some .int), Cond.methodLink RX3 65 yX3_worthOf, Cond.instanceMethod yX3_worthOf, Cond.selects RX3 yX3_worthOf yX3_worthOf, Cond.code yX3_worthOf cX3_worthOf 2 (some .int), Cond.fieldLink RX3 9 "FireNets$Net" "worth" "[I", Cond.methodLink RX6 162 yX5_chosen, Cond.instanceMethod yX5_chosen, Cond.selects RX5 yX5_chosen yX5_chosen, Cond.code yX5_chosen cX5_chosen 2 (some .int)]
def wsX6_best : List Cond := .code yX6_best cX6_best 3 (some .int) :: ((wsX6_best_r1 ++ (wsX6_best_r2 ++ (wsX6_best_r3 ++ (wsX6_best_r4 ++ wsX6_best_r5)))) ++ wsX60 ++ wsX50 ++ wsX30 ++ wsX40)
def wsX6_take_r1 : List Cond := [Cond.fieldLink RX6 10 "FireNets" "theNet" "LFireNets$Net;", Cond.fieldLink RX6 23 "FireNets" "thePlan" "[I", Cond.fieldLink RX6 37 "FireNets" "theSearch" "LFireNets$Search;", Cond.fieldLink RX6 150 "FireNets$Search" "saved" "I", Cond.methodLink RX6 121 yX3_isStart, Cond.instanceMethod yX3_isStart, Cond.selects RX3 yX3_isStart yX3_isStart, Cond.initialized RX3, Cond.code yX3_isStart cX3_isStart 2 (some .boolean), Cond.methodLink RX3 45 yX3_all, Cond.instanceMethod yX3_all, Cond.selects RX3 yX3_all yX3_all, Cond.code yX3_all cX3_all 1 (some .int), Cond.fieldLink RX3 28 "FireNets$Net" "nodes" "I", Cond.static yX6_within, Cond.initialized RX6, Cond.code yX6_within cX6_within 3 (some .boolean), Cond.methodLink RX6 147 yX6_seekBest, Cond.instanceMethod yX6_seekBest, Cond.selects RX6 yX6_seekBest yX6_seekBest, Cond.code yX6_seekBest cX6_seekBest 2 none, Cond.fieldLink RX6 165 "FireNets$Search" "purses" "LFireNets$Purses;", Cond.fieldLink RX6 19 "FireNets" "thePurses" "LFireNets$Purses;", Cond.fieldLink RX6 55 "FireNets" "bound" "I"]
def wsX6_take_r2 : List Cond := [Cond.methodLink RX6 259 yX4_copy, Cond.instanceMethod yX4_copy, Cond.selects RX4 yX4_copy yX4_copy, Cond.initialized RX4, Cond.code yX4_copy cX4_copy 2 none, Cond.fieldLink RX4 9 "FireNets$Purses" "own" "[I", Cond.methodLink RX4 21 arraycopyName, Cond.native arraycopyName, Cond.static arraycopyName, Cond.initialized "java/lang/System", Cond.fieldLink RX4 27 "FireNets$Purses" "keeping" "I", Cond.methodLink RX6 168 yX5_run, Cond.instanceMethod yX5_run, Cond.selects RX5 yX5_run yX5_run, Cond.initialized RX5, Cond.code yX5_run cX5_run 4 none, Cond.fieldLink RX5 29 "FireNets$Search" "bound" "I", Cond.fieldLink RX5 33 "FireNets$Search" "looks" "I", Cond.fieldLink RX5 36 "FireNets$Search" "spent" "Z", Cond.fieldLink RX5 40 "FireNets$Search" "saved" "I", Cond.fieldLink RX5 12 "FireNets$Search" "purses" "LFireNets$Purses;", Cond.methodLink RX5 43 yX4_money, Cond.instanceMethod yX4_money, Cond.selects RX4 yX4_money yX4_money]
def wsX6_take_r3 : List Cond := [Cond.code yX4_money cX4_money 4 (some .int), Cond.methodLink RX4 31 Lib.Math.min.name, Cond.static Lib.Math.min.name, Cond.initialized "java/lang/Math", Cond.code Lib.Math.min.name Lib.Math.min.code 2 (some .int), Cond.methodLink RX4 37 Lib.Math.max.name, Cond.static Lib.Math.max.name, Cond.code Lib.Math.max.name Lib.Math.max.code 2 (some .int), Cond.methodLink RX5 47 yX5_seek, Cond.instanceMethod yX5_seek, Cond.selects RX5 yX5_seek yX5_seek, Cond.code yX5_seek cX5_seek 10 none, Cond.methodLink RX5 51 yX3_all, Cond.methodLink RX5 57 yX3_priceOf, Cond.instanceMethod yX3_priceOf, Cond.selects RX3 yX3_priceOf yX3_priceOf, Cond.code yX3_priceOf cX3_priceOf 2 (some .int), Cond.fieldLink RX3 15 "FireNets$Net" "price" "[I", Cond.methodLink RX3 61 yX3_sumOver, Cond.static yX3_sumOver, Cond.code yX3_sumOver cX3_sumOver 4 (some .int), Cond.methodLink RX5 61 yX5_look, Cond.instanceMethod yX5_look, Cond.selects RX5 yX5_look yX5_look]
def wsX6_take_r4 : List Cond := [Cond.methodLink RX5 65 yX5_lastAbove, Cond.static yX5_lastAbove, Cond.code yX5_lastAbove cX5_lastAbove 1 (some .int), Cond.methodLink RX5 68 yX5_nextWithin, Cond.static yX5_nextWithin, Cond.code yX5_nextWithin cX5_nextWithin 2 (some .int), Cond.code yX5_look cX5_look 9 none, Cond.fieldLink RX5 18 "FireNets$Search" "way" "[I", Cond.methodLink RX5 71 yX3_threatened, Cond.instanceMethod yX3_threatened, Cond.selects RX3 yX3_threatened yX3_threatened, Cond.code yX3_threatened cX3_threatened 5 (some .int), Cond.fieldLink RX3 18 "FireNets$Net" "near" "[I", Cond.static yX6_holds, Cond.code yX6_holds cX6_holds 2 (some .boolean), Cond.methodLink RX5 74 yX5_judge, Cond.instanceMethod yX5_judge, Cond.selects RX5 yX5_judge yX5_judge, Cond.code yX5_judge cX5_judge 10 none, Cond.fieldLink RX5 81 "FireNets$Search" "over" "I", Cond.fieldLink RX5 22 "FireNets$Search" "kept" "[I", Cond.methodLink RX5 78 yX3_savedFrom, Cond.instanceMethod yX3_savedFrom, Cond.selects RX3 yX3_savedFrom yX3_savedFrom]
def wsX6_take_r5 : List Cond := [Cond.code yX3_savedFrom cX3_savedFrom 2 (some .int), Cond.methodLink RX3 65 yX3_worthOf, Cond.instanceMethod yX3_worthOf, Cond.selects RX3 yX3_worthOf yX3_worthOf, Cond.code yX3_worthOf cX3_worthOf 2 (some .int), Cond.fieldLink RX3 9 "FireNets$Net" "worth" "[I", Cond.methodLink RX6 162 yX5_chosen, Cond.instanceMethod yX5_chosen, Cond.selects RX5 yX5_chosen yX5_chosen, Cond.code yX5_chosen cX5_chosen 2 (some .int)]
def wsX6_take : List Cond := .code yX6_take cX6_take 3 (some .int) :: ((wsX6_take_r1 ++ (wsX6_take_r2 ++ (wsX6_take_r3 ++ (wsX6_take_r4 ++ wsX6_take_r5)))) ++ wsX60 ++ wsX50 ++ wsX30 ++ wsX40)
def wsX6_least_r1 : List Cond := [Cond.fieldLink RX6 10 "FireNets" "theNet" "LFireNets$Net;", Cond.fieldLink RX6 37 "FireNets" "theSearch" "LFireNets$Search;", Cond.fieldLink RX6 165 "FireNets$Search" "purses" "LFireNets$Purses;", Cond.fieldLink RX6 19 "FireNets" "thePurses" "LFireNets$Purses;", Cond.fieldLink RX6 101 "FireNets$Purses" "keeping" "I", Cond.fieldLink RX6 98 "FireNets$Purses" "own" "[I", Cond.fieldLink RX6 55 "FireNets" "bound" "I", Cond.fieldLink RX6 150 "FireNets$Search" "saved" "I", Cond.methodLink RX6 121 yX3_isStart, Cond.instanceMethod yX3_isStart, Cond.selects RX3 yX3_isStart yX3_isStart, Cond.initialized RX3, Cond.code yX3_isStart cX3_isStart 2 (some .boolean), Cond.methodLink RX3 45 yX3_all, Cond.instanceMethod yX3_all, Cond.selects RX3 yX3_all yX3_all, Cond.code yX3_all cX3_all 1 (some .int), Cond.fieldLink RX3 28 "FireNets$Net" "nodes" "I", Cond.static yX6_within, Cond.initialized RX6, Cond.code yX6_within cX6_within 3 (some .boolean), Cond.methodLink RX6 59 yX6_within, Cond.methodLink RX6 67 yJ7_fill_53178, Cond.static yJ7_fill_53178]
def wsX6_least_r2 : List Cond := [Cond.initialized RJ7, Cond.code yJ7_fill_53178 cJ7_fill_53178 4 none, Cond.methodLink RX6 168 yX5_run, Cond.instanceMethod yX5_run, Cond.selects RX5 yX5_run yX5_run, Cond.initialized RX5, Cond.code yX5_run cX5_run 4 none, Cond.fieldLink RX5 29 "FireNets$Search" "bound" "I", Cond.fieldLink RX5 33 "FireNets$Search" "looks" "I", Cond.fieldLink RX5 36 "FireNets$Search" "spent" "Z", Cond.fieldLink RX5 40 "FireNets$Search" "saved" "I", Cond.fieldLink RX5 12 "FireNets$Search" "purses" "LFireNets$Purses;", Cond.methodLink RX5 43 yX4_money, Cond.instanceMethod yX4_money, Cond.selects RX4 yX4_money yX4_money, Cond.initialized RX4, Cond.code yX4_money cX4_money 4 (some .int), Cond.methodLink RX4 31 Lib.Math.min.name, Cond.static Lib.Math.min.name, Cond.initialized "java/lang/Math", Cond.code Lib.Math.min.name Lib.Math.min.code 2 (some .int), Cond.methodLink RX4 37 Lib.Math.max.name, Cond.static Lib.Math.max.name, Cond.code Lib.Math.max.name Lib.Math.max.code 2 (some .int)]
def wsX6_least_r3 : List Cond := [Cond.fieldLink RX4 9 "FireNets$Purses" "own" "[I", Cond.fieldLink RX4 27 "FireNets$Purses" "keeping" "I", Cond.methodLink RX5 47 yX5_seek, Cond.instanceMethod yX5_seek, Cond.selects RX5 yX5_seek yX5_seek, Cond.code yX5_seek cX5_seek 10 none, Cond.methodLink RX5 51 yX3_all, Cond.methodLink RX5 57 yX3_priceOf, Cond.instanceMethod yX3_priceOf, Cond.selects RX3 yX3_priceOf yX3_priceOf, Cond.code yX3_priceOf cX3_priceOf 2 (some .int), Cond.fieldLink RX3 15 "FireNets$Net" "price" "[I", Cond.methodLink RX3 61 yX3_sumOver, Cond.static yX3_sumOver, Cond.code yX3_sumOver cX3_sumOver 4 (some .int), Cond.methodLink RX5 61 yX5_look, Cond.instanceMethod yX5_look, Cond.selects RX5 yX5_look yX5_look, Cond.methodLink RX5 65 yX5_lastAbove, Cond.static yX5_lastAbove, Cond.code yX5_lastAbove cX5_lastAbove 1 (some .int), Cond.methodLink RX5 68 yX5_nextWithin, Cond.static yX5_nextWithin, Cond.code yX5_nextWithin cX5_nextWithin 2 (some .int)]
def wsX6_least_r4 : List Cond := [Cond.code yX5_look cX5_look 9 none, Cond.fieldLink RX5 18 "FireNets$Search" "way" "[I", Cond.methodLink RX5 71 yX3_threatened, Cond.instanceMethod yX3_threatened, Cond.selects RX3 yX3_threatened yX3_threatened, Cond.code yX3_threatened cX3_threatened 5 (some .int), Cond.fieldLink RX3 18 "FireNets$Net" "near" "[I", Cond.static yX6_holds, Cond.code yX6_holds cX6_holds 2 (some .boolean), Cond.methodLink RX5 74 yX5_judge, Cond.instanceMethod yX5_judge, Cond.selects RX5 yX5_judge yX5_judge, Cond.code yX5_judge cX5_judge 10 none, Cond.fieldLink RX5 81 "FireNets$Search" "over" "I", Cond.fieldLink RX5 22 "FireNets$Search" "kept" "[I", Cond.methodLink RX5 78 yX3_savedFrom, Cond.instanceMethod yX3_savedFrom, Cond.selects RX3 yX3_savedFrom yX3_savedFrom, Cond.code yX3_savedFrom cX3_savedFrom 2 (some .int), Cond.methodLink RX3 65 yX3_worthOf, Cond.instanceMethod yX3_worthOf, Cond.selects RX3 yX3_worthOf yX3_worthOf, Cond.code yX3_worthOf cX3_worthOf 2 (some .int), Cond.fieldLink RX3 9 "FireNets$Net" "worth" "[I"]
def wsX6_least : List Cond := .code yX6_least cX6_least 4 (some .int) :: ((wsX6_least_r1 ++ (wsX6_least_r2 ++ (wsX6_least_r3 ++ wsX6_least_r4))) ++ wsX60 ++ wsX50 ++ wsX40 ++ wsX30)
def wsX6_isRule : List Cond := .code yX6_isRule cX6_isRule 1 (some .boolean) :: ([.methodLink RX6 59 yX6_within, .static yX6_within, .initialized RX6, .code yX6_within cX6_within 3 (some .boolean)])
def wsX6_runRule_r1 : List Cond := [Cond.fieldLink RX6 30 "FireNets" "theCourse" "LFireNets$Course;", Cond.fieldLink RX6 19 "FireNets" "thePurses" "LFireNets$Purses;", Cond.fieldLink RX6 10 "FireNets" "theNet" "LFireNets$Net;", Cond.methodLink RX6 237 yX2_begin, Cond.instanceMethod yX2_begin, Cond.selects RX2 yX2_begin yX2_begin, Cond.initialized RX2, Cond.code yX2_begin cX2_begin 2 none, Cond.fieldLink RX2 9 "FireNets$Course" "burning" "I", Cond.fieldLink RX2 15 "FireNets$Course" "guards" "I", Cond.fieldLink RX2 18 "FireNets$Course" "tick" "I", Cond.fieldLink RX2 21 "FireNets$Course" "cost" "I", Cond.fieldLink RX2 24 "FireNets$Course" "bad" "Z", Cond.fieldLink RX2 28 "FireNets$Course" "over" "Z", Cond.fieldLink RX2 31 "FireNets$Course" "money" "I", Cond.methodLink RX6 240 yX2_ended, Cond.instanceMethod yX2_ended, Cond.selects RX2 yX2_ended yX2_ended, Cond.code yX2_ended cX2_ended 1 (some .boolean), Cond.methodLink RX6 244 yX2_openTick, Cond.instanceMethod yX2_openTick, Cond.selects RX2 yX2_openTick yX2_openTick, Cond.code yX2_openTick cX2_openTick 2 none, Cond.methodLink RX2 34 yX4_money]
def wsX6_runRule_r2 : List Cond := [Cond.instanceMethod yX4_money, Cond.selects RX4 yX4_money yX4_money, Cond.initialized RX4, Cond.code yX4_money cX4_money 4 (some .int), Cond.methodLink RX4 31 Lib.Math.min.name, Cond.static Lib.Math.min.name, Cond.initialized "java/lang/Math", Cond.code Lib.Math.min.name Lib.Math.min.code 2 (some .int), Cond.methodLink RX4 37 Lib.Math.max.name, Cond.static Lib.Math.max.name, Cond.code Lib.Math.max.name Lib.Math.max.code 2 (some .int), Cond.fieldLink RX4 9 "FireNets$Purses" "own" "[I", Cond.fieldLink RX4 27 "FireNets$Purses" "keeping" "I", Cond.methodLink RX6 256 yX2_putByRule, Cond.instanceMethod yX2_putByRule, Cond.selects RX2 yX2_putByRule yX2_putByRule, Cond.code yX2_putByRule cX2_putByRule 5 none, Cond.methodLink RX2 53 yX3_pick, Cond.instanceMethod yX3_pick, Cond.selects RX3 yX3_pick yX3_pick, Cond.initialized RX3, Cond.code yX3_pick cX3_pick 10 (some .int), Cond.fieldLink RX3 15 "FireNets$Net" "price" "[I", Cond.methodLink RX3 71 yX3_threatened]
def wsX6_runRule_r3 : List Cond := [Cond.instanceMethod yX3_threatened, Cond.selects RX3 yX3_threatened yX3_threatened, Cond.code yX3_threatened cX3_threatened 5 (some .int), Cond.fieldLink RX3 18 "FireNets$Net" "near" "[I", Cond.static yX6_holds, Cond.initialized RX6, Cond.code yX6_holds cX6_holds 2 (some .boolean), Cond.methodLink RX3 75 yX3_rankOf, Cond.instanceMethod yX3_rankOf, Cond.selects RX3 yX3_rankOf yX3_rankOf, Cond.code yX3_rankOf cX3_rankOf 4 (some .int), Cond.fieldLink RX3 9 "FireNets$Net" "worth" "[I", Cond.methodLink RX3 79 yJ6_bitCount_0f7a4, Cond.static yJ6_bitCount_0f7a4, Cond.initialized RJ6, Cond.code yJ6_bitCount_0f7a4 cJ6_bitCount_0f7a4 1 (some .int), Cond.constant RJ6 265 (1431655765), Cond.constant RJ6 266 (858993459), Cond.constant RJ6 267 (252645135), Cond.methodLink RX2 45 yX3_priceOf, Cond.instanceMethod yX3_priceOf, Cond.selects RX3 yX3_priceOf yX3_priceOf, Cond.code yX3_priceOf cX3_priceOf 2 (some .int), Cond.methodLink RX3 61 yX3_sumOver]
def wsX6_runRule_r4 : List Cond := [Cond.static yX3_sumOver, Cond.code yX3_sumOver cX3_sumOver 4 (some .int), Cond.methodLink RX2 49 yX2_pay, Cond.instanceMethod yX2_pay, Cond.selects RX2 yX2_pay yX2_pay, Cond.code yX2_pay cX2_pay 3 none, Cond.methodLink RX6 252 yX2_spread, Cond.instanceMethod yX2_spread, Cond.selects RX2 yX2_spread yX2_spread, Cond.code yX2_spread cX2_spread 3 none, Cond.methodLink RX2 57 yX3_threatened]
def wsX6_runRule : List Cond := .code yX6_runRule cX6_runRule 4 none :: ((wsX6_runRule_r1 ++ (wsX6_runRule_r2 ++ (wsX6_runRule_r3 ++ wsX6_runRule_r4))) ++ wsX60 ++ wsX20 ++ wsX40 ++ wsX30)
def wsX6_live_r1 : List Cond := [Cond.fieldLink RX6 10 "FireNets" "theNet" "LFireNets$Net;", Cond.fieldLink RX6 30 "FireNets" "theCourse" "LFireNets$Course;", Cond.fieldLink RX6 132 "FireNets$Course" "burning" "I", Cond.fieldLink RX6 138 "FireNets$Course" "guards" "I", Cond.fieldLink RX6 141 "FireNets$Course" "tick" "I", Cond.methodLink RX6 172 yX6_isRule, Cond.static yX6_isRule, Cond.initialized RX6, Cond.code yX6_isRule cX6_isRule 1 (some .boolean), Cond.methodLink RX6 59 yX6_within, Cond.static yX6_within, Cond.code yX6_within cX6_within 3 (some .boolean), Cond.methodLink RX6 121 yX3_isStart, Cond.instanceMethod yX3_isStart, Cond.selects RX3 yX3_isStart yX3_isStart, Cond.initialized RX3, Cond.code yX3_isStart cX3_isStart 2 (some .boolean), Cond.methodLink RX3 45 yX3_all, Cond.instanceMethod yX3_all, Cond.selects RX3 yX3_all yX3_all, Cond.code yX3_all cX3_all 1 (some .int), Cond.fieldLink RX3 28 "FireNets$Net" "nodes" "I", Cond.methodLink RX6 175 yX6_runRule, Cond.instanceMethod yX6_runRule]
def wsX6_live_r2 : List Cond := [Cond.selects RX6 yX6_runRule yX6_runRule, Cond.code yX6_runRule cX6_runRule 4 none, Cond.fieldLink RX6 19 "FireNets" "thePurses" "LFireNets$Purses;", Cond.methodLink RX6 237 yX2_begin, Cond.instanceMethod yX2_begin, Cond.selects RX2 yX2_begin yX2_begin, Cond.initialized RX2, Cond.code yX2_begin cX2_begin 2 none, Cond.fieldLink RX2 9 "FireNets$Course" "burning" "I", Cond.fieldLink RX2 15 "FireNets$Course" "guards" "I", Cond.fieldLink RX2 18 "FireNets$Course" "tick" "I", Cond.fieldLink RX2 21 "FireNets$Course" "cost" "I", Cond.fieldLink RX2 24 "FireNets$Course" "bad" "Z", Cond.fieldLink RX2 28 "FireNets$Course" "over" "Z", Cond.fieldLink RX2 31 "FireNets$Course" "money" "I", Cond.methodLink RX6 240 yX2_ended, Cond.instanceMethod yX2_ended, Cond.selects RX2 yX2_ended yX2_ended, Cond.code yX2_ended cX2_ended 1 (some .boolean), Cond.methodLink RX6 244 yX2_openTick, Cond.instanceMethod yX2_openTick, Cond.selects RX2 yX2_openTick yX2_openTick, Cond.code yX2_openTick cX2_openTick 2 none, Cond.methodLink RX2 34 yX4_money]
def wsX6_live_r3 : List Cond := [Cond.instanceMethod yX4_money, Cond.selects RX4 yX4_money yX4_money, Cond.initialized RX4, Cond.code yX4_money cX4_money 4 (some .int), Cond.methodLink RX4 31 Lib.Math.min.name, Cond.static Lib.Math.min.name, Cond.initialized "java/lang/Math", Cond.code Lib.Math.min.name Lib.Math.min.code 2 (some .int), Cond.methodLink RX4 37 Lib.Math.max.name, Cond.static Lib.Math.max.name, Cond.code Lib.Math.max.name Lib.Math.max.code 2 (some .int), Cond.fieldLink RX4 9 "FireNets$Purses" "own" "[I", Cond.fieldLink RX4 27 "FireNets$Purses" "keeping" "I", Cond.methodLink RX6 256 yX2_putByRule, Cond.instanceMethod yX2_putByRule, Cond.selects RX2 yX2_putByRule yX2_putByRule, Cond.code yX2_putByRule cX2_putByRule 5 none, Cond.methodLink RX2 53 yX3_pick, Cond.instanceMethod yX3_pick, Cond.selects RX3 yX3_pick yX3_pick, Cond.code yX3_pick cX3_pick 10 (some .int), Cond.fieldLink RX3 15 "FireNets$Net" "price" "[I", Cond.methodLink RX3 71 yX3_threatened, Cond.instanceMethod yX3_threatened]
def wsX6_live_r4 : List Cond := [Cond.selects RX3 yX3_threatened yX3_threatened, Cond.code yX3_threatened cX3_threatened 5 (some .int), Cond.fieldLink RX3 18 "FireNets$Net" "near" "[I", Cond.static yX6_holds, Cond.code yX6_holds cX6_holds 2 (some .boolean), Cond.methodLink RX3 75 yX3_rankOf, Cond.instanceMethod yX3_rankOf, Cond.selects RX3 yX3_rankOf yX3_rankOf, Cond.code yX3_rankOf cX3_rankOf 4 (some .int), Cond.fieldLink RX3 9 "FireNets$Net" "worth" "[I", Cond.methodLink RX3 79 yJ6_bitCount_0f7a4, Cond.static yJ6_bitCount_0f7a4, Cond.initialized RJ6, Cond.code yJ6_bitCount_0f7a4 cJ6_bitCount_0f7a4 1 (some .int), Cond.constant RJ6 265 (1431655765), Cond.constant RJ6 266 (858993459), Cond.constant RJ6 267 (252645135), Cond.methodLink RX2 45 yX3_priceOf, Cond.instanceMethod yX3_priceOf, Cond.selects RX3 yX3_priceOf yX3_priceOf, Cond.code yX3_priceOf cX3_priceOf 2 (some .int), Cond.methodLink RX3 61 yX3_sumOver, Cond.static yX3_sumOver, Cond.code yX3_sumOver cX3_sumOver 4 (some .int)]
def wsX6_live_r5 : List Cond := [Cond.methodLink RX2 49 yX2_pay, Cond.instanceMethod yX2_pay, Cond.selects RX2 yX2_pay yX2_pay, Cond.code yX2_pay cX2_pay 3 none, Cond.methodLink RX6 252 yX2_spread, Cond.instanceMethod yX2_spread, Cond.selects RX2 yX2_spread yX2_spread, Cond.code yX2_spread cX2_spread 3 none, Cond.methodLink RX2 57 yX3_threatened, Cond.methodLink RX6 135 yX3_savedFrom, Cond.instanceMethod yX3_savedFrom, Cond.selects RX3 yX3_savedFrom yX3_savedFrom, Cond.code yX3_savedFrom cX3_savedFrom 2 (some .int), Cond.methodLink RX3 65 yX3_worthOf, Cond.instanceMethod yX3_worthOf, Cond.selects RX3 yX3_worthOf yX3_worthOf, Cond.code yX3_worthOf cX3_worthOf 2 (some .int)]
def wsX6_live : List Cond := .code yX6_live cX6_live 4 (some .int) :: ((wsX6_live_r1 ++ (wsX6_live_r2 ++ (wsX6_live_r3 ++ (wsX6_live_r4 ++ wsX6_live_r5)))) ++ wsX60 ++ wsX20 ++ wsX30 ++ wsX40)
def wsX6_savedByRule_r1 : List Cond := [Cond.fieldLink RX6 10 "FireNets" "theNet" "LFireNets$Net;", Cond.fieldLink RX6 30 "FireNets" "theCourse" "LFireNets$Course;", Cond.fieldLink RX6 132 "FireNets$Course" "burning" "I", Cond.methodLink RX6 175 yX6_runRule, Cond.instanceMethod yX6_runRule, Cond.selects RX6 yX6_runRule yX6_runRule, Cond.initialized RX6, Cond.code yX6_runRule cX6_runRule 4 none, Cond.fieldLink RX6 19 "FireNets" "thePurses" "LFireNets$Purses;", Cond.methodLink RX6 237 yX2_begin, Cond.instanceMethod yX2_begin, Cond.selects RX2 yX2_begin yX2_begin, Cond.initialized RX2, Cond.code yX2_begin cX2_begin 2 none, Cond.fieldLink RX2 9 "FireNets$Course" "burning" "I", Cond.fieldLink RX2 15 "FireNets$Course" "guards" "I", Cond.fieldLink RX2 18 "FireNets$Course" "tick" "I", Cond.fieldLink RX2 21 "FireNets$Course" "cost" "I", Cond.fieldLink RX2 24 "FireNets$Course" "bad" "Z", Cond.fieldLink RX2 28 "FireNets$Course" "over" "Z", Cond.fieldLink RX2 31 "FireNets$Course" "money" "I", Cond.methodLink RX6 240 yX2_ended, Cond.instanceMethod yX2_ended, Cond.selects RX2 yX2_ended yX2_ended]
def wsX6_savedByRule_r2 : List Cond := [Cond.code yX2_ended cX2_ended 1 (some .boolean), Cond.methodLink RX6 244 yX2_openTick, Cond.instanceMethod yX2_openTick, Cond.selects RX2 yX2_openTick yX2_openTick, Cond.code yX2_openTick cX2_openTick 2 none, Cond.methodLink RX2 34 yX4_money, Cond.instanceMethod yX4_money, Cond.selects RX4 yX4_money yX4_money, Cond.initialized RX4, Cond.code yX4_money cX4_money 4 (some .int), Cond.methodLink RX4 31 Lib.Math.min.name, Cond.static Lib.Math.min.name, Cond.initialized "java/lang/Math", Cond.code Lib.Math.min.name Lib.Math.min.code 2 (some .int), Cond.methodLink RX4 37 Lib.Math.max.name, Cond.static Lib.Math.max.name, Cond.code Lib.Math.max.name Lib.Math.max.code 2 (some .int), Cond.fieldLink RX4 9 "FireNets$Purses" "own" "[I", Cond.fieldLink RX4 27 "FireNets$Purses" "keeping" "I", Cond.methodLink RX6 256 yX2_putByRule, Cond.instanceMethod yX2_putByRule, Cond.selects RX2 yX2_putByRule yX2_putByRule, Cond.code yX2_putByRule cX2_putByRule 5 none, Cond.methodLink RX2 53 yX3_pick]
def wsX6_savedByRule_r3 : List Cond := [Cond.instanceMethod yX3_pick, Cond.selects RX3 yX3_pick yX3_pick, Cond.initialized RX3, Cond.code yX3_pick cX3_pick 10 (some .int), Cond.fieldLink RX3 15 "FireNets$Net" "price" "[I", Cond.methodLink RX3 71 yX3_threatened, Cond.instanceMethod yX3_threatened, Cond.selects RX3 yX3_threatened yX3_threatened, Cond.code yX3_threatened cX3_threatened 5 (some .int), Cond.fieldLink RX3 18 "FireNets$Net" "near" "[I", Cond.static yX6_holds, Cond.code yX6_holds cX6_holds 2 (some .boolean), Cond.methodLink RX3 75 yX3_rankOf, Cond.instanceMethod yX3_rankOf, Cond.selects RX3 yX3_rankOf yX3_rankOf, Cond.code yX3_rankOf cX3_rankOf 4 (some .int), Cond.fieldLink RX3 9 "FireNets$Net" "worth" "[I", Cond.methodLink RX3 79 yJ6_bitCount_0f7a4, Cond.static yJ6_bitCount_0f7a4, Cond.initialized RJ6, Cond.code yJ6_bitCount_0f7a4 cJ6_bitCount_0f7a4 1 (some .int), Cond.constant RJ6 265 (1431655765), Cond.constant RJ6 266 (858993459), Cond.constant RJ6 267 (252645135)]
def wsX6_savedByRule_r4 : List Cond := [Cond.methodLink RX2 45 yX3_priceOf, Cond.instanceMethod yX3_priceOf, Cond.selects RX3 yX3_priceOf yX3_priceOf, Cond.code yX3_priceOf cX3_priceOf 2 (some .int), Cond.methodLink RX3 61 yX3_sumOver, Cond.static yX3_sumOver, Cond.code yX3_sumOver cX3_sumOver 4 (some .int), Cond.methodLink RX2 49 yX2_pay, Cond.instanceMethod yX2_pay, Cond.selects RX2 yX2_pay yX2_pay, Cond.code yX2_pay cX2_pay 3 none, Cond.methodLink RX6 252 yX2_spread, Cond.instanceMethod yX2_spread, Cond.selects RX2 yX2_spread yX2_spread, Cond.code yX2_spread cX2_spread 3 none, Cond.methodLink RX2 57 yX3_threatened, Cond.methodLink RX6 135 yX3_savedFrom, Cond.instanceMethod yX3_savedFrom, Cond.selects RX3 yX3_savedFrom yX3_savedFrom, Cond.code yX3_savedFrom cX3_savedFrom 2 (some .int), Cond.methodLink RX3 45 yX3_all, Cond.instanceMethod yX3_all, Cond.selects RX3 yX3_all yX3_all, Cond.code yX3_all cX3_all 1 (some .int)]
def wsX6_savedByRule_r5 : List Cond := [Cond.fieldLink RX3 28 "FireNets$Net" "nodes" "I", Cond.methodLink RX3 65 yX3_worthOf, Cond.instanceMethod yX3_worthOf, Cond.selects RX3 yX3_worthOf yX3_worthOf, Cond.code yX3_worthOf cX3_worthOf 2 (some .int)]
def wsX6_savedByRule : List Cond := .code yX6_savedByRule cX6_savedByRule 3 (some .int) :: ((wsX6_savedByRule_r1 ++ (wsX6_savedByRule_r2 ++ (wsX6_savedByRule_r3 ++ (wsX6_savedByRule_r4 ++ wsX6_savedByRule_r5)))) ++ wsX60 ++ wsX20 ++ wsX40 ++ wsX30)
def wsX6_commonDivisor : List Cond := .code yX6_commonDivisor cX6_commonDivisor 11 (some .long) :: ([])
def wsX6_fractionPart : List Cond := .code yX6_fractionPart cX6_fractionPart 9 (some .long) :: ([.methodLink RX6 233 yX6_commonDivisor, .static yX6_commonDivisor, .initialized RX6, .code yX6_commonDivisor cX6_commonDivisor 11 (some .long)])
def wsX6_share_r1 : List Cond := [Cond.fieldLink RX6 10 "FireNets" "theNet" "LFireNets$Net;", Cond.fieldLink RX6 37 "FireNets" "theSearch" "LFireNets$Search;", Cond.fieldLink RX6 150 "FireNets$Search" "saved" "I", Cond.methodLink RX6 172 yX6_isRule, Cond.static yX6_isRule, Cond.initialized RX6, Cond.code yX6_isRule cX6_isRule 1 (some .boolean), Cond.methodLink RX6 59 yX6_within, Cond.static yX6_within, Cond.code yX6_within cX6_within 3 (some .boolean), Cond.methodLink RX6 121 yX3_isStart, Cond.instanceMethod yX3_isStart, Cond.selects RX3 yX3_isStart yX3_isStart, Cond.initialized RX3, Cond.code yX3_isStart cX3_isStart 2 (some .boolean), Cond.methodLink RX3 45 yX3_all, Cond.instanceMethod yX3_all, Cond.selects RX3 yX3_all yX3_all, Cond.code yX3_all cX3_all 1 (some .int), Cond.fieldLink RX3 28 "FireNets$Net" "nodes" "I", Cond.methodLink RX6 178 yX6_savedByRule, Cond.instanceMethod yX6_savedByRule, Cond.selects RX6 yX6_savedByRule yX6_savedByRule, Cond.code yX6_savedByRule cX6_savedByRule 3 (some .int)]
def wsX6_share_r2 : List Cond := [Cond.fieldLink RX6 30 "FireNets" "theCourse" "LFireNets$Course;", Cond.fieldLink RX6 132 "FireNets$Course" "burning" "I", Cond.methodLink RX6 175 yX6_runRule, Cond.instanceMethod yX6_runRule, Cond.selects RX6 yX6_runRule yX6_runRule, Cond.code yX6_runRule cX6_runRule 4 none, Cond.fieldLink RX6 19 "FireNets" "thePurses" "LFireNets$Purses;", Cond.methodLink RX6 237 yX2_begin, Cond.instanceMethod yX2_begin, Cond.selects RX2 yX2_begin yX2_begin, Cond.initialized RX2, Cond.code yX2_begin cX2_begin 2 none, Cond.fieldLink RX2 9 "FireNets$Course" "burning" "I", Cond.fieldLink RX2 15 "FireNets$Course" "guards" "I", Cond.fieldLink RX2 18 "FireNets$Course" "tick" "I", Cond.fieldLink RX2 21 "FireNets$Course" "cost" "I", Cond.fieldLink RX2 24 "FireNets$Course" "bad" "Z", Cond.fieldLink RX2 28 "FireNets$Course" "over" "Z", Cond.fieldLink RX2 31 "FireNets$Course" "money" "I", Cond.methodLink RX6 240 yX2_ended, Cond.instanceMethod yX2_ended, Cond.selects RX2 yX2_ended yX2_ended, Cond.code yX2_ended cX2_ended 1 (some .boolean), Cond.methodLink RX6 244 yX2_openTick]
def wsX6_share_r3 : List Cond := [Cond.instanceMethod yX2_openTick, Cond.selects RX2 yX2_openTick yX2_openTick, Cond.code yX2_openTick cX2_openTick 2 none, Cond.methodLink RX2 34 yX4_money, Cond.instanceMethod yX4_money, Cond.selects RX4 yX4_money yX4_money, Cond.initialized RX4, Cond.code yX4_money cX4_money 4 (some .int), Cond.methodLink RX4 31 Lib.Math.min.name, Cond.static Lib.Math.min.name, Cond.initialized "java/lang/Math", Cond.code Lib.Math.min.name Lib.Math.min.code 2 (some .int), Cond.methodLink RX4 37 Lib.Math.max.name, Cond.static Lib.Math.max.name, Cond.code Lib.Math.max.name Lib.Math.max.code 2 (some .int), Cond.fieldLink RX4 9 "FireNets$Purses" "own" "[I", Cond.fieldLink RX4 27 "FireNets$Purses" "keeping" "I", Cond.methodLink RX6 256 yX2_putByRule, Cond.instanceMethod yX2_putByRule, Cond.selects RX2 yX2_putByRule yX2_putByRule, Cond.code yX2_putByRule cX2_putByRule 5 none, Cond.methodLink RX2 53 yX3_pick, Cond.instanceMethod yX3_pick, Cond.selects RX3 yX3_pick yX3_pick]
def wsX6_share_r4 : List Cond := [Cond.code yX3_pick cX3_pick 10 (some .int), Cond.fieldLink RX3 15 "FireNets$Net" "price" "[I", Cond.methodLink RX3 71 yX3_threatened, Cond.instanceMethod yX3_threatened, Cond.selects RX3 yX3_threatened yX3_threatened, Cond.code yX3_threatened cX3_threatened 5 (some .int), Cond.fieldLink RX3 18 "FireNets$Net" "near" "[I", Cond.static yX6_holds, Cond.code yX6_holds cX6_holds 2 (some .boolean), Cond.methodLink RX3 75 yX3_rankOf, Cond.instanceMethod yX3_rankOf, Cond.selects RX3 yX3_rankOf yX3_rankOf, Cond.code yX3_rankOf cX3_rankOf 4 (some .int), Cond.fieldLink RX3 9 "FireNets$Net" "worth" "[I", Cond.methodLink RX3 79 yJ6_bitCount_0f7a4, Cond.static yJ6_bitCount_0f7a4, Cond.initialized RJ6, Cond.code yJ6_bitCount_0f7a4 cJ6_bitCount_0f7a4 1 (some .int), Cond.constant RJ6 265 (1431655765), Cond.constant RJ6 266 (858993459), Cond.constant RJ6 267 (252645135), Cond.methodLink RX2 45 yX3_priceOf, Cond.instanceMethod yX3_priceOf, Cond.selects RX3 yX3_priceOf yX3_priceOf]
def wsX6_share_r5 : List Cond := [Cond.code yX3_priceOf cX3_priceOf 2 (some .int), Cond.methodLink RX3 61 yX3_sumOver, Cond.static yX3_sumOver, Cond.code yX3_sumOver cX3_sumOver 4 (some .int), Cond.methodLink RX2 49 yX2_pay, Cond.instanceMethod yX2_pay, Cond.selects RX2 yX2_pay yX2_pay, Cond.code yX2_pay cX2_pay 3 none, Cond.methodLink RX6 252 yX2_spread, Cond.instanceMethod yX2_spread, Cond.selects RX2 yX2_spread yX2_spread, Cond.code yX2_spread cX2_spread 3 none, Cond.methodLink RX2 57 yX3_threatened, Cond.methodLink RX6 135 yX3_savedFrom, Cond.instanceMethod yX3_savedFrom, Cond.selects RX3 yX3_savedFrom yX3_savedFrom, Cond.code yX3_savedFrom cX3_savedFrom 2 (some .int), Cond.methodLink RX3 65 yX3_worthOf, Cond.instanceMethod yX3_worthOf, Cond.selects RX3 yX3_worthOf yX3_worthOf, Cond.code yX3_worthOf cX3_worthOf 2 (some .int), Cond.methodLink RX6 147 yX6_seekBest, Cond.instanceMethod yX6_seekBest, Cond.selects RX6 yX6_seekBest yX6_seekBest]
def wsX6_share_r6 : List Cond := [Cond.code yX6_seekBest cX6_seekBest 2 none, Cond.fieldLink RX6 165 "FireNets$Search" "purses" "LFireNets$Purses;", Cond.fieldLink RX6 55 "FireNets" "bound" "I", Cond.methodLink RX6 259 yX4_copy, Cond.instanceMethod yX4_copy, Cond.selects RX4 yX4_copy yX4_copy, Cond.code yX4_copy cX4_copy 2 none, Cond.methodLink RX4 21 arraycopyName, Cond.native arraycopyName, Cond.static arraycopyName, Cond.initialized "java/lang/System", Cond.methodLink RX6 168 yX5_run, Cond.instanceMethod yX5_run, Cond.selects RX5 yX5_run yX5_run, Cond.initialized RX5, Cond.code yX5_run cX5_run 4 none, Cond.fieldLink RX5 29 "FireNets$Search" "bound" "I", Cond.fieldLink RX5 33 "FireNets$Search" "looks" "I", Cond.fieldLink RX5 36 "FireNets$Search" "spent" "Z", Cond.fieldLink RX5 40 "FireNets$Search" "saved" "I", Cond.fieldLink RX5 12 "FireNets$Search" "purses" "LFireNets$Purses;", Cond.methodLink RX5 43 yX4_money, Cond.methodLink RX5 47 yX5_seek, Cond.instanceMethod yX5_seek]
def wsX6_share_r7 : List Cond := [Cond.selects RX5 yX5_seek yX5_seek, Cond.code yX5_seek cX5_seek 10 none, Cond.methodLink RX5 51 yX3_all, Cond.methodLink RX5 57 yX3_priceOf, Cond.methodLink RX5 61 yX5_look, Cond.instanceMethod yX5_look, Cond.selects RX5 yX5_look yX5_look, Cond.methodLink RX5 65 yX5_lastAbove, Cond.static yX5_lastAbove, Cond.code yX5_lastAbove cX5_lastAbove 1 (some .int), Cond.methodLink RX5 68 yX5_nextWithin, Cond.static yX5_nextWithin, Cond.code yX5_nextWithin cX5_nextWithin 2 (some .int), Cond.code yX5_look cX5_look 9 none, Cond.fieldLink RX5 18 "FireNets$Search" "way" "[I", Cond.methodLink RX5 71 yX3_threatened, Cond.methodLink RX5 74 yX5_judge, Cond.instanceMethod yX5_judge, Cond.selects RX5 yX5_judge yX5_judge, Cond.code yX5_judge cX5_judge 10 none, Cond.fieldLink RX5 81 "FireNets$Search" "over" "I", Cond.fieldLink RX5 22 "FireNets$Search" "kept" "[I", Cond.methodLink RX5 78 yX3_savedFrom, Cond.methodLink RX6 181 yX6_fractionPart]
def wsX6_share_r8 : List Cond := [Cond.static yX6_fractionPart, Cond.code yX6_fractionPart cX6_fractionPart 9 (some .long), Cond.methodLink RX6 233 yX6_commonDivisor, Cond.static yX6_commonDivisor, Cond.code yX6_commonDivisor cX6_commonDivisor 11 (some .long)]
def wsX6_share : List Cond := .code yX6_share cX6_share 5 (some .int) :: ((wsX6_share_r1 ++ (wsX6_share_r2 ++ (wsX6_share_r3 ++ (wsX6_share_r4 ++ (wsX6_share_r5 ++ (wsX6_share_r6 ++ (wsX6_share_r7 ++ wsX6_share_r8))))))) ++ wsX60 ++ wsX50 ++ wsX30 ++ wsX20 ++ wsX40)
def wsX6_worst_r1 : List Cond := [Cond.fieldLink RX6 10 "FireNets" "theNet" "LFireNets$Net;", Cond.fieldLink RX6 104 "FireNets$Net" "nodes" "I", Cond.fieldLink RX6 37 "FireNets" "theSearch" "LFireNets$Search;", Cond.fieldLink RX6 150 "FireNets$Search" "saved" "I", Cond.methodLink RX6 172 yX6_isRule, Cond.static yX6_isRule, Cond.initialized RX6, Cond.code yX6_isRule cX6_isRule 1 (some .boolean), Cond.methodLink RX6 59 yX6_within, Cond.static yX6_within, Cond.code yX6_within cX6_within 3 (some .boolean), Cond.methodLink RX6 178 yX6_savedByRule, Cond.instanceMethod yX6_savedByRule, Cond.selects RX6 yX6_savedByRule yX6_savedByRule, Cond.code yX6_savedByRule cX6_savedByRule 3 (some .int), Cond.fieldLink RX6 30 "FireNets" "theCourse" "LFireNets$Course;", Cond.fieldLink RX6 132 "FireNets$Course" "burning" "I", Cond.methodLink RX6 175 yX6_runRule, Cond.instanceMethod yX6_runRule, Cond.selects RX6 yX6_runRule yX6_runRule, Cond.code yX6_runRule cX6_runRule 4 none, Cond.fieldLink RX6 19 "FireNets" "thePurses" "LFireNets$Purses;", Cond.methodLink RX6 237 yX2_begin, Cond.instanceMethod yX2_begin]
def wsX6_worst_r2 : List Cond := [Cond.selects RX2 yX2_begin yX2_begin, Cond.initialized RX2, Cond.code yX2_begin cX2_begin 2 none, Cond.fieldLink RX2 9 "FireNets$Course" "burning" "I", Cond.fieldLink RX2 15 "FireNets$Course" "guards" "I", Cond.fieldLink RX2 18 "FireNets$Course" "tick" "I", Cond.fieldLink RX2 21 "FireNets$Course" "cost" "I", Cond.fieldLink RX2 24 "FireNets$Course" "bad" "Z", Cond.fieldLink RX2 28 "FireNets$Course" "over" "Z", Cond.fieldLink RX2 31 "FireNets$Course" "money" "I", Cond.methodLink RX6 240 yX2_ended, Cond.instanceMethod yX2_ended, Cond.selects RX2 yX2_ended yX2_ended, Cond.code yX2_ended cX2_ended 1 (some .boolean), Cond.methodLink RX6 244 yX2_openTick, Cond.instanceMethod yX2_openTick, Cond.selects RX2 yX2_openTick yX2_openTick, Cond.code yX2_openTick cX2_openTick 2 none, Cond.methodLink RX2 34 yX4_money, Cond.instanceMethod yX4_money, Cond.selects RX4 yX4_money yX4_money, Cond.initialized RX4, Cond.code yX4_money cX4_money 4 (some .int), Cond.methodLink RX4 31 Lib.Math.min.name]
def wsX6_worst_r3 : List Cond := [Cond.static Lib.Math.min.name, Cond.initialized "java/lang/Math", Cond.code Lib.Math.min.name Lib.Math.min.code 2 (some .int), Cond.methodLink RX4 37 Lib.Math.max.name, Cond.static Lib.Math.max.name, Cond.code Lib.Math.max.name Lib.Math.max.code 2 (some .int), Cond.fieldLink RX4 9 "FireNets$Purses" "own" "[I", Cond.fieldLink RX4 27 "FireNets$Purses" "keeping" "I", Cond.methodLink RX6 256 yX2_putByRule, Cond.instanceMethod yX2_putByRule, Cond.selects RX2 yX2_putByRule yX2_putByRule, Cond.code yX2_putByRule cX2_putByRule 5 none, Cond.methodLink RX2 53 yX3_pick, Cond.instanceMethod yX3_pick, Cond.selects RX3 yX3_pick yX3_pick, Cond.initialized RX3, Cond.code yX3_pick cX3_pick 10 (some .int), Cond.fieldLink RX3 15 "FireNets$Net" "price" "[I", Cond.methodLink RX3 71 yX3_threatened, Cond.instanceMethod yX3_threatened, Cond.selects RX3 yX3_threatened yX3_threatened, Cond.code yX3_threatened cX3_threatened 5 (some .int), Cond.fieldLink RX3 18 "FireNets$Net" "near" "[I", Cond.static yX6_holds]
def wsX6_worst_r4 : List Cond := [Cond.code yX6_holds cX6_holds 2 (some .boolean), Cond.methodLink RX3 75 yX3_rankOf, Cond.instanceMethod yX3_rankOf, Cond.selects RX3 yX3_rankOf yX3_rankOf, Cond.code yX3_rankOf cX3_rankOf 4 (some .int), Cond.fieldLink RX3 9 "FireNets$Net" "worth" "[I", Cond.methodLink RX3 79 yJ6_bitCount_0f7a4, Cond.static yJ6_bitCount_0f7a4, Cond.initialized RJ6, Cond.code yJ6_bitCount_0f7a4 cJ6_bitCount_0f7a4 1 (some .int), Cond.constant RJ6 265 (1431655765), Cond.constant RJ6 266 (858993459), Cond.constant RJ6 267 (252645135), Cond.methodLink RX2 45 yX3_priceOf, Cond.instanceMethod yX3_priceOf, Cond.selects RX3 yX3_priceOf yX3_priceOf, Cond.code yX3_priceOf cX3_priceOf 2 (some .int), Cond.methodLink RX3 61 yX3_sumOver, Cond.static yX3_sumOver, Cond.code yX3_sumOver cX3_sumOver 4 (some .int), Cond.methodLink RX2 49 yX2_pay, Cond.instanceMethod yX2_pay, Cond.selects RX2 yX2_pay yX2_pay, Cond.code yX2_pay cX2_pay 3 none]
def wsX6_worst_r5 : List Cond := [Cond.methodLink RX6 252 yX2_spread, Cond.instanceMethod yX2_spread, Cond.selects RX2 yX2_spread yX2_spread, Cond.code yX2_spread cX2_spread 3 none, Cond.methodLink RX2 57 yX3_threatened, Cond.methodLink RX6 135 yX3_savedFrom, Cond.instanceMethod yX3_savedFrom, Cond.selects RX3 yX3_savedFrom yX3_savedFrom, Cond.code yX3_savedFrom cX3_savedFrom 2 (some .int), Cond.methodLink RX3 45 yX3_all, Cond.instanceMethod yX3_all, Cond.selects RX3 yX3_all yX3_all, Cond.code yX3_all cX3_all 1 (some .int), Cond.fieldLink RX3 28 "FireNets$Net" "nodes" "I", Cond.methodLink RX3 65 yX3_worthOf, Cond.instanceMethod yX3_worthOf, Cond.selects RX3 yX3_worthOf yX3_worthOf, Cond.code yX3_worthOf cX3_worthOf 2 (some .int), Cond.methodLink RX6 147 yX6_seekBest, Cond.instanceMethod yX6_seekBest, Cond.selects RX6 yX6_seekBest yX6_seekBest, Cond.code yX6_seekBest cX6_seekBest 2 none, Cond.fieldLink RX6 165 "FireNets$Search" "purses" "LFireNets$Purses;", Cond.fieldLink RX6 55 "FireNets" "bound" "I"]
def wsX6_worst_r6 : List Cond := [Cond.methodLink RX6 259 yX4_copy, Cond.instanceMethod yX4_copy, Cond.selects RX4 yX4_copy yX4_copy, Cond.code yX4_copy cX4_copy 2 none, Cond.methodLink RX4 21 arraycopyName, Cond.native arraycopyName, Cond.static arraycopyName, Cond.initialized "java/lang/System", Cond.methodLink RX6 168 yX5_run, Cond.instanceMethod yX5_run, Cond.selects RX5 yX5_run yX5_run, Cond.initialized RX5, Cond.code yX5_run cX5_run 4 none, Cond.fieldLink RX5 29 "FireNets$Search" "bound" "I", Cond.fieldLink RX5 33 "FireNets$Search" "looks" "I", Cond.fieldLink RX5 36 "FireNets$Search" "spent" "Z", Cond.fieldLink RX5 40 "FireNets$Search" "saved" "I", Cond.fieldLink RX5 12 "FireNets$Search" "purses" "LFireNets$Purses;", Cond.methodLink RX5 43 yX4_money, Cond.methodLink RX5 47 yX5_seek, Cond.instanceMethod yX5_seek, Cond.selects RX5 yX5_seek yX5_seek, Cond.code yX5_seek cX5_seek 10 none, Cond.methodLink RX5 51 yX3_all]
def wsX6_worst_r7 : List Cond := [Cond.methodLink RX5 57 yX3_priceOf, Cond.methodLink RX5 61 yX5_look, Cond.instanceMethod yX5_look, Cond.selects RX5 yX5_look yX5_look, Cond.methodLink RX5 65 yX5_lastAbove, Cond.static yX5_lastAbove, Cond.code yX5_lastAbove cX5_lastAbove 1 (some .int), Cond.methodLink RX5 68 yX5_nextWithin, Cond.static yX5_nextWithin, Cond.code yX5_nextWithin cX5_nextWithin 2 (some .int), Cond.code yX5_look cX5_look 9 none, Cond.fieldLink RX5 18 "FireNets$Search" "way" "[I", Cond.methodLink RX5 71 yX3_threatened, Cond.methodLink RX5 74 yX5_judge, Cond.instanceMethod yX5_judge, Cond.selects RX5 yX5_judge yX5_judge, Cond.code yX5_judge cX5_judge 10 none, Cond.fieldLink RX5 81 "FireNets$Search" "over" "I", Cond.fieldLink RX5 22 "FireNets$Search" "kept" "[I", Cond.methodLink RX5 78 yX3_savedFrom]
def wsX6_worst : List Cond := .code yX6_worst cX6_worst 8 (some .int) :: ((wsX6_worst_r1 ++ (wsX6_worst_r2 ++ (wsX6_worst_r3 ++ (wsX6_worst_r4 ++ (wsX6_worst_r5 ++ (wsX6_worst_r6 ++ wsX6_worst_r7)))))) ++ wsX60 ++ wsX30 ++ wsX50 ++ wsX20 ++ wsX40)
def wsX6_mean_r1 : List Cond := [Cond.fieldLink RX6 10 "FireNets" "theNet" "LFireNets$Net;", Cond.methodLink RX6 172 yX6_isRule, Cond.static yX6_isRule, Cond.initialized RX6, Cond.code yX6_isRule cX6_isRule 1 (some .boolean), Cond.methodLink RX6 59 yX6_within, Cond.static yX6_within, Cond.code yX6_within cX6_within 3 (some .boolean), Cond.methodLink RX6 121 yX3_isStart, Cond.instanceMethod yX3_isStart, Cond.selects RX3 yX3_isStart yX3_isStart, Cond.initialized RX3, Cond.code yX3_isStart cX3_isStart 2 (some .boolean), Cond.methodLink RX3 45 yX3_all, Cond.instanceMethod yX3_all, Cond.selects RX3 yX3_all yX3_all, Cond.code yX3_all cX3_all 1 (some .int), Cond.fieldLink RX3 28 "FireNets$Net" "nodes" "I", Cond.methodLink RX6 185 yX6_holds, Cond.static yX6_holds, Cond.code yX6_holds cX6_holds 2 (some .boolean), Cond.methodLink RX6 178 yX6_savedByRule, Cond.instanceMethod yX6_savedByRule, Cond.selects RX6 yX6_savedByRule yX6_savedByRule]
def wsX6_mean_r2 : List Cond := [Cond.code yX6_savedByRule cX6_savedByRule 3 (some .int), Cond.fieldLink RX6 30 "FireNets" "theCourse" "LFireNets$Course;", Cond.fieldLink RX6 132 "FireNets$Course" "burning" "I", Cond.methodLink RX6 175 yX6_runRule, Cond.instanceMethod yX6_runRule, Cond.selects RX6 yX6_runRule yX6_runRule, Cond.code yX6_runRule cX6_runRule 4 none, Cond.fieldLink RX6 19 "FireNets" "thePurses" "LFireNets$Purses;", Cond.methodLink RX6 237 yX2_begin, Cond.instanceMethod yX2_begin, Cond.selects RX2 yX2_begin yX2_begin, Cond.initialized RX2, Cond.code yX2_begin cX2_begin 2 none, Cond.fieldLink RX2 9 "FireNets$Course" "burning" "I", Cond.fieldLink RX2 15 "FireNets$Course" "guards" "I", Cond.fieldLink RX2 18 "FireNets$Course" "tick" "I", Cond.fieldLink RX2 21 "FireNets$Course" "cost" "I", Cond.fieldLink RX2 24 "FireNets$Course" "bad" "Z", Cond.fieldLink RX2 28 "FireNets$Course" "over" "Z", Cond.fieldLink RX2 31 "FireNets$Course" "money" "I", Cond.methodLink RX6 240 yX2_ended, Cond.instanceMethod yX2_ended, Cond.selects RX2 yX2_ended yX2_ended, Cond.code yX2_ended cX2_ended 1 (some .boolean)]
def wsX6_mean_r3 : List Cond := [Cond.methodLink RX6 244 yX2_openTick, Cond.instanceMethod yX2_openTick, Cond.selects RX2 yX2_openTick yX2_openTick, Cond.code yX2_openTick cX2_openTick 2 none, Cond.methodLink RX2 34 yX4_money, Cond.instanceMethod yX4_money, Cond.selects RX4 yX4_money yX4_money, Cond.initialized RX4, Cond.code yX4_money cX4_money 4 (some .int), Cond.methodLink RX4 31 Lib.Math.min.name, Cond.static Lib.Math.min.name, Cond.initialized "java/lang/Math", Cond.code Lib.Math.min.name Lib.Math.min.code 2 (some .int), Cond.methodLink RX4 37 Lib.Math.max.name, Cond.static Lib.Math.max.name, Cond.code Lib.Math.max.name Lib.Math.max.code 2 (some .int), Cond.fieldLink RX4 9 "FireNets$Purses" "own" "[I", Cond.fieldLink RX4 27 "FireNets$Purses" "keeping" "I", Cond.methodLink RX6 256 yX2_putByRule, Cond.instanceMethod yX2_putByRule, Cond.selects RX2 yX2_putByRule yX2_putByRule, Cond.code yX2_putByRule cX2_putByRule 5 none, Cond.methodLink RX2 53 yX3_pick, Cond.instanceMethod yX3_pick]
def wsX6_mean_r4 : List Cond := [Cond.selects RX3 yX3_pick yX3_pick, Cond.code yX3_pick cX3_pick 10 (some .int), Cond.fieldLink RX3 15 "FireNets$Net" "price" "[I", Cond.methodLink RX3 71 yX3_threatened, Cond.instanceMethod yX3_threatened, Cond.selects RX3 yX3_threatened yX3_threatened, Cond.code yX3_threatened cX3_threatened 5 (some .int), Cond.fieldLink RX3 18 "FireNets$Net" "near" "[I", Cond.methodLink RX3 75 yX3_rankOf, Cond.instanceMethod yX3_rankOf, Cond.selects RX3 yX3_rankOf yX3_rankOf, Cond.code yX3_rankOf cX3_rankOf 4 (some .int), Cond.fieldLink RX3 9 "FireNets$Net" "worth" "[I", Cond.methodLink RX3 79 yJ6_bitCount_0f7a4, Cond.static yJ6_bitCount_0f7a4, Cond.initialized RJ6, Cond.code yJ6_bitCount_0f7a4 cJ6_bitCount_0f7a4 1 (some .int), Cond.constant RJ6 265 (1431655765), Cond.constant RJ6 266 (858993459), Cond.constant RJ6 267 (252645135), Cond.methodLink RX2 45 yX3_priceOf, Cond.instanceMethod yX3_priceOf, Cond.selects RX3 yX3_priceOf yX3_priceOf, Cond.code yX3_priceOf cX3_priceOf 2 (some .int)]
def wsX6_mean_r5 : List Cond := [Cond.methodLink RX3 61 yX3_sumOver, Cond.static yX3_sumOver, Cond.code yX3_sumOver cX3_sumOver 4 (some .int), Cond.methodLink RX2 49 yX2_pay, Cond.instanceMethod yX2_pay, Cond.selects RX2 yX2_pay yX2_pay, Cond.code yX2_pay cX2_pay 3 none, Cond.methodLink RX6 252 yX2_spread, Cond.instanceMethod yX2_spread, Cond.selects RX2 yX2_spread yX2_spread, Cond.code yX2_spread cX2_spread 3 none, Cond.methodLink RX2 57 yX3_threatened, Cond.methodLink RX6 135 yX3_savedFrom, Cond.instanceMethod yX3_savedFrom, Cond.selects RX3 yX3_savedFrom yX3_savedFrom, Cond.code yX3_savedFrom cX3_savedFrom 2 (some .int), Cond.methodLink RX3 65 yX3_worthOf, Cond.instanceMethod yX3_worthOf, Cond.selects RX3 yX3_worthOf yX3_worthOf, Cond.code yX3_worthOf cX3_worthOf 2 (some .int), Cond.methodLink RX6 188 yJ6_bitCount_0f7a4, Cond.methodLink RX6 181 yX6_fractionPart, Cond.static yX6_fractionPart, Cond.code yX6_fractionPart cX6_fractionPart 9 (some .long)]
def wsX6_mean_r6 : List Cond := [Cond.methodLink RX6 233 yX6_commonDivisor, Cond.static yX6_commonDivisor, Cond.code yX6_commonDivisor cX6_commonDivisor 11 (some .long)]
def wsX6_mean : List Cond := .code yX6_mean cX6_mean 6 (some .int) :: ((wsX6_mean_r1 ++ (wsX6_mean_r2 ++ (wsX6_mean_r3 ++ (wsX6_mean_r4 ++ (wsX6_mean_r5 ++ wsX6_mean_r6))))) ++ wsX60 ++ wsX30 ++ wsX20 ++ wsX40)
def wsX6_chance_r1 : List Cond := [Cond.fieldLink RX6 10 "FireNets" "theNet" "LFireNets$Net;", Cond.constantLong RX6 193 (-1001), Cond.constantLong RX6 195 (-1002), Cond.fieldLink RX6 81 "FireNets$Net" "lines" "I", Cond.constantLong RX6 197 (-1003), Cond.fieldLink RX6 44 "FireNets" "theChances" "LFireNets$Chances;", Cond.methodLink RX6 73 yX3_has, Cond.instanceMethod yX3_has, Cond.selects RX3 yX3_has yX3_has, Cond.initialized RX3, Cond.code yX3_has cX3_has 2 (some .boolean), Cond.fieldLink RX3 28 "FireNets$Net" "nodes" "I", Cond.static yX6_within, Cond.initialized RX6, Cond.code yX6_within cX6_within 3 (some .boolean), Cond.methodLink RX6 121 yX3_isStart, Cond.instanceMethod yX3_isStart, Cond.selects RX3 yX3_isStart yX3_isStart, Cond.code yX3_isStart cX3_isStart 2 (some .boolean), Cond.methodLink RX3 45 yX3_all, Cond.instanceMethod yX3_all, Cond.selects RX3 yX3_all yX3_all, Cond.code yX3_all cX3_all 1 (some .int), Cond.methodLink RX6 107 yX3_all]
def wsX6_chance_r2 : List Cond := [Cond.methodLink RX6 59 yX6_within, Cond.methodLink RX6 199 yX1_lay, Cond.instanceMethod yX1_lay, Cond.selects RX1 yX1_lay yX1_lay, Cond.initialized RX1, Cond.code yX1_lay cX1_lay 6 none, Cond.fieldLink RX1 15 "FireNets$Net" "lines" "I", Cond.methodLink RX1 21 Lib.Math.min.name, Cond.static Lib.Math.min.name, Cond.initialized "java/lang/Math", Cond.code Lib.Math.min.name Lib.Math.min.code 2 (some .int), Cond.fieldLink RX1 27 "FireNets$Chances" "lines" "I", Cond.fieldLink RX1 9 "FireNets$Chances" "ends" "[I", Cond.fieldLink RX1 32 "FireNets$Chances" "barred" "I", Cond.fieldLink RX1 35 "FireNets$Chances" "open" "I", Cond.fieldLink RX1 38 "FireNets$Chances" "shut" "I", Cond.methodLink RX1 28 yX3_endsOf, Cond.instanceMethod yX3_endsOf, Cond.selects RX3 yX3_endsOf yX3_endsOf, Cond.code yX3_endsOf cX3_endsOf 2 (some .int), Cond.fieldLink RX3 21 "FireNets$Net" "ends" "[I", Cond.methodLink RX6 203 yX1_waysTo, Cond.instanceMethod yX1_waysTo, Cond.selects RX1 yX1_waysTo yX1_waysTo]
def wsX6_chance_r3 : List Cond := [Cond.code yX1_waysTo cX1_waysTo 3 (some .long), Cond.methodLink RX1 45 yX1_waysFrom, Cond.instanceMethod yX1_waysFrom, Cond.selects RX1 yX1_waysFrom yX1_waysFrom, Cond.code yX1_waysFrom cX1_waysFrom 6 (some .long), Cond.methodLink RX1 41 yX1_power, Cond.static yX1_power, Cond.code yX1_power cX1_power 6 (some .long), Cond.methodLink RX1 49 yX1_lineOnward, Cond.instanceMethod yX1_lineOnward, Cond.selects RX1 yX1_lineOnward yX1_lineOnward, Cond.code yX1_lineOnward cX1_lineOnward 6 (some .int), Cond.static yX6_holds, Cond.code yX6_holds cX6_holds 2 (some .boolean), Cond.methodLink RX1 52 yX1_waysOver, Cond.instanceMethod yX1_waysOver, Cond.selects RX1 yX1_waysOver yX1_waysOver, Cond.code yX1_waysOver cX1_waysOver 9 (some .long), Cond.methodLink RX6 207 yX1_allWays, Cond.instanceMethod yX1_allWays, Cond.selects RX1 yX1_allWays yX1_allWays, Cond.code yX1_allWays cX1_allWays 1 (some .long), Cond.methodLink RX6 181 yX6_fractionPart, Cond.static yX6_fractionPart]
def wsX6_chance_r4 : List Cond := [Cond.code yX6_fractionPart cX6_fractionPart 9 (some .long), Cond.methodLink RX6 233 yX6_commonDivisor, Cond.static yX6_commonDivisor, Cond.code yX6_commonDivisor cX6_commonDivisor 11 (some .long)]
def wsX6_chance : List Cond := .code yX6_chance cX6_chance 7 (some .long) :: ((wsX6_chance_r1 ++ (wsX6_chance_r2 ++ (wsX6_chance_r3 ++ wsX6_chance_r4))) ++ wsX60 ++ wsX30 ++ wsX10)
def wsX6_wall : List Cond := .code yX6_wall cX6_wall 4 (some .int) :: ([.fieldLink RX6 51 "FireNets" "theBoard" "LFireNets$Board;", .fieldLink RX6 115 "FireNets$Board" "squares" "I", .methodLink RX6 59 yX6_within, .static yX6_within, .initialized RX6, .code yX6_within cX6_within 3 (some .boolean), .methodLink RX6 211 yX0_isWall, .instanceMethod yX0_isWall, .selects RX0 yX0_isWall yX0_isWall, .initialized RX0, .code yX0_isWall cX0_isWall 4 (some .boolean), .fieldLink RX0 31 "FireNets$Board" "squares" "I", .fieldLink RX0 11 "FireNets$Board" "wallX" "[I", .fieldLink RX0 15 "FireNets$Board" "wallY" "[I", .methodLink RX6 214 yX0_add, .instanceMethod yX0_add, .selects RX0 yX0_add yX0_add, .code yX0_add cX0_add 4 (some .int), .fieldLink RX0 18 "FireNets$Board" "wallTick" "[I"] ++ wsX60 ++ wsX00)
def wsX6_raze : List Cond := .code yX6_raze cX6_raze 2 (some .int) :: ([.fieldLink RX6 51 "FireNets" "theBoard" "LFireNets$Board;", .fieldLink RX6 115 "FireNets$Board" "squares" "I"] ++ wsX60 ++ wsX00)
def wsX6_board_r1 : List Cond := [Cond.fieldLink RX6 51 "FireNets" "theBoard" "LFireNets$Board;", Cond.fieldLink RX6 221 "FireNets$Board" "shutIn" "I", Cond.fieldLink RX6 227 "FireNets$Board" "lost" "I", Cond.methodLink RX6 59 yX6_within, Cond.static yX6_within, Cond.initialized RX6, Cond.code yX6_within cX6_within 3 (some .boolean), Cond.methodLink RX6 218 yX0_burn, Cond.instanceMethod yX0_burn, Cond.selects RX0 yX0_burn yX0_burn, Cond.initialized RX0, Cond.code yX0_burn cX0_burn 2 none, Cond.fieldLink RX0 21 "FireNets$Board" "burning" "[J", Cond.fieldLink RX0 28 "FireNets$Board" "guarded" "[J", Cond.constantLong RX0 47 (16777216), Cond.fieldLink RX0 49 "FireNets$Board" "shutIn" "I", Cond.fieldLink RX0 52 "FireNets$Board" "lost" "I", Cond.methodLink RX0 41 yJ7_fill_d0a16, Cond.static yJ7_fill_d0a16, Cond.initialized RJ7, Cond.code yJ7_fill_d0a16 cJ7_fill_d0a16 5 none, Cond.methodLink RX0 55 yX0_putGuards, Cond.instanceMethod yX0_putGuards, Cond.selects RX0 yX0_putGuards yX0_putGuards]
def wsX6_board_r2 : List Cond := [Cond.code yX0_putGuards cX0_putGuards 3 none, Cond.fieldLink RX0 31 "FireNets$Board" "squares" "I", Cond.fieldLink RX0 18 "FireNets$Board" "wallTick" "[I", Cond.fieldLink RX0 11 "FireNets$Board" "wallX" "[I", Cond.fieldLink RX0 15 "FireNets$Board" "wallY" "[I", Cond.methodLink RX0 63 yX0_onRows, Cond.static yX0_onRows, Cond.code yX0_onRows cX0_onRows 1 (some .boolean), Cond.methodLink RX0 67 yX0_putGuard, Cond.instanceMethod yX0_putGuard, Cond.selects RX0 yX0_putGuard yX0_putGuard, Cond.code yX0_putGuard cX0_putGuard 4 none, Cond.methodLink RX0 59 yX0_spread, Cond.instanceMethod yX0_spread, Cond.selects RX0 yX0_spread yX0_spread, Cond.code yX0_spread cX0_spread 7 (some .boolean), Cond.fieldLink RX0 25 "FireNets$Board" "after" "[J", Cond.constantLong RX0 79 (-1), Cond.methodLink RX0 81 arraycopyName, Cond.native arraycopyName, Cond.static arraycopyName, Cond.initialized "java/lang/System", Cond.methodLink RX0 75 yX0_rowAt, Cond.instanceMethod yX0_rowAt]
def wsX6_board_r3 : List Cond := [Cond.selects RX0 yX0_rowAt yX0_rowAt, Cond.code yX0_rowAt cX0_rowAt 2 (some .long), Cond.methodLink RX6 224 yX0_burnt, Cond.instanceMethod yX0_burnt, Cond.selects RX0 yX0_burnt yX0_burnt, Cond.code yX0_burnt cX0_burnt 3 (some .int), Cond.methodLink RX0 87 yJ13_bitCount_95d88, Cond.static yJ13_bitCount_95d88, Cond.initialized RJ13, Cond.code yJ13_bitCount_95d88 cJ13_bitCount_95d88 2 (some .int), Cond.constantLong RJ13 314 (6148914691236517205), Cond.constantLong RJ13 316 (3689348814741910323), Cond.constantLong RJ13 318 (1085102592571150095), Cond.methodLink RX6 230 yX0_reach, Cond.instanceMethod yX0_reach, Cond.selects RX0 yX0_reach yX0_reach, Cond.code yX0_reach cX0_reach 4 (some .int), Cond.methodLink RX0 93 Lib.Math.abs.name, Cond.static Lib.Math.abs.name, Cond.initialized "java/lang/Math", Cond.code Lib.Math.abs.name Lib.Math.abs.code 1 (some .int), Cond.methodLink RX0 35 Lib.Math.max.name, Cond.static Lib.Math.max.name, Cond.code Lib.Math.max.name Lib.Math.max.code 2 (some .int)]
def wsX6_board : List Cond := .code yX6_board cX6_board 2 (some .int) :: ((wsX6_board_r1 ++ (wsX6_board_r2 ++ wsX6_board_r3)) ++ wsX60 ++ wsX00)
def wsX7_clear : List Cond := .code yX7_clear cX7_clear 2 none :: ([.fieldLink RX7 65 "FireNetsModel" "lines" "I", .fieldLink RX7 17 "FireNetsModel" "joined" "[I", .fieldLink RX7 20 "FireNetsModel" "worth" "[I", .fieldLink RX7 23 "FireNetsModel" "price" "[I", .fieldLink RX7 32 "FireNetsModel" "plan" "[I"] ++ wsX70)
def wsX7_init_r1 : List Cond := [Cond.methodLink RX7 1 objectInit, Cond.instanceMethod objectInit, Cond.code objectInit ⟨#[0xb1]⟩ 1 none, Cond.fieldLink RX7 7 "FireNetsModel" "n" "I", Cond.arrayClass .int, Cond.fieldLink RX7 13 "FireNetsModel" "ends" "[I", Cond.fieldLink RX7 17 "FireNetsModel" "joined" "[I", Cond.fieldLink RX7 20 "FireNetsModel" "worth" "[I", Cond.fieldLink RX7 23 "FireNetsModel" "price" "[I", Cond.fieldLink RX7 26 "FireNetsModel" "purse" "[I", Cond.fieldLink RX7 29 "FireNetsModel" "bound" "I", Cond.fieldLink RX7 32 "FireNetsModel" "plan" "[I", Cond.fieldLink RX7 35 "FireNetsModel" "wall" "[I", Cond.fieldLink RX7 38 "FireNetsModel" "tried" "[I", Cond.fieldLink RX7 41 "FireNetsModel" "fireAt" "[I", Cond.fieldLink RX7 44 "FireNetsModel" "guardsAt" "[I", Cond.fieldLink RX7 47 "FireNetsModel" "leftAt" "[I", Cond.fieldLink RX7 50 "FireNetsModel" "bestSets" "[I", Cond.fieldLink RX7 53 "FireNetsModel" "prices" "[I", Cond.fieldLink RX7 56 "FireNetsModel" "kept" "[I", Cond.fieldLink RX7 59 "FireNetsModel" "board" "[I", Cond.methodLink RX7 62 yX7_clear, Cond.instanceMethod yX7_clear, Cond.selects RX7 yX7_clear yX7_clear]
def wsX7_init_r2 : List Cond := [Cond.initialized RX7, Cond.code yX7_clear cX7_clear 2 none, Cond.fieldLink RX7 65 "FireNetsModel" "lines" "I"]
def wsX7_init : List Cond := .code yX7_init cX7_init 2 none :: ((wsX7_init_r1 ++ wsX7_init_r2) ++ wsX70)
def wsX7_in : List Cond := .code yX7_in cX7_in 6 (some .boolean) :: ([])
def wsX7_isNode : List Cond := .code yX7_isNode cX7_isNode 2 (some .boolean) :: ([.fieldLink RX7 7 "FireNetsModel" "n" "I", .methodLink RX7 68 yX7_in, .static yX7_in, .initialized RX7, .code yX7_in cX7_in 6 (some .boolean)] ++ wsX70)
def wsX7_all : List Cond := .code yX7_all cX7_all 1 (some .int) :: ([.fieldLink RX7 7 "FireNetsModel" "n" "I"] ++ wsX70)
def wsX7_isFire : List Cond := .code yX7_isFire cX7_isFire 2 (some .boolean) :: ([.methodLink RX7 72 yX7_all, .instanceMethod yX7_all, .selects RX7 yX7_all yX7_all, .initialized RX7, .code yX7_all cX7_all 1 (some .int), .fieldLink RX7 7 "FireNetsModel" "n" "I", .methodLink RX7 68 yX7_in, .static yX7_in, .code yX7_in cX7_in 6 (some .boolean)] ++ wsX70)
def wsX7_net : List Cond := .code yX7_net cX7_net 2 (some .int) :: ([.constantLong RX7 76 (10), .fieldLink RX7 7 "FireNetsModel" "n" "I", .methodLink RX7 68 yX7_in, .static yX7_in, .initialized RX7, .code yX7_in cX7_in 6 (some .boolean), .methodLink RX7 62 yX7_clear, .instanceMethod yX7_clear, .selects RX7 yX7_clear yX7_clear, .code yX7_clear cX7_clear 2 none, .fieldLink RX7 65 "FireNetsModel" "lines" "I", .fieldLink RX7 17 "FireNetsModel" "joined" "[I", .fieldLink RX7 20 "FireNetsModel" "worth" "[I", .fieldLink RX7 23 "FireNetsModel" "price" "[I", .fieldLink RX7 32 "FireNetsModel" "plan" "[I"] ++ wsX70)
def wsX7_line : List Cond := .code yX7_line cX7_line 3 (some .int) :: ([.fieldLink RX7 17 "FireNetsModel" "joined" "[I", .fieldLink RX7 65 "FireNetsModel" "lines" "I", .fieldLink RX7 13 "FireNetsModel" "ends" "[I", .methodLink RX7 78 yX7_isNode, .instanceMethod yX7_isNode, .selects RX7 yX7_isNode yX7_isNode, .initialized RX7, .code yX7_isNode cX7_isNode 2 (some .boolean), .fieldLink RX7 7 "FireNetsModel" "n" "I", .methodLink RX7 68 yX7_in, .static yX7_in, .code yX7_in cX7_in 6 (some .boolean)] ++ wsX70)
def wsX7_node : List Cond := .code yX7_node cX7_node 5 (some .int) :: ([.constantLong RX7 82 (9), .fieldLink RX7 20 "FireNetsModel" "worth" "[I", .fieldLink RX7 23 "FireNetsModel" "price" "[I", .methodLink RX7 78 yX7_isNode, .instanceMethod yX7_isNode, .selects RX7 yX7_isNode yX7_isNode, .initialized RX7, .code yX7_isNode cX7_isNode 2 (some .boolean), .fieldLink RX7 7 "FireNetsModel" "n" "I", .methodLink RX7 68 yX7_in, .static yX7_in, .code yX7_in cX7_in 6 (some .boolean)] ++ wsX70)
def wsX7_purse : List Cond := .code yX7_purse cX7_purse 4 (some .int) :: ([.constantLong RX7 84 (8), .constantLong RX7 86 (20), .fieldLink RX7 26 "FireNetsModel" "purse" "[I", .methodLink RX7 68 yX7_in, .static yX7_in, .initialized RX7, .code yX7_in cX7_in 6 (some .boolean)] ++ wsX70)
def wsX7_rule : List Cond := .code yX7_rule cX7_rule 4 (some .int) :: ([.constantLong RX7 88 (50), .constantLong RX7 90 (1000), .fieldLink RX7 92 "FireNetsModel" "keeps" "Z", .fieldLink RX7 29 "FireNetsModel" "bound" "I", .methodLink RX7 68 yX7_in, .static yX7_in, .initialized RX7, .code yX7_in cX7_in 6 (some .boolean)] ++ wsX70)
def wsX7_worthOf : List Cond := .code yX7_worthOf cX7_worthOf 4 (some .int) :: ([.fieldLink RX7 7 "FireNetsModel" "n" "I", .fieldLink RX7 20 "FireNetsModel" "worth" "[I"] ++ wsX70)
def wsX7_priceOf : List Cond := .code yX7_priceOf cX7_priceOf 4 (some .int) :: ([.fieldLink RX7 7 "FireNetsModel" "n" "I", .fieldLink RX7 23 "FireNetsModel" "price" "[I"] ++ wsX70)
def wsX7_count : List Cond := .code yX7_count cX7_count 6 (some .int) :: ([.fieldLink RX7 96 "FireNetsModel" "squares" "I", .fieldLink RX7 35 "FireNetsModel" "wall" "[I", .fieldLink RX7 7 "FireNetsModel" "n" "I", .fieldLink RX7 65 "FireNetsModel" "lines" "I", .methodLink RX7 72 yX7_all, .instanceMethod yX7_all, .selects RX7 yX7_all yX7_all, .initialized RX7, .code yX7_all cX7_all 1 (some .int), .methodLink RX7 99 yX7_worthOf, .instanceMethod yX7_worthOf, .selects RX7 yX7_worthOf yX7_worthOf, .code yX7_worthOf cX7_worthOf 4 (some .int), .fieldLink RX7 20 "FireNetsModel" "worth" "[I"] ++ wsX70)
def wsX7_light : List Cond := .code yX7_light cX7_light 2 none :: ([.fieldLink RX7 103 "FireNetsModel" "fire" "I", .fieldLink RX7 106 "FireNetsModel" "guards" "I", .fieldLink RX7 109 "FireNetsModel" "left" "I", .fieldLink RX7 112 "FireNetsModel" "cost" "I"] ++ wsX70)
def wsX7_fill : List Cond := .code yX7_fill cX7_fill 2 none :: ([.fieldLink RX7 92 "FireNetsModel" "keeps" "Z", .fieldLink RX7 109 "FireNetsModel" "left" "I", .fieldLink RX7 26 "FireNetsModel" "purse" "[I"] ++ wsX70)
def wsX7_isLawful : List Cond := .code yX7_isLawful cX7_isLawful 2 (some .boolean) :: ([.fieldLink RX7 103 "FireNetsModel" "fire" "I", .fieldLink RX7 106 "FireNetsModel" "guards" "I", .fieldLink RX7 109 "FireNetsModel" "left" "I", .methodLink RX7 72 yX7_all, .instanceMethod yX7_all, .selects RX7 yX7_all yX7_all, .initialized RX7, .code yX7_all cX7_all 1 (some .int), .fieldLink RX7 7 "FireNetsModel" "n" "I", .methodLink RX7 115 yX7_priceOf, .instanceMethod yX7_priceOf, .selects RX7 yX7_priceOf yX7_priceOf, .code yX7_priceOf cX7_priceOf 4 (some .int), .fieldLink RX7 23 "FireNetsModel" "price" "[I"] ++ wsX70)
def wsX7_guard : List Cond := .code yX7_guard cX7_guard 2 none :: ([.fieldLink RX7 106 "FireNetsModel" "guards" "I", .fieldLink RX7 109 "FireNetsModel" "left" "I", .fieldLink RX7 112 "FireNetsModel" "cost" "I", .methodLink RX7 115 yX7_priceOf, .instanceMethod yX7_priceOf, .selects RX7 yX7_priceOf yX7_priceOf, .initialized RX7, .code yX7_priceOf cX7_priceOf 4 (some .int), .fieldLink RX7 7 "FireNetsModel" "n" "I", .fieldLink RX7 23 "FireNetsModel" "price" "[I"] ++ wsX70)
def wsX7_near : List Cond := .code yX7_near cX7_near 3 (some .int) :: ([.fieldLink RX7 7 "FireNetsModel" "n" "I", .fieldLink RX7 103 "FireNetsModel" "fire" "I", .fieldLink RX7 17 "FireNetsModel" "joined" "[I", .fieldLink RX7 106 "FireNetsModel" "guards" "I"] ++ wsX70)
def wsX7_spreads : List Cond := .code yX7_spreads cX7_spreads 2 (some .boolean) :: ([.fieldLink RX7 103 "FireNetsModel" "fire" "I", .methodLink RX7 118 yX7_near, .instanceMethod yX7_near, .selects RX7 yX7_near yX7_near, .initialized RX7, .code yX7_near cX7_near 3 (some .int), .fieldLink RX7 7 "FireNetsModel" "n" "I", .fieldLink RX7 17 "FireNetsModel" "joined" "[I", .fieldLink RX7 106 "FireNetsModel" "guards" "I"] ++ wsX70)
def wsX7_saved : List Cond := .code yX7_saved cX7_saved 1 (some .int) :: ([.fieldLink RX7 103 "FireNetsModel" "fire" "I", .methodLink RX7 72 yX7_all, .instanceMethod yX7_all, .selects RX7 yX7_all yX7_all, .initialized RX7, .code yX7_all cX7_all 1 (some .int), .fieldLink RX7 7 "FireNetsModel" "n" "I", .methodLink RX7 99 yX7_worthOf, .instanceMethod yX7_worthOf, .selects RX7 yX7_worthOf yX7_worthOf, .code yX7_worthOf cX7_worthOf 4 (some .int), .fieldLink RX7 20 "FireNetsModel" "worth" "[I"] ++ wsX70)
def wsX7_plan : List Cond := .code yX7_plan cX7_plan 4 (some .int) :: ([.constantLong RX7 84 (8), .constantLong RX7 121 (1023), .fieldLink RX7 32 "FireNetsModel" "plan" "[I", .methodLink RX7 68 yX7_in, .static yX7_in, .initialized RX7, .code yX7_in cX7_in 6 (some .boolean)] ++ wsX70)
def wsX7_playTo_r1 : List Cond := [Cond.fieldLink RX7 127 "FireNetsModel" "isBad" "Z", Cond.fieldLink RX7 130 "FireNetsModel" "overAt" "I", Cond.fieldLink RX7 32 "FireNetsModel" "plan" "[I", Cond.methodLink RX7 123 yX7_light, Cond.instanceMethod yX7_light, Cond.selects RX7 yX7_light yX7_light, Cond.initialized RX7, Cond.code yX7_light cX7_light 2 none, Cond.fieldLink RX7 103 "FireNetsModel" "fire" "I", Cond.fieldLink RX7 106 "FireNetsModel" "guards" "I", Cond.fieldLink RX7 109 "FireNetsModel" "left" "I", Cond.fieldLink RX7 112 "FireNetsModel" "cost" "I", Cond.methodLink RX7 133 yX7_fill, Cond.instanceMethod yX7_fill, Cond.selects RX7 yX7_fill yX7_fill, Cond.code yX7_fill cX7_fill 2 none, Cond.fieldLink RX7 92 "FireNetsModel" "keeps" "Z", Cond.fieldLink RX7 26 "FireNetsModel" "purse" "[I", Cond.methodLink RX7 136 yX7_isLawful, Cond.instanceMethod yX7_isLawful, Cond.selects RX7 yX7_isLawful yX7_isLawful, Cond.code yX7_isLawful cX7_isLawful 2 (some .boolean), Cond.methodLink RX7 72 yX7_all, Cond.instanceMethod yX7_all]
def wsX7_playTo_r2 : List Cond := [Cond.selects RX7 yX7_all yX7_all, Cond.code yX7_all cX7_all 1 (some .int), Cond.fieldLink RX7 7 "FireNetsModel" "n" "I", Cond.methodLink RX7 115 yX7_priceOf, Cond.instanceMethod yX7_priceOf, Cond.selects RX7 yX7_priceOf yX7_priceOf, Cond.code yX7_priceOf cX7_priceOf 4 (some .int), Cond.fieldLink RX7 23 "FireNetsModel" "price" "[I", Cond.methodLink RX7 139 yX7_guard, Cond.instanceMethod yX7_guard, Cond.selects RX7 yX7_guard yX7_guard, Cond.code yX7_guard cX7_guard 2 none, Cond.methodLink RX7 142 yX7_spreads, Cond.instanceMethod yX7_spreads, Cond.selects RX7 yX7_spreads yX7_spreads, Cond.code yX7_spreads cX7_spreads 2 (some .boolean), Cond.methodLink RX7 118 yX7_near, Cond.instanceMethod yX7_near, Cond.selects RX7 yX7_near yX7_near, Cond.code yX7_near cX7_near 3 (some .int), Cond.fieldLink RX7 17 "FireNetsModel" "joined" "[I"]
def wsX7_playTo : List Cond := .code yX7_playTo cX7_playTo 5 none :: ((wsX7_playTo_r1 ++ wsX7_playTo_r2) ++ wsX70)
def wsX7_play_r1 : List Cond := [Cond.constantLong RX7 149 (4), Cond.fieldLink RX7 127 "FireNetsModel" "isBad" "Z", Cond.fieldLink RX7 103 "FireNetsModel" "fire" "I", Cond.fieldLink RX7 106 "FireNetsModel" "guards" "I", Cond.fieldLink RX7 130 "FireNetsModel" "overAt" "I", Cond.fieldLink RX7 112 "FireNetsModel" "cost" "I", Cond.methodLink RX7 146 yX7_isFire, Cond.instanceMethod yX7_isFire, Cond.selects RX7 yX7_isFire yX7_isFire, Cond.initialized RX7, Cond.code yX7_isFire cX7_isFire 2 (some .boolean), Cond.methodLink RX7 72 yX7_all, Cond.instanceMethod yX7_all, Cond.selects RX7 yX7_all yX7_all, Cond.code yX7_all cX7_all 1 (some .int), Cond.fieldLink RX7 7 "FireNetsModel" "n" "I", Cond.methodLink RX7 68 yX7_in, Cond.static yX7_in, Cond.code yX7_in cX7_in 6 (some .boolean), Cond.methodLink RX7 151 yX7_playTo, Cond.instanceMethod yX7_playTo, Cond.selects RX7 yX7_playTo yX7_playTo, Cond.code yX7_playTo cX7_playTo 5 none, Cond.fieldLink RX7 32 "FireNetsModel" "plan" "[I"]
def wsX7_play_r2 : List Cond := [Cond.methodLink RX7 123 yX7_light, Cond.instanceMethod yX7_light, Cond.selects RX7 yX7_light yX7_light, Cond.code yX7_light cX7_light 2 none, Cond.fieldLink RX7 109 "FireNetsModel" "left" "I", Cond.methodLink RX7 133 yX7_fill, Cond.instanceMethod yX7_fill, Cond.selects RX7 yX7_fill yX7_fill, Cond.code yX7_fill cX7_fill 2 none, Cond.fieldLink RX7 92 "FireNetsModel" "keeps" "Z", Cond.fieldLink RX7 26 "FireNetsModel" "purse" "[I", Cond.methodLink RX7 136 yX7_isLawful, Cond.instanceMethod yX7_isLawful, Cond.selects RX7 yX7_isLawful yX7_isLawful, Cond.code yX7_isLawful cX7_isLawful 2 (some .boolean), Cond.methodLink RX7 115 yX7_priceOf, Cond.instanceMethod yX7_priceOf, Cond.selects RX7 yX7_priceOf yX7_priceOf, Cond.code yX7_priceOf cX7_priceOf 4 (some .int), Cond.fieldLink RX7 23 "FireNetsModel" "price" "[I", Cond.methodLink RX7 139 yX7_guard, Cond.instanceMethod yX7_guard, Cond.selects RX7 yX7_guard yX7_guard, Cond.code yX7_guard cX7_guard 2 none]
def wsX7_play_r3 : List Cond := [Cond.methodLink RX7 142 yX7_spreads, Cond.instanceMethod yX7_spreads, Cond.selects RX7 yX7_spreads yX7_spreads, Cond.code yX7_spreads cX7_spreads 2 (some .boolean), Cond.methodLink RX7 118 yX7_near, Cond.instanceMethod yX7_near, Cond.selects RX7 yX7_near yX7_near, Cond.code yX7_near cX7_near 3 (some .int), Cond.fieldLink RX7 17 "FireNetsModel" "joined" "[I", Cond.methodLink RX7 155 yX7_saved, Cond.instanceMethod yX7_saved, Cond.selects RX7 yX7_saved yX7_saved, Cond.code yX7_saved cX7_saved 1 (some .int), Cond.methodLink RX7 99 yX7_worthOf, Cond.instanceMethod yX7_worthOf, Cond.selects RX7 yX7_worthOf yX7_worthOf, Cond.code yX7_worthOf cX7_worthOf 4 (some .int), Cond.fieldLink RX7 20 "FireNetsModel" "worth" "[I"]
def wsX7_play : List Cond := .code yX7_play cX7_play 3 (some .int) :: ((wsX7_play_r1 ++ (wsX7_play_r2 ++ wsX7_play_r3)) ++ wsX70)
def wsX7_burns_r1 : List Cond := [Cond.constantLong RX7 86 (20), Cond.fieldLink RX7 103 "FireNetsModel" "fire" "I", Cond.methodLink RX7 146 yX7_isFire, Cond.instanceMethod yX7_isFire, Cond.selects RX7 yX7_isFire yX7_isFire, Cond.initialized RX7, Cond.code yX7_isFire cX7_isFire 2 (some .boolean), Cond.methodLink RX7 72 yX7_all, Cond.instanceMethod yX7_all, Cond.selects RX7 yX7_all yX7_all, Cond.code yX7_all cX7_all 1 (some .int), Cond.fieldLink RX7 7 "FireNetsModel" "n" "I", Cond.methodLink RX7 68 yX7_in, Cond.static yX7_in, Cond.code yX7_in cX7_in 6 (some .boolean), Cond.methodLink RX7 151 yX7_playTo, Cond.instanceMethod yX7_playTo, Cond.selects RX7 yX7_playTo yX7_playTo, Cond.code yX7_playTo cX7_playTo 5 none, Cond.fieldLink RX7 127 "FireNetsModel" "isBad" "Z", Cond.fieldLink RX7 130 "FireNetsModel" "overAt" "I", Cond.fieldLink RX7 32 "FireNetsModel" "plan" "[I", Cond.methodLink RX7 123 yX7_light, Cond.instanceMethod yX7_light]
def wsX7_burns_r2 : List Cond := [Cond.selects RX7 yX7_light yX7_light, Cond.code yX7_light cX7_light 2 none, Cond.fieldLink RX7 106 "FireNetsModel" "guards" "I", Cond.fieldLink RX7 109 "FireNetsModel" "left" "I", Cond.fieldLink RX7 112 "FireNetsModel" "cost" "I", Cond.methodLink RX7 133 yX7_fill, Cond.instanceMethod yX7_fill, Cond.selects RX7 yX7_fill yX7_fill, Cond.code yX7_fill cX7_fill 2 none, Cond.fieldLink RX7 92 "FireNetsModel" "keeps" "Z", Cond.fieldLink RX7 26 "FireNetsModel" "purse" "[I", Cond.methodLink RX7 136 yX7_isLawful, Cond.instanceMethod yX7_isLawful, Cond.selects RX7 yX7_isLawful yX7_isLawful, Cond.code yX7_isLawful cX7_isLawful 2 (some .boolean), Cond.methodLink RX7 115 yX7_priceOf, Cond.instanceMethod yX7_priceOf, Cond.selects RX7 yX7_priceOf yX7_priceOf, Cond.code yX7_priceOf cX7_priceOf 4 (some .int), Cond.fieldLink RX7 23 "FireNetsModel" "price" "[I", Cond.methodLink RX7 139 yX7_guard, Cond.instanceMethod yX7_guard, Cond.selects RX7 yX7_guard yX7_guard, Cond.code yX7_guard cX7_guard 2 none]
def wsX7_burns_r3 : List Cond := [Cond.methodLink RX7 142 yX7_spreads, Cond.instanceMethod yX7_spreads, Cond.selects RX7 yX7_spreads yX7_spreads, Cond.code yX7_spreads cX7_spreads 2 (some .boolean), Cond.methodLink RX7 118 yX7_near, Cond.instanceMethod yX7_near, Cond.selects RX7 yX7_near yX7_near, Cond.code yX7_near cX7_near 3 (some .int), Cond.fieldLink RX7 17 "FireNetsModel" "joined" "[I"]
def wsX7_burns : List Cond := .code yX7_burns cX7_burns 3 (some .int) :: ((wsX7_burns_r1 ++ (wsX7_burns_r2 ++ wsX7_burns_r3)) ++ wsX70)
def wsX7_keep : List Cond := .code yX7_keep cX7_keep 2 none :: ([.fieldLink RX7 41 "FireNetsModel" "fireAt" "[I", .fieldLink RX7 103 "FireNetsModel" "fire" "I", .fieldLink RX7 44 "FireNetsModel" "guardsAt" "[I", .fieldLink RX7 106 "FireNetsModel" "guards" "I", .fieldLink RX7 47 "FireNetsModel" "leftAt" "[I", .fieldLink RX7 109 "FireNetsModel" "left" "I", .fieldLink RX7 38 "FireNetsModel" "tried" "[I"] ++ wsX70)
def wsX7_restore : List Cond := .code yX7_restore cX7_restore 2 none :: ([.fieldLink RX7 41 "FireNetsModel" "fireAt" "[I", .fieldLink RX7 103 "FireNetsModel" "fire" "I", .fieldLink RX7 44 "FireNetsModel" "guardsAt" "[I", .fieldLink RX7 106 "FireNetsModel" "guards" "I", .fieldLink RX7 47 "FireNetsModel" "leftAt" "[I", .fieldLink RX7 109 "FireNetsModel" "left" "I"] ++ wsX70)
def wsX7_compare : List Cond := .code yX7_compare cX7_compare 4 none :: ([.fieldLink RX7 158 "FireNetsModel" "bestSaved" "I", .fieldLink RX7 161 "FireNetsModel" "bestOver" "I", .fieldLink RX7 50 "FireNetsModel" "bestSets" "[I", .fieldLink RX7 38 "FireNetsModel" "tried" "[I", .methodLink RX7 155 yX7_saved, .instanceMethod yX7_saved, .selects RX7 yX7_saved yX7_saved, .initialized RX7, .code yX7_saved cX7_saved 1 (some .int), .fieldLink RX7 103 "FireNetsModel" "fire" "I", .methodLink RX7 72 yX7_all, .instanceMethod yX7_all, .selects RX7 yX7_all yX7_all, .code yX7_all cX7_all 1 (some .int), .fieldLink RX7 7 "FireNetsModel" "n" "I", .methodLink RX7 99 yX7_worthOf, .instanceMethod yX7_worthOf, .selects RX7 yX7_worthOf yX7_worthOf, .code yX7_worthOf cX7_worthOf 4 (some .int), .fieldLink RX7 20 "FireNetsModel" "worth" "[I"] ++ wsX70)
def wsX7_goOn : List Cond := .code yX7_goOn cX7_goOn 4 none :: ([.fieldLink RX7 41 "FireNetsModel" "fireAt" "[I", .fieldLink RX7 44 "FireNetsModel" "guardsAt" "[I", .fieldLink RX7 38 "FireNetsModel" "tried" "[I", .methodLink RX7 72 yX7_all, .instanceMethod yX7_all, .selects RX7 yX7_all yX7_all, .initialized RX7, .code yX7_all cX7_all 1 (some .int), .fieldLink RX7 7 "FireNetsModel" "n" "I"] ++ wsX70)
def wsX7_seek_r1 : List Cond := [Cond.fieldLink RX7 53 "FireNetsModel" "prices" "[I", Cond.fieldLink RX7 164 "FireNetsModel" "looks" "I", Cond.fieldLink RX7 167 "FireNetsModel" "isSpent" "Z", Cond.fieldLink RX7 158 "FireNetsModel" "bestSaved" "I", Cond.fieldLink RX7 161 "FireNetsModel" "bestOver" "I", Cond.fieldLink RX7 38 "FireNetsModel" "tried" "[I", Cond.fieldLink RX7 109 "FireNetsModel" "left" "I", Cond.fieldLink RX7 29 "FireNetsModel" "bound" "I", Cond.methodLink RX7 72 yX7_all, Cond.instanceMethod yX7_all, Cond.selects RX7 yX7_all yX7_all, Cond.initialized RX7, Cond.code yX7_all cX7_all 1 (some .int), Cond.fieldLink RX7 7 "FireNetsModel" "n" "I", Cond.methodLink RX7 115 yX7_priceOf, Cond.instanceMethod yX7_priceOf, Cond.selects RX7 yX7_priceOf yX7_priceOf, Cond.code yX7_priceOf cX7_priceOf 4 (some .int), Cond.fieldLink RX7 23 "FireNetsModel" "price" "[I", Cond.methodLink RX7 123 yX7_light, Cond.instanceMethod yX7_light, Cond.selects RX7 yX7_light yX7_light, Cond.code yX7_light cX7_light 2 none, Cond.fieldLink RX7 103 "FireNetsModel" "fire" "I"]
def wsX7_seek_r2 : List Cond := [Cond.fieldLink RX7 106 "FireNetsModel" "guards" "I", Cond.fieldLink RX7 112 "FireNetsModel" "cost" "I", Cond.methodLink RX7 133 yX7_fill, Cond.instanceMethod yX7_fill, Cond.selects RX7 yX7_fill yX7_fill, Cond.code yX7_fill cX7_fill 2 none, Cond.fieldLink RX7 92 "FireNetsModel" "keeps" "Z", Cond.fieldLink RX7 26 "FireNetsModel" "purse" "[I", Cond.methodLink RX7 170 yX7_keep, Cond.instanceMethod yX7_keep, Cond.selects RX7 yX7_keep yX7_keep, Cond.code yX7_keep cX7_keep 2 none, Cond.fieldLink RX7 41 "FireNetsModel" "fireAt" "[I", Cond.fieldLink RX7 44 "FireNetsModel" "guardsAt" "[I", Cond.fieldLink RX7 47 "FireNetsModel" "leftAt" "[I", Cond.methodLink RX7 173 yX7_restore, Cond.instanceMethod yX7_restore, Cond.selects RX7 yX7_restore yX7_restore, Cond.code yX7_restore cX7_restore 2 none, Cond.methodLink RX7 176 yX7_goOn, Cond.instanceMethod yX7_goOn, Cond.selects RX7 yX7_goOn yX7_goOn, Cond.code yX7_goOn cX7_goOn 4 none, Cond.methodLink RX7 139 yX7_guard]
def wsX7_seek_r3 : List Cond := [Cond.instanceMethod yX7_guard, Cond.selects RX7 yX7_guard yX7_guard, Cond.code yX7_guard cX7_guard 2 none, Cond.methodLink RX7 142 yX7_spreads, Cond.instanceMethod yX7_spreads, Cond.selects RX7 yX7_spreads yX7_spreads, Cond.code yX7_spreads cX7_spreads 2 (some .boolean), Cond.methodLink RX7 118 yX7_near, Cond.instanceMethod yX7_near, Cond.selects RX7 yX7_near yX7_near, Cond.code yX7_near cX7_near 3 (some .int), Cond.fieldLink RX7 17 "FireNetsModel" "joined" "[I", Cond.methodLink RX7 179 yX7_compare, Cond.instanceMethod yX7_compare, Cond.selects RX7 yX7_compare yX7_compare, Cond.code yX7_compare cX7_compare 4 none, Cond.fieldLink RX7 50 "FireNetsModel" "bestSets" "[I", Cond.methodLink RX7 155 yX7_saved, Cond.instanceMethod yX7_saved, Cond.selects RX7 yX7_saved yX7_saved, Cond.code yX7_saved cX7_saved 1 (some .int), Cond.methodLink RX7 99 yX7_worthOf, Cond.instanceMethod yX7_worthOf, Cond.selects RX7 yX7_worthOf yX7_worthOf]
def wsX7_seek_r4 : List Cond := [Cond.code yX7_worthOf cX7_worthOf 4 (some .int), Cond.fieldLink RX7 20 "FireNetsModel" "worth" "[I"]
def wsX7_seek : List Cond := .code yX7_seek cX7_seek 5 none :: ((wsX7_seek_r1 ++ (wsX7_seek_r2 ++ (wsX7_seek_r3 ++ wsX7_seek_r4))) ++ wsX70)
def wsX7_best_r1 : List Cond := [Cond.constantLong RX7 182 (11), Cond.fieldLink RX7 158 "FireNetsModel" "bestSaved" "I", Cond.fieldLink RX7 164 "FireNetsModel" "looks" "I", Cond.fieldLink RX7 167 "FireNetsModel" "isSpent" "Z", Cond.fieldLink RX7 161 "FireNetsModel" "bestOver" "I", Cond.fieldLink RX7 50 "FireNetsModel" "bestSets" "[I", Cond.methodLink RX7 146 yX7_isFire, Cond.instanceMethod yX7_isFire, Cond.selects RX7 yX7_isFire yX7_isFire, Cond.initialized RX7, Cond.code yX7_isFire cX7_isFire 2 (some .boolean), Cond.methodLink RX7 72 yX7_all, Cond.instanceMethod yX7_all, Cond.selects RX7 yX7_all yX7_all, Cond.code yX7_all cX7_all 1 (some .int), Cond.fieldLink RX7 7 "FireNetsModel" "n" "I", Cond.methodLink RX7 68 yX7_in, Cond.static yX7_in, Cond.code yX7_in cX7_in 6 (some .boolean), Cond.methodLink RX7 184 yX7_seek, Cond.instanceMethod yX7_seek, Cond.selects RX7 yX7_seek yX7_seek, Cond.code yX7_seek cX7_seek 5 none, Cond.fieldLink RX7 53 "FireNetsModel" "prices" "[I"]
def wsX7_best_r2 : List Cond := [Cond.fieldLink RX7 38 "FireNetsModel" "tried" "[I", Cond.fieldLink RX7 109 "FireNetsModel" "left" "I", Cond.fieldLink RX7 29 "FireNetsModel" "bound" "I", Cond.methodLink RX7 115 yX7_priceOf, Cond.instanceMethod yX7_priceOf, Cond.selects RX7 yX7_priceOf yX7_priceOf, Cond.code yX7_priceOf cX7_priceOf 4 (some .int), Cond.fieldLink RX7 23 "FireNetsModel" "price" "[I", Cond.methodLink RX7 123 yX7_light, Cond.instanceMethod yX7_light, Cond.selects RX7 yX7_light yX7_light, Cond.code yX7_light cX7_light 2 none, Cond.fieldLink RX7 103 "FireNetsModel" "fire" "I", Cond.fieldLink RX7 106 "FireNetsModel" "guards" "I", Cond.fieldLink RX7 112 "FireNetsModel" "cost" "I", Cond.methodLink RX7 133 yX7_fill, Cond.instanceMethod yX7_fill, Cond.selects RX7 yX7_fill yX7_fill, Cond.code yX7_fill cX7_fill 2 none, Cond.fieldLink RX7 92 "FireNetsModel" "keeps" "Z", Cond.fieldLink RX7 26 "FireNetsModel" "purse" "[I", Cond.methodLink RX7 170 yX7_keep, Cond.instanceMethod yX7_keep, Cond.selects RX7 yX7_keep yX7_keep]
def wsX7_best_r3 : List Cond := [Cond.code yX7_keep cX7_keep 2 none, Cond.fieldLink RX7 41 "FireNetsModel" "fireAt" "[I", Cond.fieldLink RX7 44 "FireNetsModel" "guardsAt" "[I", Cond.fieldLink RX7 47 "FireNetsModel" "leftAt" "[I", Cond.methodLink RX7 173 yX7_restore, Cond.instanceMethod yX7_restore, Cond.selects RX7 yX7_restore yX7_restore, Cond.code yX7_restore cX7_restore 2 none, Cond.methodLink RX7 176 yX7_goOn, Cond.instanceMethod yX7_goOn, Cond.selects RX7 yX7_goOn yX7_goOn, Cond.code yX7_goOn cX7_goOn 4 none, Cond.methodLink RX7 139 yX7_guard, Cond.instanceMethod yX7_guard, Cond.selects RX7 yX7_guard yX7_guard, Cond.code yX7_guard cX7_guard 2 none, Cond.methodLink RX7 142 yX7_spreads, Cond.instanceMethod yX7_spreads, Cond.selects RX7 yX7_spreads yX7_spreads, Cond.code yX7_spreads cX7_spreads 2 (some .boolean), Cond.methodLink RX7 118 yX7_near, Cond.instanceMethod yX7_near, Cond.selects RX7 yX7_near yX7_near, Cond.code yX7_near cX7_near 3 (some .int)]
def wsX7_best_r4 : List Cond := [Cond.fieldLink RX7 17 "FireNetsModel" "joined" "[I", Cond.methodLink RX7 179 yX7_compare, Cond.instanceMethod yX7_compare, Cond.selects RX7 yX7_compare yX7_compare, Cond.code yX7_compare cX7_compare 4 none, Cond.methodLink RX7 155 yX7_saved, Cond.instanceMethod yX7_saved, Cond.selects RX7 yX7_saved yX7_saved, Cond.code yX7_saved cX7_saved 1 (some .int), Cond.methodLink RX7 99 yX7_worthOf, Cond.instanceMethod yX7_worthOf, Cond.selects RX7 yX7_worthOf yX7_worthOf, Cond.code yX7_worthOf cX7_worthOf 4 (some .int), Cond.fieldLink RX7 20 "FireNetsModel" "worth" "[I"]
def wsX7_best : List Cond := .code yX7_best cX7_best 3 (some .int) :: ((wsX7_best_r1 ++ (wsX7_best_r2 ++ (wsX7_best_r3 ++ wsX7_best_r4))) ++ wsX70)
def wsX7_take_r1 : List Cond := [Cond.fieldLink RX7 32 "FireNetsModel" "plan" "[I", Cond.fieldLink RX7 50 "FireNetsModel" "bestSets" "[I", Cond.fieldLink RX7 158 "FireNetsModel" "bestSaved" "I", Cond.methodLink RX7 146 yX7_isFire, Cond.instanceMethod yX7_isFire, Cond.selects RX7 yX7_isFire yX7_isFire, Cond.initialized RX7, Cond.code yX7_isFire cX7_isFire 2 (some .boolean), Cond.methodLink RX7 72 yX7_all, Cond.instanceMethod yX7_all, Cond.selects RX7 yX7_all yX7_all, Cond.code yX7_all cX7_all 1 (some .int), Cond.fieldLink RX7 7 "FireNetsModel" "n" "I", Cond.methodLink RX7 68 yX7_in, Cond.static yX7_in, Cond.code yX7_in cX7_in 6 (some .boolean), Cond.methodLink RX7 184 yX7_seek, Cond.instanceMethod yX7_seek, Cond.selects RX7 yX7_seek yX7_seek, Cond.code yX7_seek cX7_seek 5 none, Cond.fieldLink RX7 53 "FireNetsModel" "prices" "[I", Cond.fieldLink RX7 164 "FireNetsModel" "looks" "I", Cond.fieldLink RX7 167 "FireNetsModel" "isSpent" "Z", Cond.fieldLink RX7 161 "FireNetsModel" "bestOver" "I"]
def wsX7_take_r2 : List Cond := [Cond.fieldLink RX7 38 "FireNetsModel" "tried" "[I", Cond.fieldLink RX7 109 "FireNetsModel" "left" "I", Cond.fieldLink RX7 29 "FireNetsModel" "bound" "I", Cond.methodLink RX7 115 yX7_priceOf, Cond.instanceMethod yX7_priceOf, Cond.selects RX7 yX7_priceOf yX7_priceOf, Cond.code yX7_priceOf cX7_priceOf 4 (some .int), Cond.fieldLink RX7 23 "FireNetsModel" "price" "[I", Cond.methodLink RX7 123 yX7_light, Cond.instanceMethod yX7_light, Cond.selects RX7 yX7_light yX7_light, Cond.code yX7_light cX7_light 2 none, Cond.fieldLink RX7 103 "FireNetsModel" "fire" "I", Cond.fieldLink RX7 106 "FireNetsModel" "guards" "I", Cond.fieldLink RX7 112 "FireNetsModel" "cost" "I", Cond.methodLink RX7 133 yX7_fill, Cond.instanceMethod yX7_fill, Cond.selects RX7 yX7_fill yX7_fill, Cond.code yX7_fill cX7_fill 2 none, Cond.fieldLink RX7 92 "FireNetsModel" "keeps" "Z", Cond.fieldLink RX7 26 "FireNetsModel" "purse" "[I", Cond.methodLink RX7 170 yX7_keep, Cond.instanceMethod yX7_keep, Cond.selects RX7 yX7_keep yX7_keep]
def wsX7_take_r3 : List Cond := [Cond.code yX7_keep cX7_keep 2 none, Cond.fieldLink RX7 41 "FireNetsModel" "fireAt" "[I", Cond.fieldLink RX7 44 "FireNetsModel" "guardsAt" "[I", Cond.fieldLink RX7 47 "FireNetsModel" "leftAt" "[I", Cond.methodLink RX7 173 yX7_restore, Cond.instanceMethod yX7_restore, Cond.selects RX7 yX7_restore yX7_restore, Cond.code yX7_restore cX7_restore 2 none, Cond.methodLink RX7 176 yX7_goOn, Cond.instanceMethod yX7_goOn, Cond.selects RX7 yX7_goOn yX7_goOn, Cond.code yX7_goOn cX7_goOn 4 none, Cond.methodLink RX7 139 yX7_guard, Cond.instanceMethod yX7_guard, Cond.selects RX7 yX7_guard yX7_guard, Cond.code yX7_guard cX7_guard 2 none, Cond.methodLink RX7 142 yX7_spreads, Cond.instanceMethod yX7_spreads, Cond.selects RX7 yX7_spreads yX7_spreads, Cond.code yX7_spreads cX7_spreads 2 (some .boolean), Cond.methodLink RX7 118 yX7_near, Cond.instanceMethod yX7_near, Cond.selects RX7 yX7_near yX7_near, Cond.code yX7_near cX7_near 3 (some .int)]
def wsX7_take_r4 : List Cond := [Cond.fieldLink RX7 17 "FireNetsModel" "joined" "[I", Cond.methodLink RX7 179 yX7_compare, Cond.instanceMethod yX7_compare, Cond.selects RX7 yX7_compare yX7_compare, Cond.code yX7_compare cX7_compare 4 none, Cond.methodLink RX7 155 yX7_saved, Cond.instanceMethod yX7_saved, Cond.selects RX7 yX7_saved yX7_saved, Cond.code yX7_saved cX7_saved 1 (some .int), Cond.methodLink RX7 99 yX7_worthOf, Cond.instanceMethod yX7_worthOf, Cond.selects RX7 yX7_worthOf yX7_worthOf, Cond.code yX7_worthOf cX7_worthOf 4 (some .int), Cond.fieldLink RX7 20 "FireNetsModel" "worth" "[I"]
def wsX7_take : List Cond := .code yX7_take cX7_take 3 (some .int) :: ((wsX7_take_r1 ++ (wsX7_take_r2 ++ (wsX7_take_r3 ++ wsX7_take_r4))) ++ wsX70)
def wsX7_least_r1 : List Cond := [Cond.constantLong RX7 187 (90), Cond.fieldLink RX7 56 "FireNetsModel" "kept" "[I", Cond.fieldLink RX7 26 "FireNetsModel" "purse" "[I", Cond.fieldLink RX7 158 "FireNetsModel" "bestSaved" "I", Cond.methodLink RX7 146 yX7_isFire, Cond.instanceMethod yX7_isFire, Cond.selects RX7 yX7_isFire yX7_isFire, Cond.initialized RX7, Cond.code yX7_isFire cX7_isFire 2 (some .boolean), Cond.methodLink RX7 72 yX7_all, Cond.instanceMethod yX7_all, Cond.selects RX7 yX7_all yX7_all, Cond.code yX7_all cX7_all 1 (some .int), Cond.fieldLink RX7 7 "FireNetsModel" "n" "I", Cond.methodLink RX7 68 yX7_in, Cond.static yX7_in, Cond.code yX7_in cX7_in 6 (some .boolean), Cond.methodLink RX7 184 yX7_seek, Cond.instanceMethod yX7_seek, Cond.selects RX7 yX7_seek yX7_seek, Cond.code yX7_seek cX7_seek 5 none, Cond.fieldLink RX7 53 "FireNetsModel" "prices" "[I", Cond.fieldLink RX7 164 "FireNetsModel" "looks" "I", Cond.fieldLink RX7 167 "FireNetsModel" "isSpent" "Z"]
def wsX7_least_r2 : List Cond := [Cond.fieldLink RX7 161 "FireNetsModel" "bestOver" "I", Cond.fieldLink RX7 38 "FireNetsModel" "tried" "[I", Cond.fieldLink RX7 109 "FireNetsModel" "left" "I", Cond.fieldLink RX7 29 "FireNetsModel" "bound" "I", Cond.methodLink RX7 115 yX7_priceOf, Cond.instanceMethod yX7_priceOf, Cond.selects RX7 yX7_priceOf yX7_priceOf, Cond.code yX7_priceOf cX7_priceOf 4 (some .int), Cond.fieldLink RX7 23 "FireNetsModel" "price" "[I", Cond.methodLink RX7 123 yX7_light, Cond.instanceMethod yX7_light, Cond.selects RX7 yX7_light yX7_light, Cond.code yX7_light cX7_light 2 none, Cond.fieldLink RX7 103 "FireNetsModel" "fire" "I", Cond.fieldLink RX7 106 "FireNetsModel" "guards" "I", Cond.fieldLink RX7 112 "FireNetsModel" "cost" "I", Cond.methodLink RX7 133 yX7_fill, Cond.instanceMethod yX7_fill, Cond.selects RX7 yX7_fill yX7_fill, Cond.code yX7_fill cX7_fill 2 none, Cond.fieldLink RX7 92 "FireNetsModel" "keeps" "Z", Cond.methodLink RX7 170 yX7_keep, Cond.instanceMethod yX7_keep, Cond.selects RX7 yX7_keep yX7_keep]
def wsX7_least_r3 : List Cond := [Cond.code yX7_keep cX7_keep 2 none, Cond.fieldLink RX7 41 "FireNetsModel" "fireAt" "[I", Cond.fieldLink RX7 44 "FireNetsModel" "guardsAt" "[I", Cond.fieldLink RX7 47 "FireNetsModel" "leftAt" "[I", Cond.methodLink RX7 173 yX7_restore, Cond.instanceMethod yX7_restore, Cond.selects RX7 yX7_restore yX7_restore, Cond.code yX7_restore cX7_restore 2 none, Cond.methodLink RX7 176 yX7_goOn, Cond.instanceMethod yX7_goOn, Cond.selects RX7 yX7_goOn yX7_goOn, Cond.code yX7_goOn cX7_goOn 4 none, Cond.methodLink RX7 139 yX7_guard, Cond.instanceMethod yX7_guard, Cond.selects RX7 yX7_guard yX7_guard, Cond.code yX7_guard cX7_guard 2 none, Cond.methodLink RX7 142 yX7_spreads, Cond.instanceMethod yX7_spreads, Cond.selects RX7 yX7_spreads yX7_spreads, Cond.code yX7_spreads cX7_spreads 2 (some .boolean), Cond.methodLink RX7 118 yX7_near, Cond.instanceMethod yX7_near, Cond.selects RX7 yX7_near yX7_near, Cond.code yX7_near cX7_near 3 (some .int)]
def wsX7_least_r4 : List Cond := [Cond.fieldLink RX7 17 "FireNetsModel" "joined" "[I", Cond.methodLink RX7 179 yX7_compare, Cond.instanceMethod yX7_compare, Cond.selects RX7 yX7_compare yX7_compare, Cond.code yX7_compare cX7_compare 4 none, Cond.fieldLink RX7 50 "FireNetsModel" "bestSets" "[I", Cond.methodLink RX7 155 yX7_saved, Cond.instanceMethod yX7_saved, Cond.selects RX7 yX7_saved yX7_saved, Cond.code yX7_saved cX7_saved 1 (some .int), Cond.methodLink RX7 99 yX7_worthOf, Cond.instanceMethod yX7_worthOf, Cond.selects RX7 yX7_worthOf yX7_worthOf, Cond.code yX7_worthOf cX7_worthOf 4 (some .int), Cond.fieldLink RX7 20 "FireNetsModel" "worth" "[I"]
def wsX7_least : List Cond := .code yX7_least cX7_least 6 (some .int) :: ((wsX7_least_r1 ++ (wsX7_least_r2 ++ (wsX7_least_r3 ++ wsX7_least_r4))) ++ wsX70)
def wsX7_bits : List Cond := .code yX7_bits cX7_bits 3 (some .int) :: ([])
def wsX7_next : List Cond := .code yX7_next cX7_next 6 (some .int) :: ([.fieldLink RX7 7 "FireNetsModel" "n" "I", .fieldLink RX7 23 "FireNetsModel" "price" "[I", .fieldLink RX7 109 "FireNetsModel" "left" "I", .fieldLink RX7 20 "FireNetsModel" "worth" "[I", .fieldLink RX7 17 "FireNetsModel" "joined" "[I", .fieldLink RX7 103 "FireNetsModel" "fire" "I", .fieldLink RX7 106 "FireNetsModel" "guards" "I", .methodLink RX7 118 yX7_near, .instanceMethod yX7_near, .selects RX7 yX7_near yX7_near, .initialized RX7, .code yX7_near cX7_near 3 (some .int), .methodLink RX7 189 yX7_bits, .static yX7_bits, .code yX7_bits cX7_bits 3 (some .int)] ++ wsX70)
def wsX7_liveOf_r1 : List Cond := [Cond.methodLink RX7 123 yX7_light, Cond.instanceMethod yX7_light, Cond.selects RX7 yX7_light yX7_light, Cond.initialized RX7, Cond.code yX7_light cX7_light 2 none, Cond.fieldLink RX7 103 "FireNetsModel" "fire" "I", Cond.fieldLink RX7 106 "FireNetsModel" "guards" "I", Cond.fieldLink RX7 109 "FireNetsModel" "left" "I", Cond.fieldLink RX7 112 "FireNetsModel" "cost" "I", Cond.methodLink RX7 133 yX7_fill, Cond.instanceMethod yX7_fill, Cond.selects RX7 yX7_fill yX7_fill, Cond.code yX7_fill cX7_fill 2 none, Cond.fieldLink RX7 92 "FireNetsModel" "keeps" "Z", Cond.fieldLink RX7 26 "FireNetsModel" "purse" "[I", Cond.methodLink RX7 192 yX7_next, Cond.instanceMethod yX7_next, Cond.selects RX7 yX7_next yX7_next, Cond.code yX7_next cX7_next 6 (some .int), Cond.fieldLink RX7 7 "FireNetsModel" "n" "I", Cond.fieldLink RX7 23 "FireNetsModel" "price" "[I", Cond.fieldLink RX7 20 "FireNetsModel" "worth" "[I", Cond.fieldLink RX7 17 "FireNetsModel" "joined" "[I", Cond.methodLink RX7 118 yX7_near]
def wsX7_liveOf_r2 : List Cond := [Cond.instanceMethod yX7_near, Cond.selects RX7 yX7_near yX7_near, Cond.code yX7_near cX7_near 3 (some .int), Cond.methodLink RX7 189 yX7_bits, Cond.static yX7_bits, Cond.code yX7_bits cX7_bits 3 (some .int), Cond.methodLink RX7 139 yX7_guard, Cond.instanceMethod yX7_guard, Cond.selects RX7 yX7_guard yX7_guard, Cond.code yX7_guard cX7_guard 2 none, Cond.methodLink RX7 115 yX7_priceOf, Cond.instanceMethod yX7_priceOf, Cond.selects RX7 yX7_priceOf yX7_priceOf, Cond.code yX7_priceOf cX7_priceOf 4 (some .int), Cond.methodLink RX7 142 yX7_spreads, Cond.instanceMethod yX7_spreads, Cond.selects RX7 yX7_spreads yX7_spreads, Cond.code yX7_spreads cX7_spreads 2 (some .boolean)]
def wsX7_liveOf : List Cond := .code yX7_liveOf cX7_liveOf 6 (some .int) :: ((wsX7_liveOf_r1 ++ wsX7_liveOf_r2) ++ wsX70)
def wsX7_isRule : List Cond := .code yX7_isRule cX7_isRule 1 (some .boolean) :: ([.constantLong RX7 195 (2), .methodLink RX7 68 yX7_in, .static yX7_in, .initialized RX7, .code yX7_in cX7_in 6 (some .boolean)])
def wsX7_live_r1 : List Cond := [Cond.constantLong RX7 195 (2), Cond.fieldLink RX7 106 "FireNetsModel" "guards" "I", Cond.methodLink RX7 197 yX7_isRule, Cond.static yX7_isRule, Cond.initialized RX7, Cond.code yX7_isRule cX7_isRule 1 (some .boolean), Cond.methodLink RX7 68 yX7_in, Cond.static yX7_in, Cond.code yX7_in cX7_in 6 (some .boolean), Cond.methodLink RX7 146 yX7_isFire, Cond.instanceMethod yX7_isFire, Cond.selects RX7 yX7_isFire yX7_isFire, Cond.code yX7_isFire cX7_isFire 2 (some .boolean), Cond.methodLink RX7 72 yX7_all, Cond.instanceMethod yX7_all, Cond.selects RX7 yX7_all yX7_all, Cond.code yX7_all cX7_all 1 (some .int), Cond.fieldLink RX7 7 "FireNetsModel" "n" "I", Cond.methodLink RX7 200 yX7_liveOf, Cond.instanceMethod yX7_liveOf, Cond.selects RX7 yX7_liveOf yX7_liveOf, Cond.code yX7_liveOf cX7_liveOf 6 (some .int), Cond.methodLink RX7 123 yX7_light, Cond.instanceMethod yX7_light]
def wsX7_live_r2 : List Cond := [Cond.selects RX7 yX7_light yX7_light, Cond.code yX7_light cX7_light 2 none, Cond.fieldLink RX7 103 "FireNetsModel" "fire" "I", Cond.fieldLink RX7 109 "FireNetsModel" "left" "I", Cond.fieldLink RX7 112 "FireNetsModel" "cost" "I", Cond.methodLink RX7 133 yX7_fill, Cond.instanceMethod yX7_fill, Cond.selects RX7 yX7_fill yX7_fill, Cond.code yX7_fill cX7_fill 2 none, Cond.fieldLink RX7 92 "FireNetsModel" "keeps" "Z", Cond.fieldLink RX7 26 "FireNetsModel" "purse" "[I", Cond.methodLink RX7 192 yX7_next, Cond.instanceMethod yX7_next, Cond.selects RX7 yX7_next yX7_next, Cond.code yX7_next cX7_next 6 (some .int), Cond.fieldLink RX7 23 "FireNetsModel" "price" "[I", Cond.fieldLink RX7 20 "FireNetsModel" "worth" "[I", Cond.fieldLink RX7 17 "FireNetsModel" "joined" "[I", Cond.methodLink RX7 118 yX7_near, Cond.instanceMethod yX7_near, Cond.selects RX7 yX7_near yX7_near, Cond.code yX7_near cX7_near 3 (some .int), Cond.methodLink RX7 189 yX7_bits, Cond.static yX7_bits]
def wsX7_live_r3 : List Cond := [Cond.code yX7_bits cX7_bits 3 (some .int), Cond.methodLink RX7 139 yX7_guard, Cond.instanceMethod yX7_guard, Cond.selects RX7 yX7_guard yX7_guard, Cond.code yX7_guard cX7_guard 2 none, Cond.methodLink RX7 115 yX7_priceOf, Cond.instanceMethod yX7_priceOf, Cond.selects RX7 yX7_priceOf yX7_priceOf, Cond.code yX7_priceOf cX7_priceOf 4 (some .int), Cond.methodLink RX7 142 yX7_spreads, Cond.instanceMethod yX7_spreads, Cond.selects RX7 yX7_spreads yX7_spreads, Cond.code yX7_spreads cX7_spreads 2 (some .boolean), Cond.methodLink RX7 155 yX7_saved, Cond.instanceMethod yX7_saved, Cond.selects RX7 yX7_saved yX7_saved, Cond.code yX7_saved cX7_saved 1 (some .int), Cond.methodLink RX7 99 yX7_worthOf, Cond.instanceMethod yX7_worthOf, Cond.selects RX7 yX7_worthOf yX7_worthOf, Cond.code yX7_worthOf cX7_worthOf 4 (some .int)]
def wsX7_live : List Cond := .code yX7_live cX7_live 5 (some .int) :: ((wsX7_live_r1 ++ (wsX7_live_r2 ++ wsX7_live_r3)) ++ wsX70)
def wsX7_part : List Cond := .code yX7_part cX7_part 6 (some .int) :: ([])
def wsX7_findShare_r1 : List Cond := [Cond.fieldLink RX7 204 "FireNetsModel" "shareUpper" "I", Cond.fieldLink RX7 158 "FireNetsModel" "bestSaved" "I", Cond.fieldLink RX7 207 "FireNetsModel" "shareLower" "I", Cond.methodLink RX7 200 yX7_liveOf, Cond.instanceMethod yX7_liveOf, Cond.selects RX7 yX7_liveOf yX7_liveOf, Cond.initialized RX7, Cond.code yX7_liveOf cX7_liveOf 6 (some .int), Cond.methodLink RX7 123 yX7_light, Cond.instanceMethod yX7_light, Cond.selects RX7 yX7_light yX7_light, Cond.code yX7_light cX7_light 2 none, Cond.fieldLink RX7 103 "FireNetsModel" "fire" "I", Cond.fieldLink RX7 106 "FireNetsModel" "guards" "I", Cond.fieldLink RX7 109 "FireNetsModel" "left" "I", Cond.fieldLink RX7 112 "FireNetsModel" "cost" "I", Cond.methodLink RX7 133 yX7_fill, Cond.instanceMethod yX7_fill, Cond.selects RX7 yX7_fill yX7_fill, Cond.code yX7_fill cX7_fill 2 none, Cond.fieldLink RX7 92 "FireNetsModel" "keeps" "Z", Cond.fieldLink RX7 26 "FireNetsModel" "purse" "[I", Cond.methodLink RX7 192 yX7_next, Cond.instanceMethod yX7_next]
def wsX7_findShare_r2 : List Cond := [Cond.selects RX7 yX7_next yX7_next, Cond.code yX7_next cX7_next 6 (some .int), Cond.fieldLink RX7 7 "FireNetsModel" "n" "I", Cond.fieldLink RX7 23 "FireNetsModel" "price" "[I", Cond.fieldLink RX7 20 "FireNetsModel" "worth" "[I", Cond.fieldLink RX7 17 "FireNetsModel" "joined" "[I", Cond.methodLink RX7 118 yX7_near, Cond.instanceMethod yX7_near, Cond.selects RX7 yX7_near yX7_near, Cond.code yX7_near cX7_near 3 (some .int), Cond.methodLink RX7 189 yX7_bits, Cond.static yX7_bits, Cond.code yX7_bits cX7_bits 3 (some .int), Cond.methodLink RX7 139 yX7_guard, Cond.instanceMethod yX7_guard, Cond.selects RX7 yX7_guard yX7_guard, Cond.code yX7_guard cX7_guard 2 none, Cond.methodLink RX7 115 yX7_priceOf, Cond.instanceMethod yX7_priceOf, Cond.selects RX7 yX7_priceOf yX7_priceOf, Cond.code yX7_priceOf cX7_priceOf 4 (some .int), Cond.methodLink RX7 142 yX7_spreads, Cond.instanceMethod yX7_spreads, Cond.selects RX7 yX7_spreads yX7_spreads]
def wsX7_findShare_r3 : List Cond := [Cond.code yX7_spreads cX7_spreads 2 (some .boolean), Cond.methodLink RX7 155 yX7_saved, Cond.instanceMethod yX7_saved, Cond.selects RX7 yX7_saved yX7_saved, Cond.code yX7_saved cX7_saved 1 (some .int), Cond.methodLink RX7 72 yX7_all, Cond.instanceMethod yX7_all, Cond.selects RX7 yX7_all yX7_all, Cond.code yX7_all cX7_all 1 (some .int), Cond.methodLink RX7 99 yX7_worthOf, Cond.instanceMethod yX7_worthOf, Cond.selects RX7 yX7_worthOf yX7_worthOf, Cond.code yX7_worthOf cX7_worthOf 4 (some .int), Cond.methodLink RX7 184 yX7_seek, Cond.instanceMethod yX7_seek, Cond.selects RX7 yX7_seek yX7_seek, Cond.code yX7_seek cX7_seek 5 none, Cond.fieldLink RX7 53 "FireNetsModel" "prices" "[I", Cond.fieldLink RX7 164 "FireNetsModel" "looks" "I", Cond.fieldLink RX7 167 "FireNetsModel" "isSpent" "Z", Cond.fieldLink RX7 161 "FireNetsModel" "bestOver" "I", Cond.fieldLink RX7 38 "FireNetsModel" "tried" "[I", Cond.fieldLink RX7 29 "FireNetsModel" "bound" "I", Cond.methodLink RX7 170 yX7_keep]
def wsX7_findShare_r4 : List Cond := [Cond.instanceMethod yX7_keep, Cond.selects RX7 yX7_keep yX7_keep, Cond.code yX7_keep cX7_keep 2 none, Cond.fieldLink RX7 41 "FireNetsModel" "fireAt" "[I", Cond.fieldLink RX7 44 "FireNetsModel" "guardsAt" "[I", Cond.fieldLink RX7 47 "FireNetsModel" "leftAt" "[I", Cond.methodLink RX7 173 yX7_restore, Cond.instanceMethod yX7_restore, Cond.selects RX7 yX7_restore yX7_restore, Cond.code yX7_restore cX7_restore 2 none, Cond.methodLink RX7 176 yX7_goOn, Cond.instanceMethod yX7_goOn, Cond.selects RX7 yX7_goOn yX7_goOn, Cond.code yX7_goOn cX7_goOn 4 none, Cond.methodLink RX7 179 yX7_compare, Cond.instanceMethod yX7_compare, Cond.selects RX7 yX7_compare yX7_compare, Cond.code yX7_compare cX7_compare 4 none, Cond.fieldLink RX7 50 "FireNetsModel" "bestSets" "[I"]
def wsX7_findShare : List Cond := .code yX7_findShare cX7_findShare 4 none :: ((wsX7_findShare_r1 ++ (wsX7_findShare_r2 ++ (wsX7_findShare_r3 ++ wsX7_findShare_r4))) ++ wsX70)
def wsX7_share_r1 : List Cond := [Cond.fieldLink RX7 204 "FireNetsModel" "shareUpper" "I", Cond.fieldLink RX7 207 "FireNetsModel" "shareLower" "I", Cond.methodLink RX7 197 yX7_isRule, Cond.static yX7_isRule, Cond.initialized RX7, Cond.code yX7_isRule cX7_isRule 1 (some .boolean), Cond.constantLong RX7 195 (2), Cond.methodLink RX7 68 yX7_in, Cond.static yX7_in, Cond.code yX7_in cX7_in 6 (some .boolean), Cond.methodLink RX7 146 yX7_isFire, Cond.instanceMethod yX7_isFire, Cond.selects RX7 yX7_isFire yX7_isFire, Cond.code yX7_isFire cX7_isFire 2 (some .boolean), Cond.methodLink RX7 72 yX7_all, Cond.instanceMethod yX7_all, Cond.selects RX7 yX7_all yX7_all, Cond.code yX7_all cX7_all 1 (some .int), Cond.fieldLink RX7 7 "FireNetsModel" "n" "I", Cond.methodLink RX7 210 yX7_findShare, Cond.instanceMethod yX7_findShare, Cond.selects RX7 yX7_findShare yX7_findShare, Cond.code yX7_findShare cX7_findShare 4 none, Cond.fieldLink RX7 158 "FireNetsModel" "bestSaved" "I"]
def wsX7_share_r2 : List Cond := [Cond.methodLink RX7 200 yX7_liveOf, Cond.instanceMethod yX7_liveOf, Cond.selects RX7 yX7_liveOf yX7_liveOf, Cond.code yX7_liveOf cX7_liveOf 6 (some .int), Cond.methodLink RX7 123 yX7_light, Cond.instanceMethod yX7_light, Cond.selects RX7 yX7_light yX7_light, Cond.code yX7_light cX7_light 2 none, Cond.fieldLink RX7 103 "FireNetsModel" "fire" "I", Cond.fieldLink RX7 106 "FireNetsModel" "guards" "I", Cond.fieldLink RX7 109 "FireNetsModel" "left" "I", Cond.fieldLink RX7 112 "FireNetsModel" "cost" "I", Cond.methodLink RX7 133 yX7_fill, Cond.instanceMethod yX7_fill, Cond.selects RX7 yX7_fill yX7_fill, Cond.code yX7_fill cX7_fill 2 none, Cond.fieldLink RX7 92 "FireNetsModel" "keeps" "Z", Cond.fieldLink RX7 26 "FireNetsModel" "purse" "[I", Cond.methodLink RX7 192 yX7_next, Cond.instanceMethod yX7_next, Cond.selects RX7 yX7_next yX7_next, Cond.code yX7_next cX7_next 6 (some .int), Cond.fieldLink RX7 23 "FireNetsModel" "price" "[I", Cond.fieldLink RX7 20 "FireNetsModel" "worth" "[I"]
def wsX7_share_r3 : List Cond := [Cond.fieldLink RX7 17 "FireNetsModel" "joined" "[I", Cond.methodLink RX7 118 yX7_near, Cond.instanceMethod yX7_near, Cond.selects RX7 yX7_near yX7_near, Cond.code yX7_near cX7_near 3 (some .int), Cond.methodLink RX7 189 yX7_bits, Cond.static yX7_bits, Cond.code yX7_bits cX7_bits 3 (some .int), Cond.methodLink RX7 139 yX7_guard, Cond.instanceMethod yX7_guard, Cond.selects RX7 yX7_guard yX7_guard, Cond.code yX7_guard cX7_guard 2 none, Cond.methodLink RX7 115 yX7_priceOf, Cond.instanceMethod yX7_priceOf, Cond.selects RX7 yX7_priceOf yX7_priceOf, Cond.code yX7_priceOf cX7_priceOf 4 (some .int), Cond.methodLink RX7 142 yX7_spreads, Cond.instanceMethod yX7_spreads, Cond.selects RX7 yX7_spreads yX7_spreads, Cond.code yX7_spreads cX7_spreads 2 (some .boolean), Cond.methodLink RX7 155 yX7_saved, Cond.instanceMethod yX7_saved, Cond.selects RX7 yX7_saved yX7_saved, Cond.code yX7_saved cX7_saved 1 (some .int)]
def wsX7_share_r4 : List Cond := [Cond.methodLink RX7 99 yX7_worthOf, Cond.instanceMethod yX7_worthOf, Cond.selects RX7 yX7_worthOf yX7_worthOf, Cond.code yX7_worthOf cX7_worthOf 4 (some .int), Cond.methodLink RX7 184 yX7_seek, Cond.instanceMethod yX7_seek, Cond.selects RX7 yX7_seek yX7_seek, Cond.code yX7_seek cX7_seek 5 none, Cond.fieldLink RX7 53 "FireNetsModel" "prices" "[I", Cond.fieldLink RX7 164 "FireNetsModel" "looks" "I", Cond.fieldLink RX7 167 "FireNetsModel" "isSpent" "Z", Cond.fieldLink RX7 161 "FireNetsModel" "bestOver" "I", Cond.fieldLink RX7 38 "FireNetsModel" "tried" "[I", Cond.fieldLink RX7 29 "FireNetsModel" "bound" "I", Cond.methodLink RX7 170 yX7_keep, Cond.instanceMethod yX7_keep, Cond.selects RX7 yX7_keep yX7_keep, Cond.code yX7_keep cX7_keep 2 none, Cond.fieldLink RX7 41 "FireNetsModel" "fireAt" "[I", Cond.fieldLink RX7 44 "FireNetsModel" "guardsAt" "[I", Cond.fieldLink RX7 47 "FireNetsModel" "leftAt" "[I", Cond.methodLink RX7 173 yX7_restore, Cond.instanceMethod yX7_restore, Cond.selects RX7 yX7_restore yX7_restore]
def wsX7_share_r5 : List Cond := [Cond.code yX7_restore cX7_restore 2 none, Cond.methodLink RX7 176 yX7_goOn, Cond.instanceMethod yX7_goOn, Cond.selects RX7 yX7_goOn yX7_goOn, Cond.code yX7_goOn cX7_goOn 4 none, Cond.methodLink RX7 179 yX7_compare, Cond.instanceMethod yX7_compare, Cond.selects RX7 yX7_compare yX7_compare, Cond.code yX7_compare cX7_compare 4 none, Cond.fieldLink RX7 50 "FireNetsModel" "bestSets" "[I", Cond.methodLink RX7 213 yX7_part, Cond.static yX7_part, Cond.code yX7_part cX7_part 6 (some .int)]
def wsX7_share : List Cond := .code yX7_share cX7_share 4 (some .int) :: ((wsX7_share_r1 ++ (wsX7_share_r2 ++ (wsX7_share_r3 ++ (wsX7_share_r4 ++ wsX7_share_r5)))) ++ wsX70)
def wsX7_worst_r1 : List Cond := [Cond.fieldLink RX7 7 "FireNetsModel" "n" "I", Cond.fieldLink RX7 204 "FireNetsModel" "shareUpper" "I", Cond.fieldLink RX7 207 "FireNetsModel" "shareLower" "I", Cond.methodLink RX7 197 yX7_isRule, Cond.static yX7_isRule, Cond.initialized RX7, Cond.code yX7_isRule cX7_isRule 1 (some .boolean), Cond.constantLong RX7 195 (2), Cond.methodLink RX7 68 yX7_in, Cond.static yX7_in, Cond.code yX7_in cX7_in 6 (some .boolean), Cond.methodLink RX7 210 yX7_findShare, Cond.instanceMethod yX7_findShare, Cond.selects RX7 yX7_findShare yX7_findShare, Cond.code yX7_findShare cX7_findShare 4 none, Cond.fieldLink RX7 158 "FireNetsModel" "bestSaved" "I", Cond.methodLink RX7 200 yX7_liveOf, Cond.instanceMethod yX7_liveOf, Cond.selects RX7 yX7_liveOf yX7_liveOf, Cond.code yX7_liveOf cX7_liveOf 6 (some .int), Cond.methodLink RX7 123 yX7_light, Cond.instanceMethod yX7_light, Cond.selects RX7 yX7_light yX7_light, Cond.code yX7_light cX7_light 2 none]
def wsX7_worst_r2 : List Cond := [Cond.fieldLink RX7 103 "FireNetsModel" "fire" "I", Cond.fieldLink RX7 106 "FireNetsModel" "guards" "I", Cond.fieldLink RX7 109 "FireNetsModel" "left" "I", Cond.fieldLink RX7 112 "FireNetsModel" "cost" "I", Cond.methodLink RX7 133 yX7_fill, Cond.instanceMethod yX7_fill, Cond.selects RX7 yX7_fill yX7_fill, Cond.code yX7_fill cX7_fill 2 none, Cond.fieldLink RX7 92 "FireNetsModel" "keeps" "Z", Cond.fieldLink RX7 26 "FireNetsModel" "purse" "[I", Cond.methodLink RX7 192 yX7_next, Cond.instanceMethod yX7_next, Cond.selects RX7 yX7_next yX7_next, Cond.code yX7_next cX7_next 6 (some .int), Cond.fieldLink RX7 23 "FireNetsModel" "price" "[I", Cond.fieldLink RX7 20 "FireNetsModel" "worth" "[I", Cond.fieldLink RX7 17 "FireNetsModel" "joined" "[I", Cond.methodLink RX7 118 yX7_near, Cond.instanceMethod yX7_near, Cond.selects RX7 yX7_near yX7_near, Cond.code yX7_near cX7_near 3 (some .int), Cond.methodLink RX7 189 yX7_bits, Cond.static yX7_bits, Cond.code yX7_bits cX7_bits 3 (some .int)]
def wsX7_worst_r3 : List Cond := [Cond.methodLink RX7 139 yX7_guard, Cond.instanceMethod yX7_guard, Cond.selects RX7 yX7_guard yX7_guard, Cond.code yX7_guard cX7_guard 2 none, Cond.methodLink RX7 115 yX7_priceOf, Cond.instanceMethod yX7_priceOf, Cond.selects RX7 yX7_priceOf yX7_priceOf, Cond.code yX7_priceOf cX7_priceOf 4 (some .int), Cond.methodLink RX7 142 yX7_spreads, Cond.instanceMethod yX7_spreads, Cond.selects RX7 yX7_spreads yX7_spreads, Cond.code yX7_spreads cX7_spreads 2 (some .boolean), Cond.methodLink RX7 155 yX7_saved, Cond.instanceMethod yX7_saved, Cond.selects RX7 yX7_saved yX7_saved, Cond.code yX7_saved cX7_saved 1 (some .int), Cond.methodLink RX7 72 yX7_all, Cond.instanceMethod yX7_all, Cond.selects RX7 yX7_all yX7_all, Cond.code yX7_all cX7_all 1 (some .int), Cond.methodLink RX7 99 yX7_worthOf, Cond.instanceMethod yX7_worthOf, Cond.selects RX7 yX7_worthOf yX7_worthOf, Cond.code yX7_worthOf cX7_worthOf 4 (some .int)]
def wsX7_worst_r4 : List Cond := [Cond.methodLink RX7 184 yX7_seek, Cond.instanceMethod yX7_seek, Cond.selects RX7 yX7_seek yX7_seek, Cond.code yX7_seek cX7_seek 5 none, Cond.fieldLink RX7 53 "FireNetsModel" "prices" "[I", Cond.fieldLink RX7 164 "FireNetsModel" "looks" "I", Cond.fieldLink RX7 167 "FireNetsModel" "isSpent" "Z", Cond.fieldLink RX7 161 "FireNetsModel" "bestOver" "I", Cond.fieldLink RX7 38 "FireNetsModel" "tried" "[I", Cond.fieldLink RX7 29 "FireNetsModel" "bound" "I", Cond.methodLink RX7 170 yX7_keep, Cond.instanceMethod yX7_keep, Cond.selects RX7 yX7_keep yX7_keep, Cond.code yX7_keep cX7_keep 2 none, Cond.fieldLink RX7 41 "FireNetsModel" "fireAt" "[I", Cond.fieldLink RX7 44 "FireNetsModel" "guardsAt" "[I", Cond.fieldLink RX7 47 "FireNetsModel" "leftAt" "[I", Cond.methodLink RX7 173 yX7_restore, Cond.instanceMethod yX7_restore, Cond.selects RX7 yX7_restore yX7_restore, Cond.code yX7_restore cX7_restore 2 none, Cond.methodLink RX7 176 yX7_goOn, Cond.instanceMethod yX7_goOn, Cond.selects RX7 yX7_goOn yX7_goOn]
def wsX7_worst_r5 : List Cond := [Cond.code yX7_goOn cX7_goOn 4 none, Cond.methodLink RX7 179 yX7_compare, Cond.instanceMethod yX7_compare, Cond.selects RX7 yX7_compare yX7_compare, Cond.code yX7_compare cX7_compare 4 none, Cond.fieldLink RX7 50 "FireNetsModel" "bestSets" "[I"]
def wsX7_worst : List Cond := .code yX7_worst cX7_worst 6 (some .int) :: ((wsX7_worst_r1 ++ (wsX7_worst_r2 ++ (wsX7_worst_r3 ++ (wsX7_worst_r4 ++ wsX7_worst_r5)))) ++ wsX70)
def wsX7_mean_r1 : List Cond := [Cond.fieldLink RX7 7 "FireNetsModel" "n" "I", Cond.methodLink RX7 197 yX7_isRule, Cond.static yX7_isRule, Cond.initialized RX7, Cond.code yX7_isRule cX7_isRule 1 (some .boolean), Cond.constantLong RX7 195 (2), Cond.methodLink RX7 68 yX7_in, Cond.static yX7_in, Cond.code yX7_in cX7_in 6 (some .boolean), Cond.methodLink RX7 146 yX7_isFire, Cond.instanceMethod yX7_isFire, Cond.selects RX7 yX7_isFire yX7_isFire, Cond.code yX7_isFire cX7_isFire 2 (some .boolean), Cond.methodLink RX7 72 yX7_all, Cond.instanceMethod yX7_all, Cond.selects RX7 yX7_all yX7_all, Cond.code yX7_all cX7_all 1 (some .int), Cond.methodLink RX7 200 yX7_liveOf, Cond.instanceMethod yX7_liveOf, Cond.selects RX7 yX7_liveOf yX7_liveOf, Cond.code yX7_liveOf cX7_liveOf 6 (some .int), Cond.methodLink RX7 123 yX7_light, Cond.instanceMethod yX7_light, Cond.selects RX7 yX7_light yX7_light]
def wsX7_mean_r2 : List Cond := [Cond.code yX7_light cX7_light 2 none, Cond.fieldLink RX7 103 "FireNetsModel" "fire" "I", Cond.fieldLink RX7 106 "FireNetsModel" "guards" "I", Cond.fieldLink RX7 109 "FireNetsModel" "left" "I", Cond.fieldLink RX7 112 "FireNetsModel" "cost" "I", Cond.methodLink RX7 133 yX7_fill, Cond.instanceMethod yX7_fill, Cond.selects RX7 yX7_fill yX7_fill, Cond.code yX7_fill cX7_fill 2 none, Cond.fieldLink RX7 92 "FireNetsModel" "keeps" "Z", Cond.fieldLink RX7 26 "FireNetsModel" "purse" "[I", Cond.methodLink RX7 192 yX7_next, Cond.instanceMethod yX7_next, Cond.selects RX7 yX7_next yX7_next, Cond.code yX7_next cX7_next 6 (some .int), Cond.fieldLink RX7 23 "FireNetsModel" "price" "[I", Cond.fieldLink RX7 20 "FireNetsModel" "worth" "[I", Cond.fieldLink RX7 17 "FireNetsModel" "joined" "[I", Cond.methodLink RX7 118 yX7_near, Cond.instanceMethod yX7_near, Cond.selects RX7 yX7_near yX7_near, Cond.code yX7_near cX7_near 3 (some .int), Cond.methodLink RX7 189 yX7_bits, Cond.static yX7_bits]
def wsX7_mean_r3 : List Cond := [Cond.code yX7_bits cX7_bits 3 (some .int), Cond.methodLink RX7 139 yX7_guard, Cond.instanceMethod yX7_guard, Cond.selects RX7 yX7_guard yX7_guard, Cond.code yX7_guard cX7_guard 2 none, Cond.methodLink RX7 115 yX7_priceOf, Cond.instanceMethod yX7_priceOf, Cond.selects RX7 yX7_priceOf yX7_priceOf, Cond.code yX7_priceOf cX7_priceOf 4 (some .int), Cond.methodLink RX7 142 yX7_spreads, Cond.instanceMethod yX7_spreads, Cond.selects RX7 yX7_spreads yX7_spreads, Cond.code yX7_spreads cX7_spreads 2 (some .boolean), Cond.methodLink RX7 155 yX7_saved, Cond.instanceMethod yX7_saved, Cond.selects RX7 yX7_saved yX7_saved, Cond.code yX7_saved cX7_saved 1 (some .int), Cond.methodLink RX7 99 yX7_worthOf, Cond.instanceMethod yX7_worthOf, Cond.selects RX7 yX7_worthOf yX7_worthOf, Cond.code yX7_worthOf cX7_worthOf 4 (some .int), Cond.methodLink RX7 213 yX7_part, Cond.static yX7_part, Cond.code yX7_part cX7_part 6 (some .int)]
def wsX7_mean : List Cond := .code yX7_mean cX7_mean 7 (some .int) :: ((wsX7_mean_r1 ++ (wsX7_mean_r2 ++ wsX7_mean_r3)) ++ wsX70)
def wsX7_reached : List Cond := .code yX7_reached cX7_reached 10 (some .int) :: ([.fieldLink RX7 65 "FireNetsModel" "lines" "I", .fieldLink RX7 13 "FireNetsModel" "ends" "[I"] ++ wsX70)
def wsX7_power : List Cond := .code yX7_power cX7_power 6 (some .long) :: ([])
def wsX7_chance_r1 : List Cond := [Cond.constantLong RX7 217 (-1001), Cond.constantLong RX7 219 (6), Cond.constantLong RX7 221 (-1002), Cond.fieldLink RX7 65 "FireNetsModel" "lines" "I", Cond.constantLong RX7 223 (-1003), Cond.methodLink RX7 78 yX7_isNode, Cond.instanceMethod yX7_isNode, Cond.selects RX7 yX7_isNode yX7_isNode, Cond.initialized RX7, Cond.code yX7_isNode cX7_isNode 2 (some .boolean), Cond.fieldLink RX7 7 "FireNetsModel" "n" "I", Cond.methodLink RX7 68 yX7_in, Cond.static yX7_in, Cond.code yX7_in cX7_in 6 (some .boolean), Cond.methodLink RX7 146 yX7_isFire, Cond.instanceMethod yX7_isFire, Cond.selects RX7 yX7_isFire yX7_isFire, Cond.code yX7_isFire cX7_isFire 2 (some .boolean), Cond.methodLink RX7 72 yX7_all, Cond.instanceMethod yX7_all, Cond.selects RX7 yX7_all yX7_all, Cond.code yX7_all cX7_all 1 (some .int), Cond.methodLink RX7 225 yX7_reached, Cond.instanceMethod yX7_reached]
def wsX7_chance_r2 : List Cond := [Cond.selects RX7 yX7_reached yX7_reached, Cond.code yX7_reached cX7_reached 10 (some .int), Cond.fieldLink RX7 13 "FireNetsModel" "ends" "[I", Cond.methodLink RX7 228 yX7_power, Cond.static yX7_power, Cond.code yX7_power cX7_power 6 (some .long)]
def wsX7_chance : List Cond := .code yX7_chance cX7_chance 17 (some .long) :: ((wsX7_chance_r1 ++ wsX7_chance_r2) ++ wsX70)
def wsX7_square : List Cond := .code yX7_square cX7_square 2 (some .int) :: ([])
def wsX7_wall : List Cond := .code yX7_wall cX7_wall 5 (some .int) :: ([.constantLong RX7 232 (-30), .constantLong RX7 234 (30), .constantLong RX7 86 (20), .fieldLink RX7 96 "FireNetsModel" "squares" "I", .fieldLink RX7 35 "FireNetsModel" "wall" "[I", .methodLink RX7 68 yX7_in, .static yX7_in, .initialized RX7, .code yX7_in cX7_in 6 (some .boolean)] ++ wsX70)
def wsX7_raze : List Cond := .code yX7_raze cX7_raze 2 (some .int) :: ([.fieldLink RX7 96 "FireNetsModel" "squares" "I"] ++ wsX70)
def wsX7_build : List Cond := .code yX7_build cX7_build 4 none :: ([.fieldLink RX7 96 "FireNetsModel" "squares" "I", .fieldLink RX7 35 "FireNetsModel" "wall" "[I", .fieldLink RX7 239 "FireNetsModel" "lost" "I", .fieldLink RX7 59 "FireNetsModel" "board" "[I", .methodLink RX7 236 yX7_square, .static yX7_square, .initialized RX7, .code yX7_square cX7_square 2 (some .int)] ++ wsX70)
def wsX7_touches : List Cond := .code yX7_touches cX7_touches 3 (some .boolean) :: ([.fieldLink RX7 59 "FireNetsModel" "board" "[I", .methodLink RX7 236 yX7_square, .static yX7_square, .initialized RX7, .code yX7_square cX7_square 2 (some .int)] ++ wsX70)
def wsX7_burnOn : List Cond := .code yX7_burnOn cX7_burnOn 4 (some .boolean) :: ([.fieldLink RX7 59 "FireNetsModel" "board" "[I", .methodLink RX7 236 yX7_square, .static yX7_square, .initialized RX7, .code yX7_square cX7_square 2 (some .int), .methodLink RX7 242 yX7_touches, .instanceMethod yX7_touches, .selects RX7 yX7_touches yX7_touches, .code yX7_touches cX7_touches 3 (some .boolean)] ++ wsX70)
def wsX7_run : List Cond := .code yX7_run cX7_run 2 none :: ([.fieldLink RX7 59 "FireNetsModel" "board" "[I", .fieldLink RX7 239 "FireNetsModel" "lost" "I", .fieldLink RX7 246 "FireNetsModel" "shutAt" "I", .methodLink RX7 236 yX7_square, .static yX7_square, .initialized RX7, .code yX7_square cX7_square 2 (some .int), .methodLink RX7 249 yX7_build, .instanceMethod yX7_build, .selects RX7 yX7_build yX7_build, .code yX7_build cX7_build 4 none, .fieldLink RX7 96 "FireNetsModel" "squares" "I", .fieldLink RX7 35 "FireNetsModel" "wall" "[I", .methodLink RX7 252 yX7_burnOn, .instanceMethod yX7_burnOn, .selects RX7 yX7_burnOn yX7_burnOn, .code yX7_burnOn cX7_burnOn 4 (some .boolean), .methodLink RX7 242 yX7_touches, .instanceMethod yX7_touches, .selects RX7 yX7_touches yX7_touches, .code yX7_touches cX7_touches 3 (some .boolean)] ++ wsX70)
def wsX7_size : List Cond := .code yX7_size cX7_size 1 (some .int) :: ([])
def wsX7_board_r1 : List Cond := [Cond.constantLong RX7 255 (3), Cond.fieldLink RX7 59 "FireNetsModel" "board" "[I", Cond.fieldLink RX7 246 "FireNetsModel" "shutAt" "I", Cond.fieldLink RX7 239 "FireNetsModel" "lost" "I", Cond.methodLink RX7 68 yX7_in, Cond.static yX7_in, Cond.initialized RX7, Cond.code yX7_in cX7_in 6 (some .boolean), Cond.methodLink RX7 257 yX7_run, Cond.instanceMethod yX7_run, Cond.selects RX7 yX7_run yX7_run, Cond.code yX7_run cX7_run 2 none, Cond.methodLink RX7 236 yX7_square, Cond.static yX7_square, Cond.code yX7_square cX7_square 2 (some .int), Cond.methodLink RX7 249 yX7_build, Cond.instanceMethod yX7_build, Cond.selects RX7 yX7_build yX7_build, Cond.code yX7_build cX7_build 4 none, Cond.fieldLink RX7 96 "FireNetsModel" "squares" "I", Cond.fieldLink RX7 35 "FireNetsModel" "wall" "[I", Cond.methodLink RX7 252 yX7_burnOn, Cond.instanceMethod yX7_burnOn, Cond.selects RX7 yX7_burnOn yX7_burnOn]
def wsX7_board_r2 : List Cond := [Cond.code yX7_burnOn cX7_burnOn 4 (some .boolean), Cond.methodLink RX7 242 yX7_touches, Cond.instanceMethod yX7_touches, Cond.selects RX7 yX7_touches yX7_touches, Cond.code yX7_touches cX7_touches 3 (some .boolean), Cond.methodLink RX7 260 yX7_size, Cond.static yX7_size, Cond.code yX7_size cX7_size 1 (some .int)]
def wsX7_board : List Cond := .code yX7_board cX7_board 7 (some .int) :: ((wsX7_board_r1 ++ wsX7_board_r2) ++ wsX70)
def wsJ9_abs_0f7a4 : List Cond := .code yJ9_abs_0f7a4 cJ9_abs_0f7a4 1 (some .int) :: ([])
def wsJ9_max_7cf53 : List Cond := .code yJ9_max_7cf53 cJ9_max_7cf53 2 (some .int) :: ([])
def wsJ9_min_7cf53 : List Cond := .code yJ9_min_7cf53 cJ9_min_7cf53 2 (some .int) :: ([])
def wsL_law_r1 : List Cond := [Cond.classLink RL 7 RX6, Cond.instantiable RX6 8, Cond.initialized RX6, Cond.classLink RL 10 RX7, Cond.instantiable RX7 34, Cond.initialized RX7, Cond.methodLink RL 9 yX6_init, Cond.instanceMethod yX6_init, Cond.code yX6_init cX6_init 1 none, Cond.methodLink RX6 1 objectInit, Cond.instanceMethod objectInit, Cond.code objectInit ⟨#[0xb1]⟩ 1 none, Cond.classLink RX6 7 RX3, Cond.instantiable RX3 6, Cond.initialized RX3, Cond.fieldLink RX6 10 "FireNets" "theNet" "LFireNets$Net;", Cond.classLink RX6 16 RX4, Cond.instantiable RX4 2, Cond.initialized RX4, Cond.fieldLink RX6 19 "FireNets" "thePurses" "LFireNets$Purses;", Cond.arrayClass .int, Cond.fieldLink RX6 23 "FireNets" "thePlan" "[I", Cond.classLink RX6 27 RX2, Cond.instantiable RX2 7]
def wsL_law_r2 : List Cond := [Cond.initialized RX2, Cond.fieldLink RX6 30 "FireNets" "theCourse" "LFireNets$Course;", Cond.classLink RX6 34 RX5, Cond.instantiable RX5 8, Cond.initialized RX5, Cond.fieldLink RX6 37 "FireNets" "theSearch" "LFireNets$Search;", Cond.classLink RX6 41 RX1, Cond.instantiable RX1 5, Cond.initialized RX1, Cond.fieldLink RX6 44 "FireNets" "theChances" "LFireNets$Chances;", Cond.classLink RX6 48 RX0, Cond.instantiable RX0 9, Cond.initialized RX0, Cond.fieldLink RX6 51 "FireNets" "theBoard" "LFireNets$Board;", Cond.fieldLink RX6 55 "FireNets" "bound" "I", Cond.methodLink RX6 9 yX3_init, Cond.instanceMethod yX3_init, Cond.code yX3_init cX3_init 1 none, Cond.methodLink RX3 3 objectInit, Cond.fieldLink RX3 9 "FireNets$Net" "worth" "[I", Cond.fieldLink RX3 15 "FireNets$Net" "price" "[I", Cond.fieldLink RX3 18 "FireNets$Net" "near" "[I", Cond.fieldLink RX3 21 "FireNets$Net" "ends" "[I", Cond.methodLink RX3 24 yX3_renew]
def wsL_law_r3 : List Cond := [Cond.instanceMethod yX3_renew, Cond.selects RX3 yX3_renew yX3_renew, Cond.code yX3_renew cX3_renew 2 none, Cond.fieldLink RX3 28 "FireNets$Net" "nodes" "I", Cond.fieldLink RX3 32 "FireNets$Net" "lines" "I", Cond.methodLink RX3 35 yJ7_fill_53178, Cond.static yJ7_fill_53178, Cond.initialized RJ7, Cond.code yJ7_fill_53178 cJ7_fill_53178 4 none, Cond.methodLink RX6 18 yX4_init, Cond.instanceMethod yX4_init, Cond.code yX4_init cX4_init 1 none, Cond.methodLink RX4 3 objectInit, Cond.fieldLink RX4 9 "FireNets$Purses" "own" "[I", Cond.methodLink RX4 15 yJ7_fill_53178, Cond.instanceMethod yX2_init, Cond.code yX2_init cX2_init 1 none, Cond.methodLink RX2 3 objectInit, Cond.methodLink RX6 36 yX5_init, Cond.instanceMethod yX5_init, Cond.code yX5_init cX5_init 1 none, Cond.methodLink RX5 3 objectInit, Cond.classLink RX5 9 RX4, Cond.fieldLink RX5 12 "FireNets$Search" "purses" "LFireNets$Purses;"]
def wsL_law_r4 : List Cond := [Cond.fieldLink RX5 18 "FireNets$Search" "way" "[I", Cond.fieldLink RX5 22 "FireNets$Search" "kept" "[I", Cond.methodLink RX5 11 yX4_init, Cond.methodLink RX6 43 yX1_init, Cond.instanceMethod yX1_init, Cond.code yX1_init cX1_init 1 none, Cond.methodLink RX1 3 objectInit, Cond.fieldLink RX1 9 "FireNets$Chances" "ends" "[I", Cond.methodLink RX6 50 yX0_init, Cond.instanceMethod yX0_init, Cond.code yX0_init cX0_init 1 none, Cond.methodLink RX0 5 objectInit, Cond.fieldLink RX0 11 "FireNets$Board" "wallX" "[I", Cond.fieldLink RX0 15 "FireNets$Board" "wallY" "[I", Cond.fieldLink RX0 18 "FireNets$Board" "wallTick" "[I", Cond.arrayClass .long, Cond.fieldLink RX0 21 "FireNets$Board" "burning" "[J", Cond.fieldLink RX0 25 "FireNets$Board" "after" "[J", Cond.fieldLink RX0 28 "FireNets$Board" "guarded" "[J", Cond.methodLink RL 12 yX7_init, Cond.instanceMethod yX7_init, Cond.code yX7_init cX7_init 2 none, Cond.methodLink RX7 1 objectInit, Cond.fieldLink RX7 7 "FireNetsModel" "n" "I"]
def wsL_law_r5 : List Cond := [Cond.fieldLink RX7 13 "FireNetsModel" "ends" "[I", Cond.fieldLink RX7 17 "FireNetsModel" "joined" "[I", Cond.fieldLink RX7 20 "FireNetsModel" "worth" "[I", Cond.fieldLink RX7 23 "FireNetsModel" "price" "[I", Cond.fieldLink RX7 26 "FireNetsModel" "purse" "[I", Cond.fieldLink RX7 29 "FireNetsModel" "bound" "I", Cond.fieldLink RX7 32 "FireNetsModel" "plan" "[I", Cond.fieldLink RX7 35 "FireNetsModel" "wall" "[I", Cond.fieldLink RX7 38 "FireNetsModel" "tried" "[I", Cond.fieldLink RX7 41 "FireNetsModel" "fireAt" "[I", Cond.fieldLink RX7 44 "FireNetsModel" "guardsAt" "[I", Cond.fieldLink RX7 47 "FireNetsModel" "leftAt" "[I", Cond.fieldLink RX7 50 "FireNetsModel" "bestSets" "[I", Cond.fieldLink RX7 53 "FireNetsModel" "prices" "[I", Cond.fieldLink RX7 56 "FireNetsModel" "kept" "[I", Cond.fieldLink RX7 59 "FireNetsModel" "board" "[I", Cond.methodLink RX7 62 yX7_clear, Cond.instanceMethod yX7_clear, Cond.selects RX7 yX7_clear yX7_clear, Cond.code yX7_clear cX7_clear 2 none, Cond.fieldLink RX7 65 "FireNetsModel" "lines" "I", Cond.methodLink RL 13 yX6_net, Cond.instanceMethod yX6_net, Cond.selects RX6 yX6_net yX6_net]
def wsL_law_r6 : List Cond := [Cond.code yX6_net cX6_net 2 (some .int), Cond.methodLink RX6 59 yX6_within, Cond.static yX6_within, Cond.code yX6_within cX6_within 3 (some .boolean), Cond.methodLink RX6 63 yX3_renew, Cond.methodLink RX6 67 yJ7_fill_53178, Cond.methodLink RL 17 yX7_net, Cond.instanceMethod yX7_net, Cond.selects RX7 yX7_net yX7_net, Cond.code yX7_net cX7_net 2 (some .int), Cond.constantLong RX7 76 (10), Cond.methodLink RX7 68 yX7_in, Cond.static yX7_in, Cond.code yX7_in cX7_in 6 (some .boolean), Cond.methodLink RL 18 yX6_line, Cond.instanceMethod yX6_line, Cond.selects RX6 yX6_line yX6_line, Cond.code yX6_line cX6_line 3 (some .int), Cond.fieldLink RX6 81 "FireNets$Net" "lines" "I", Cond.methodLink RX6 73 yX3_has, Cond.instanceMethod yX3_has, Cond.selects RX3 yX3_has yX3_has, Cond.code yX3_has cX3_has 2 (some .boolean), Cond.methodLink RX6 77 yX3_joined]
def wsL_law_r7 : List Cond := [Cond.instanceMethod yX3_joined, Cond.selects RX3 yX3_joined yX3_joined, Cond.code yX3_joined cX3_joined 3 (some .boolean), Cond.methodLink RX3 49 yX3_nearTo, Cond.instanceMethod yX3_nearTo, Cond.selects RX3 yX3_nearTo yX3_nearTo, Cond.code yX3_nearTo cX3_nearTo 2 (some .int), Cond.static yX6_holds, Cond.code yX6_holds cX6_holds 2 (some .boolean), Cond.methodLink RX6 84 yX3_join, Cond.instanceMethod yX3_join, Cond.selects RX3 yX3_join yX3_join, Cond.code yX3_join cX3_join 3 (some .int), Cond.methodLink RX3 57 yX3_has, Cond.methodLink RL 22 yX7_line, Cond.instanceMethod yX7_line, Cond.selects RX7 yX7_line yX7_line, Cond.code yX7_line cX7_line 3 (some .int), Cond.methodLink RX7 78 yX7_isNode, Cond.instanceMethod yX7_isNode, Cond.selects RX7 yX7_isNode yX7_isNode, Cond.code yX7_isNode cX7_isNode 2 (some .boolean), Cond.methodLink RL 23 yX6_node, Cond.instanceMethod yX6_node]
def wsL_law_r8 : List Cond := [Cond.selects RX6 yX6_node yX6_node, Cond.code yX6_node cX6_node 4 (some .int), Cond.fieldLink RX6 88 "FireNets$Net" "worth" "[I", Cond.fieldLink RX6 95 "FireNets$Net" "price" "[I", Cond.methodLink RX6 91 yX6_swap, Cond.static yX6_swap, Cond.code yX6_swap cX6_swap 4 (some .int), Cond.methodLink RL 27 yX7_node, Cond.instanceMethod yX7_node, Cond.selects RX7 yX7_node yX7_node, Cond.code yX7_node cX7_node 5 (some .int), Cond.constantLong RX7 82 (9), Cond.methodLink RL 28 yX6_purse, Cond.instanceMethod yX6_purse, Cond.selects RX6 yX6_purse yX6_purse, Cond.code yX6_purse cX6_purse 3 (some .int), Cond.fieldLink RX6 98 "FireNets$Purses" "own" "[I", Cond.methodLink RL 31 yX7_purse, Cond.instanceMethod yX7_purse, Cond.selects RX7 yX7_purse yX7_purse, Cond.code yX7_purse cX7_purse 4 (some .int), Cond.constantLong RX7 84 (8), Cond.constantLong RX7 86 (20), Cond.methodLink RL 32 yX6_rule]
def wsL_law_r9 : List Cond := [Cond.instanceMethod yX6_rule, Cond.selects RX6 yX6_rule yX6_rule, Cond.code yX6_rule cX6_rule 4 (some .int), Cond.fieldLink RX6 101 "FireNets$Purses" "keeping" "I", Cond.methodLink RL 35 yX7_rule, Cond.instanceMethod yX7_rule, Cond.selects RX7 yX7_rule yX7_rule, Cond.code yX7_rule cX7_rule 4 (some .int), Cond.constantLong RX7 88 (50), Cond.constantLong RX7 90 (1000), Cond.fieldLink RX7 92 "FireNetsModel" "keeps" "Z", Cond.methodLink RL 36 yX6_count, Cond.instanceMethod yX6_count, Cond.selects RX6 yX6_count yX6_count, Cond.code yX6_count cX6_count 2 (some .int), Cond.fieldLink RX6 104 "FireNets$Net" "nodes" "I", Cond.fieldLink RX6 115 "FireNets$Board" "squares" "I", Cond.methodLink RX6 107 yX3_all, Cond.instanceMethod yX3_all, Cond.selects RX3 yX3_all yX3_all, Cond.code yX3_all cX3_all 1 (some .int), Cond.methodLink RX6 111 yX3_worthOf, Cond.instanceMethod yX3_worthOf, Cond.selects RX3 yX3_worthOf yX3_worthOf]
def wsL_law_r10 : List Cond := [Cond.code yX3_worthOf cX3_worthOf 2 (some .int), Cond.methodLink RX3 61 yX3_sumOver, Cond.static yX3_sumOver, Cond.code yX3_sumOver cX3_sumOver 4 (some .int), Cond.methodLink RX6 118 yX0_needed, Cond.instanceMethod yX0_needed, Cond.selects RX0 yX0_needed yX0_needed, Cond.code yX0_needed cX0_needed 5 (some .int), Cond.fieldLink RX0 31 "FireNets$Board" "squares" "I", Cond.methodLink RX0 35 Lib.Math.max.name, Cond.static Lib.Math.max.name, Cond.initialized "java/lang/Math", Cond.code Lib.Math.max.name Lib.Math.max.code 2 (some .int), Cond.methodLink RL 39 yX7_count, Cond.instanceMethod yX7_count, Cond.selects RX7 yX7_count yX7_count, Cond.code yX7_count cX7_count 6 (some .int), Cond.fieldLink RX7 96 "FireNetsModel" "squares" "I", Cond.methodLink RX7 72 yX7_all, Cond.instanceMethod yX7_all, Cond.selects RX7 yX7_all yX7_all, Cond.code yX7_all cX7_all 1 (some .int), Cond.methodLink RX7 99 yX7_worthOf, Cond.instanceMethod yX7_worthOf]
def wsL_law_r11 : List Cond := [Cond.selects RX7 yX7_worthOf yX7_worthOf, Cond.code yX7_worthOf cX7_worthOf 4 (some .int), Cond.methodLink RL 40 yX6_plan, Cond.instanceMethod yX6_plan, Cond.selects RX6 yX6_plan yX6_plan, Cond.code yX6_plan cX6_plan 3 (some .int), Cond.methodLink RL 43 yX7_plan, Cond.instanceMethod yX7_plan, Cond.selects RX7 yX7_plan yX7_plan, Cond.code yX7_plan cX7_plan 4 (some .int), Cond.constantLong RX7 121 (1023), Cond.methodLink RL 44 yX6_play, Cond.instanceMethod yX6_play, Cond.selects RX6 yX6_play yX6_play, Cond.code yX6_play cX6_play 3 (some .int), Cond.fieldLink RX6 128 "FireNets$Course" "bad" "Z", Cond.fieldLink RX6 132 "FireNets$Course" "burning" "I", Cond.fieldLink RX6 138 "FireNets$Course" "guards" "I", Cond.fieldLink RX6 141 "FireNets$Course" "tick" "I", Cond.fieldLink RX6 144 "FireNets$Course" "cost" "I", Cond.methodLink RX6 121 yX3_isStart, Cond.instanceMethod yX3_isStart, Cond.selects RX3 yX3_isStart yX3_isStart, Cond.code yX3_isStart cX3_isStart 2 (some .boolean)]
def wsL_law_r12 : List Cond := [Cond.methodLink RX3 45 yX3_all, Cond.methodLink RX6 124 yX6_runPlan, Cond.instanceMethod yX6_runPlan, Cond.selects RX6 yX6_runPlan yX6_runPlan, Cond.code yX6_runPlan cX6_runPlan 4 none, Cond.methodLink RX6 237 yX2_begin, Cond.instanceMethod yX2_begin, Cond.selects RX2 yX2_begin yX2_begin, Cond.code yX2_begin cX2_begin 2 none, Cond.fieldLink RX2 9 "FireNets$Course" "burning" "I", Cond.fieldLink RX2 15 "FireNets$Course" "guards" "I", Cond.fieldLink RX2 18 "FireNets$Course" "tick" "I", Cond.fieldLink RX2 21 "FireNets$Course" "cost" "I", Cond.fieldLink RX2 24 "FireNets$Course" "bad" "Z", Cond.fieldLink RX2 28 "FireNets$Course" "over" "Z", Cond.fieldLink RX2 31 "FireNets$Course" "money" "I", Cond.methodLink RX6 240 yX2_ended, Cond.instanceMethod yX2_ended, Cond.selects RX2 yX2_ended yX2_ended, Cond.code yX2_ended cX2_ended 1 (some .boolean), Cond.methodLink RX6 244 yX2_openTick, Cond.instanceMethod yX2_openTick, Cond.selects RX2 yX2_openTick yX2_openTick, Cond.code yX2_openTick cX2_openTick 2 none]
def wsL_law_r13 : List Cond := [Cond.methodLink RX2 34 yX4_money, Cond.instanceMethod yX4_money, Cond.selects RX4 yX4_money yX4_money, Cond.code yX4_money cX4_money 4 (some .int), Cond.methodLink RX4 31 Lib.Math.min.name, Cond.static Lib.Math.min.name, Cond.code Lib.Math.min.name Lib.Math.min.code 2 (some .int), Cond.methodLink RX4 37 Lib.Math.max.name, Cond.fieldLink RX4 27 "FireNets$Purses" "keeping" "I", Cond.methodLink RX6 248 yX2_putSet, Cond.instanceMethod yX2_putSet, Cond.selects RX2 yX2_putSet yX2_putSet, Cond.code yX2_putSet cX2_putSet 3 none, Cond.methodLink RX2 39 yX3_isLawful, Cond.instanceMethod yX3_isLawful, Cond.selects RX3 yX3_isLawful yX3_isLawful, Cond.code yX3_isLawful cX3_isLawful 6 (some .boolean), Cond.methodLink RX3 68 yX3_priceOf, Cond.instanceMethod yX3_priceOf, Cond.selects RX3 yX3_priceOf yX3_priceOf, Cond.code yX3_priceOf cX3_priceOf 2 (some .int), Cond.methodLink RX2 45 yX3_priceOf, Cond.methodLink RX2 49 yX2_pay, Cond.instanceMethod yX2_pay]
def wsL_law_r14 : List Cond := [Cond.selects RX2 yX2_pay yX2_pay, Cond.code yX2_pay cX2_pay 3 none, Cond.methodLink RX6 252 yX2_spread, Cond.instanceMethod yX2_spread, Cond.selects RX2 yX2_spread yX2_spread, Cond.code yX2_spread cX2_spread 3 none, Cond.methodLink RX2 57 yX3_threatened, Cond.instanceMethod yX3_threatened, Cond.selects RX3 yX3_threatened yX3_threatened, Cond.code yX3_threatened cX3_threatened 5 (some .int), Cond.methodLink RX6 135 yX3_savedFrom, Cond.instanceMethod yX3_savedFrom, Cond.selects RX3 yX3_savedFrom yX3_savedFrom, Cond.code yX3_savedFrom cX3_savedFrom 2 (some .int), Cond.methodLink RX3 65 yX3_worthOf, Cond.methodLink RL 47 yX7_play, Cond.instanceMethod yX7_play, Cond.selects RX7 yX7_play yX7_play, Cond.code yX7_play cX7_play 3 (some .int), Cond.constantLong RX7 149 (4), Cond.fieldLink RX7 127 "FireNetsModel" "isBad" "Z", Cond.fieldLink RX7 103 "FireNetsModel" "fire" "I", Cond.fieldLink RX7 106 "FireNetsModel" "guards" "I", Cond.fieldLink RX7 130 "FireNetsModel" "overAt" "I"]
def wsL_law_r15 : List Cond := [Cond.fieldLink RX7 112 "FireNetsModel" "cost" "I", Cond.methodLink RX7 146 yX7_isFire, Cond.instanceMethod yX7_isFire, Cond.selects RX7 yX7_isFire yX7_isFire, Cond.code yX7_isFire cX7_isFire 2 (some .boolean), Cond.methodLink RX7 151 yX7_playTo, Cond.instanceMethod yX7_playTo, Cond.selects RX7 yX7_playTo yX7_playTo, Cond.code yX7_playTo cX7_playTo 5 none, Cond.methodLink RX7 123 yX7_light, Cond.instanceMethod yX7_light, Cond.selects RX7 yX7_light yX7_light, Cond.code yX7_light cX7_light 2 none, Cond.fieldLink RX7 109 "FireNetsModel" "left" "I", Cond.methodLink RX7 133 yX7_fill, Cond.instanceMethod yX7_fill, Cond.selects RX7 yX7_fill yX7_fill, Cond.code yX7_fill cX7_fill 2 none, Cond.methodLink RX7 136 yX7_isLawful, Cond.instanceMethod yX7_isLawful, Cond.selects RX7 yX7_isLawful yX7_isLawful, Cond.code yX7_isLawful cX7_isLawful 2 (some .boolean), Cond.methodLink RX7 115 yX7_priceOf, Cond.instanceMethod yX7_priceOf]
def wsL_law_r16 : List Cond := [Cond.selects RX7 yX7_priceOf yX7_priceOf, Cond.code yX7_priceOf cX7_priceOf 4 (some .int), Cond.methodLink RX7 139 yX7_guard, Cond.instanceMethod yX7_guard, Cond.selects RX7 yX7_guard yX7_guard, Cond.code yX7_guard cX7_guard 2 none, Cond.methodLink RX7 142 yX7_spreads, Cond.instanceMethod yX7_spreads, Cond.selects RX7 yX7_spreads yX7_spreads, Cond.code yX7_spreads cX7_spreads 2 (some .boolean), Cond.methodLink RX7 118 yX7_near, Cond.instanceMethod yX7_near, Cond.selects RX7 yX7_near yX7_near, Cond.code yX7_near cX7_near 3 (some .int), Cond.methodLink RX7 155 yX7_saved, Cond.instanceMethod yX7_saved, Cond.selects RX7 yX7_saved yX7_saved, Cond.code yX7_saved cX7_saved 1 (some .int), Cond.methodLink RL 48 yX6_burns, Cond.instanceMethod yX6_burns, Cond.selects RX6 yX6_burns yX6_burns, Cond.code yX6_burns cX6_burns 3 (some .int), Cond.methodLink RL 51 yX7_burns, Cond.instanceMethod yX7_burns]
def wsL_law_r17 : List Cond := [Cond.selects RX7 yX7_burns yX7_burns, Cond.code yX7_burns cX7_burns 3 (some .int), Cond.methodLink RL 52 yX6_best, Cond.instanceMethod yX6_best, Cond.selects RX6 yX6_best yX6_best, Cond.code yX6_best cX6_best 3 (some .int), Cond.fieldLink RX6 150 "FireNets$Search" "saved" "I", Cond.fieldLink RX6 153 "FireNets$Search" "looks" "I", Cond.fieldLink RX6 156 "FireNets$Search" "spent" "Z", Cond.fieldLink RX6 159 "FireNets$Search" "over" "I", Cond.methodLink RX6 147 yX6_seekBest, Cond.instanceMethod yX6_seekBest, Cond.selects RX6 yX6_seekBest yX6_seekBest, Cond.code yX6_seekBest cX6_seekBest 2 none, Cond.fieldLink RX6 165 "FireNets$Search" "purses" "LFireNets$Purses;", Cond.methodLink RX6 259 yX4_copy, Cond.instanceMethod yX4_copy, Cond.selects RX4 yX4_copy yX4_copy, Cond.code yX4_copy cX4_copy 2 none, Cond.methodLink RX4 21 arraycopyName, Cond.native arraycopyName, Cond.static arraycopyName, Cond.initialized "java/lang/System", Cond.methodLink RX6 168 yX5_run]
def wsL_law_r18 : List Cond := [Cond.instanceMethod yX5_run, Cond.selects RX5 yX5_run yX5_run, Cond.code yX5_run cX5_run 4 none, Cond.fieldLink RX5 29 "FireNets$Search" "bound" "I", Cond.fieldLink RX5 33 "FireNets$Search" "looks" "I", Cond.fieldLink RX5 36 "FireNets$Search" "spent" "Z", Cond.fieldLink RX5 40 "FireNets$Search" "saved" "I", Cond.methodLink RX5 43 yX4_money, Cond.methodLink RX5 47 yX5_seek, Cond.instanceMethod yX5_seek, Cond.selects RX5 yX5_seek yX5_seek, Cond.code yX5_seek cX5_seek 10 none, Cond.methodLink RX5 51 yX3_all, Cond.methodLink RX5 57 yX3_priceOf, Cond.methodLink RX5 61 yX5_look, Cond.instanceMethod yX5_look, Cond.selects RX5 yX5_look yX5_look, Cond.methodLink RX5 65 yX5_lastAbove, Cond.static yX5_lastAbove, Cond.code yX5_lastAbove cX5_lastAbove 1 (some .int), Cond.methodLink RX5 68 yX5_nextWithin, Cond.static yX5_nextWithin, Cond.code yX5_nextWithin cX5_nextWithin 2 (some .int), Cond.code yX5_look cX5_look 9 none]
def wsL_law_r19 : List Cond := [Cond.methodLink RX5 71 yX3_threatened, Cond.methodLink RX5 74 yX5_judge, Cond.instanceMethod yX5_judge, Cond.selects RX5 yX5_judge yX5_judge, Cond.code yX5_judge cX5_judge 10 none, Cond.fieldLink RX5 81 "FireNets$Search" "over" "I", Cond.methodLink RX5 78 yX3_savedFrom, Cond.methodLink RX6 162 yX5_chosen, Cond.instanceMethod yX5_chosen, Cond.selects RX5 yX5_chosen yX5_chosen, Cond.code yX5_chosen cX5_chosen 2 (some .int), Cond.methodLink RL 55 yX7_best, Cond.instanceMethod yX7_best, Cond.selects RX7 yX7_best yX7_best, Cond.code yX7_best cX7_best 3 (some .int), Cond.constantLong RX7 182 (11), Cond.fieldLink RX7 158 "FireNetsModel" "bestSaved" "I", Cond.fieldLink RX7 164 "FireNetsModel" "looks" "I", Cond.fieldLink RX7 167 "FireNetsModel" "isSpent" "Z", Cond.fieldLink RX7 161 "FireNetsModel" "bestOver" "I", Cond.methodLink RX7 184 yX7_seek, Cond.instanceMethod yX7_seek, Cond.selects RX7 yX7_seek yX7_seek, Cond.code yX7_seek cX7_seek 5 none]
def wsL_law_r20 : List Cond := [Cond.methodLink RX7 170 yX7_keep, Cond.instanceMethod yX7_keep, Cond.selects RX7 yX7_keep yX7_keep, Cond.code yX7_keep cX7_keep 2 none, Cond.methodLink RX7 173 yX7_restore, Cond.instanceMethod yX7_restore, Cond.selects RX7 yX7_restore yX7_restore, Cond.code yX7_restore cX7_restore 2 none, Cond.methodLink RX7 176 yX7_goOn, Cond.instanceMethod yX7_goOn, Cond.selects RX7 yX7_goOn yX7_goOn, Cond.code yX7_goOn cX7_goOn 4 none, Cond.methodLink RX7 179 yX7_compare, Cond.instanceMethod yX7_compare, Cond.selects RX7 yX7_compare yX7_compare, Cond.code yX7_compare cX7_compare 4 none, Cond.methodLink RL 56 yX6_take, Cond.instanceMethod yX6_take, Cond.selects RX6 yX6_take yX6_take, Cond.code yX6_take cX6_take 3 (some .int), Cond.methodLink RL 59 yX7_take, Cond.instanceMethod yX7_take, Cond.selects RX7 yX7_take yX7_take, Cond.code yX7_take cX7_take 3 (some .int)]
def wsL_law_r21 : List Cond := [Cond.methodLink RL 60 yX6_least, Cond.instanceMethod yX6_least, Cond.selects RX6 yX6_least yX6_least, Cond.code yX6_least cX6_least 4 (some .int), Cond.methodLink RL 63 yX7_least, Cond.instanceMethod yX7_least, Cond.selects RX7 yX7_least yX7_least, Cond.code yX7_least cX7_least 6 (some .int), Cond.constantLong RX7 187 (90), Cond.methodLink RL 64 yX6_live, Cond.instanceMethod yX6_live, Cond.selects RX6 yX6_live yX6_live, Cond.code yX6_live cX6_live 4 (some .int), Cond.methodLink RX6 172 yX6_isRule, Cond.static yX6_isRule, Cond.code yX6_isRule cX6_isRule 1 (some .boolean), Cond.methodLink RX6 175 yX6_runRule, Cond.instanceMethod yX6_runRule, Cond.selects RX6 yX6_runRule yX6_runRule, Cond.code yX6_runRule cX6_runRule 4 none, Cond.methodLink RX6 256 yX2_putByRule, Cond.instanceMethod yX2_putByRule, Cond.selects RX2 yX2_putByRule yX2_putByRule, Cond.code yX2_putByRule cX2_putByRule 5 none]
def wsL_law_r22 : List Cond := [Cond.methodLink RX2 53 yX3_pick, Cond.instanceMethod yX3_pick, Cond.selects RX3 yX3_pick yX3_pick, Cond.code yX3_pick cX3_pick 10 (some .int), Cond.methodLink RX3 71 yX3_threatened, Cond.methodLink RX3 75 yX3_rankOf, Cond.instanceMethod yX3_rankOf, Cond.selects RX3 yX3_rankOf yX3_rankOf, Cond.code yX3_rankOf cX3_rankOf 4 (some .int), Cond.methodLink RX3 79 yJ6_bitCount_0f7a4, Cond.static yJ6_bitCount_0f7a4, Cond.initialized RJ6, Cond.code yJ6_bitCount_0f7a4 cJ6_bitCount_0f7a4 1 (some .int), Cond.constant RJ6 265 (1431655765), Cond.constant RJ6 266 (858993459), Cond.constant RJ6 267 (252645135), Cond.methodLink RL 67 yX7_live, Cond.instanceMethod yX7_live, Cond.selects RX7 yX7_live yX7_live, Cond.code yX7_live cX7_live 5 (some .int), Cond.constantLong RX7 195 (2), Cond.methodLink RX7 197 yX7_isRule, Cond.static yX7_isRule, Cond.code yX7_isRule cX7_isRule 1 (some .boolean)]
def wsL_law_r23 : List Cond := [Cond.methodLink RX7 200 yX7_liveOf, Cond.instanceMethod yX7_liveOf, Cond.selects RX7 yX7_liveOf yX7_liveOf, Cond.code yX7_liveOf cX7_liveOf 6 (some .int), Cond.methodLink RX7 192 yX7_next, Cond.instanceMethod yX7_next, Cond.selects RX7 yX7_next yX7_next, Cond.code yX7_next cX7_next 6 (some .int), Cond.methodLink RX7 189 yX7_bits, Cond.static yX7_bits, Cond.code yX7_bits cX7_bits 3 (some .int), Cond.methodLink RL 68 yX6_share, Cond.instanceMethod yX6_share, Cond.selects RX6 yX6_share yX6_share, Cond.code yX6_share cX6_share 5 (some .int), Cond.methodLink RX6 178 yX6_savedByRule, Cond.instanceMethod yX6_savedByRule, Cond.selects RX6 yX6_savedByRule yX6_savedByRule, Cond.code yX6_savedByRule cX6_savedByRule 3 (some .int), Cond.methodLink RX6 181 yX6_fractionPart, Cond.static yX6_fractionPart, Cond.code yX6_fractionPart cX6_fractionPart 9 (some .long), Cond.methodLink RX6 233 yX6_commonDivisor, Cond.static yX6_commonDivisor]
def wsL_law_r24 : List Cond := [Cond.code yX6_commonDivisor cX6_commonDivisor 11 (some .long), Cond.methodLink RL 71 yX7_share, Cond.instanceMethod yX7_share, Cond.selects RX7 yX7_share yX7_share, Cond.code yX7_share cX7_share 4 (some .int), Cond.fieldLink RX7 204 "FireNetsModel" "shareUpper" "I", Cond.fieldLink RX7 207 "FireNetsModel" "shareLower" "I", Cond.methodLink RX7 210 yX7_findShare, Cond.instanceMethod yX7_findShare, Cond.selects RX7 yX7_findShare yX7_findShare, Cond.code yX7_findShare cX7_findShare 4 none, Cond.methodLink RX7 213 yX7_part, Cond.static yX7_part, Cond.code yX7_part cX7_part 6 (some .int), Cond.methodLink RL 72 yX6_worst, Cond.instanceMethod yX6_worst, Cond.selects RX6 yX6_worst yX6_worst, Cond.code yX6_worst cX6_worst 8 (some .int), Cond.methodLink RL 75 yX7_worst, Cond.instanceMethod yX7_worst, Cond.selects RX7 yX7_worst yX7_worst, Cond.code yX7_worst cX7_worst 6 (some .int), Cond.methodLink RL 76 yX6_mean, Cond.instanceMethod yX6_mean]
def wsL_law_r25 : List Cond := [Cond.selects RX6 yX6_mean yX6_mean, Cond.code yX6_mean cX6_mean 6 (some .int), Cond.methodLink RX6 185 yX6_holds, Cond.methodLink RX6 188 yJ6_bitCount_0f7a4, Cond.methodLink RL 79 yX7_mean, Cond.instanceMethod yX7_mean, Cond.selects RX7 yX7_mean yX7_mean, Cond.code yX7_mean cX7_mean 7 (some .int), Cond.methodLink RL 80 yX6_chance, Cond.instanceMethod yX6_chance, Cond.selects RX6 yX6_chance yX6_chance, Cond.code yX6_chance cX6_chance 7 (some .long), Cond.constantLong RX6 193 (-1001), Cond.constantLong RX6 195 (-1002), Cond.constantLong RX6 197 (-1003), Cond.methodLink RX6 199 yX1_lay, Cond.instanceMethod yX1_lay, Cond.selects RX1 yX1_lay yX1_lay, Cond.code yX1_lay cX1_lay 6 none, Cond.fieldLink RX1 15 "FireNets$Net" "lines" "I", Cond.methodLink RX1 21 Lib.Math.min.name, Cond.fieldLink RX1 27 "FireNets$Chances" "lines" "I", Cond.fieldLink RX1 32 "FireNets$Chances" "barred" "I", Cond.fieldLink RX1 35 "FireNets$Chances" "open" "I"]
def wsL_law_r26 : List Cond := [Cond.fieldLink RX1 38 "FireNets$Chances" "shut" "I", Cond.methodLink RX1 28 yX3_endsOf, Cond.instanceMethod yX3_endsOf, Cond.selects RX3 yX3_endsOf yX3_endsOf, Cond.code yX3_endsOf cX3_endsOf 2 (some .int), Cond.methodLink RX6 203 yX1_waysTo, Cond.instanceMethod yX1_waysTo, Cond.selects RX1 yX1_waysTo yX1_waysTo, Cond.code yX1_waysTo cX1_waysTo 3 (some .long), Cond.methodLink RX1 45 yX1_waysFrom, Cond.instanceMethod yX1_waysFrom, Cond.selects RX1 yX1_waysFrom yX1_waysFrom, Cond.code yX1_waysFrom cX1_waysFrom 6 (some .long), Cond.methodLink RX1 41 yX1_power, Cond.static yX1_power, Cond.code yX1_power cX1_power 6 (some .long), Cond.methodLink RX1 49 yX1_lineOnward, Cond.instanceMethod yX1_lineOnward, Cond.selects RX1 yX1_lineOnward yX1_lineOnward, Cond.code yX1_lineOnward cX1_lineOnward 6 (some .int), Cond.methodLink RX1 52 yX1_waysOver, Cond.instanceMethod yX1_waysOver, Cond.selects RX1 yX1_waysOver yX1_waysOver, Cond.code yX1_waysOver cX1_waysOver 9 (some .long)]
def wsL_law_r27 : List Cond := [Cond.methodLink RX6 207 yX1_allWays, Cond.instanceMethod yX1_allWays, Cond.selects RX1 yX1_allWays yX1_allWays, Cond.code yX1_allWays cX1_allWays 1 (some .long), Cond.methodLink RL 84 yX7_chance, Cond.instanceMethod yX7_chance, Cond.selects RX7 yX7_chance yX7_chance, Cond.code yX7_chance cX7_chance 17 (some .long), Cond.constantLong RX7 217 (-1001), Cond.constantLong RX7 219 (6), Cond.constantLong RX7 221 (-1002), Cond.constantLong RX7 223 (-1003), Cond.methodLink RX7 225 yX7_reached, Cond.instanceMethod yX7_reached, Cond.selects RX7 yX7_reached yX7_reached, Cond.code yX7_reached cX7_reached 10 (some .int), Cond.methodLink RX7 228 yX7_power, Cond.static yX7_power, Cond.code yX7_power cX7_power 6 (some .long), Cond.methodLink RL 85 yX6_wall, Cond.instanceMethod yX6_wall, Cond.selects RX6 yX6_wall yX6_wall, Cond.code yX6_wall cX6_wall 4 (some .int), Cond.methodLink RX6 211 yX0_isWall]
def wsL_law_r28 : List Cond := [Cond.instanceMethod yX0_isWall, Cond.selects RX0 yX0_isWall yX0_isWall, Cond.code yX0_isWall cX0_isWall 4 (some .boolean), Cond.methodLink RX6 214 yX0_add, Cond.instanceMethod yX0_add, Cond.selects RX0 yX0_add yX0_add, Cond.code yX0_add cX0_add 4 (some .int), Cond.methodLink RL 88 yX7_wall, Cond.instanceMethod yX7_wall, Cond.selects RX7 yX7_wall yX7_wall, Cond.code yX7_wall cX7_wall 5 (some .int), Cond.constantLong RX7 232 (-30), Cond.constantLong RX7 234 (30), Cond.methodLink RL 89 yX6_raze, Cond.instanceMethod yX6_raze, Cond.selects RX6 yX6_raze yX6_raze, Cond.code yX6_raze cX6_raze 2 (some .int), Cond.methodLink RL 93 yX7_raze, Cond.instanceMethod yX7_raze, Cond.selects RX7 yX7_raze yX7_raze, Cond.code yX7_raze cX7_raze 2 (some .int), Cond.methodLink RL 94 yX6_board, Cond.instanceMethod yX6_board, Cond.selects RX6 yX6_board yX6_board]
def wsL_law_r29 : List Cond := [Cond.code yX6_board cX6_board 2 (some .int), Cond.fieldLink RX6 221 "FireNets$Board" "shutIn" "I", Cond.fieldLink RX6 227 "FireNets$Board" "lost" "I", Cond.methodLink RX6 218 yX0_burn, Cond.instanceMethod yX0_burn, Cond.selects RX0 yX0_burn yX0_burn, Cond.code yX0_burn cX0_burn 2 none, Cond.constantLong RX0 47 (16777216), Cond.fieldLink RX0 49 "FireNets$Board" "shutIn" "I", Cond.fieldLink RX0 52 "FireNets$Board" "lost" "I", Cond.methodLink RX0 41 yJ7_fill_d0a16, Cond.static yJ7_fill_d0a16, Cond.code yJ7_fill_d0a16 cJ7_fill_d0a16 5 none, Cond.methodLink RX0 55 yX0_putGuards, Cond.instanceMethod yX0_putGuards, Cond.selects RX0 yX0_putGuards yX0_putGuards, Cond.code yX0_putGuards cX0_putGuards 3 none, Cond.methodLink RX0 63 yX0_onRows, Cond.static yX0_onRows, Cond.code yX0_onRows cX0_onRows 1 (some .boolean), Cond.methodLink RX0 67 yX0_putGuard, Cond.instanceMethod yX0_putGuard, Cond.selects RX0 yX0_putGuard yX0_putGuard, Cond.code yX0_putGuard cX0_putGuard 4 none]
def wsL_law_r30 : List Cond := [Cond.methodLink RX0 59 yX0_spread, Cond.instanceMethod yX0_spread, Cond.selects RX0 yX0_spread yX0_spread, Cond.code yX0_spread cX0_spread 7 (some .boolean), Cond.constantLong RX0 79 (-1), Cond.methodLink RX0 81 arraycopyName, Cond.methodLink RX0 75 yX0_rowAt, Cond.instanceMethod yX0_rowAt, Cond.selects RX0 yX0_rowAt yX0_rowAt, Cond.code yX0_rowAt cX0_rowAt 2 (some .long), Cond.methodLink RX6 224 yX0_burnt, Cond.instanceMethod yX0_burnt, Cond.selects RX0 yX0_burnt yX0_burnt, Cond.code yX0_burnt cX0_burnt 3 (some .int), Cond.methodLink RX0 87 yJ13_bitCount_95d88, Cond.static yJ13_bitCount_95d88, Cond.initialized RJ13, Cond.code yJ13_bitCount_95d88 cJ13_bitCount_95d88 2 (some .int), Cond.constantLong RJ13 314 (6148914691236517205), Cond.constantLong RJ13 316 (3689348814741910323), Cond.constantLong RJ13 318 (1085102592571150095), Cond.methodLink RX6 230 yX0_reach, Cond.instanceMethod yX0_reach, Cond.selects RX0 yX0_reach yX0_reach]
def wsL_law_r31 : List Cond := [Cond.code yX0_reach cX0_reach 4 (some .int), Cond.methodLink RX0 93 Lib.Math.abs.name, Cond.static Lib.Math.abs.name, Cond.code Lib.Math.abs.name Lib.Math.abs.code 1 (some .int), Cond.methodLink RL 97 yX7_board, Cond.instanceMethod yX7_board, Cond.selects RX7 yX7_board yX7_board, Cond.code yX7_board cX7_board 7 (some .int), Cond.constantLong RX7 255 (3), Cond.fieldLink RX7 246 "FireNetsModel" "shutAt" "I", Cond.fieldLink RX7 239 "FireNetsModel" "lost" "I", Cond.methodLink RX7 257 yX7_run, Cond.instanceMethod yX7_run, Cond.selects RX7 yX7_run yX7_run, Cond.code yX7_run cX7_run 2 none, Cond.methodLink RX7 236 yX7_square, Cond.static yX7_square, Cond.code yX7_square cX7_square 2 (some .int), Cond.methodLink RX7 249 yX7_build, Cond.instanceMethod yX7_build, Cond.selects RX7 yX7_build yX7_build, Cond.code yX7_build cX7_build 4 none, Cond.methodLink RX7 252 yX7_burnOn, Cond.instanceMethod yX7_burnOn]
def wsL_law_r32 : List Cond := [Cond.selects RX7 yX7_burnOn yX7_burnOn, Cond.code yX7_burnOn cX7_burnOn 4 (some .boolean), Cond.methodLink RX7 242 yX7_touches, Cond.instanceMethod yX7_touches, Cond.selects RX7 yX7_touches yX7_touches, Cond.code yX7_touches cX7_touches 3 (some .boolean), Cond.methodLink RX7 260 yX7_size, Cond.static yX7_size, Cond.code yX7_size cX7_size 1 (some .int)]
def wsL_law : List Cond := (wsL_law_r1 ++ (wsL_law_r2 ++ (wsL_law_r3 ++ (wsL_law_r4 ++ (wsL_law_r5 ++ (wsL_law_r6 ++ (wsL_law_r7 ++ (wsL_law_r8 ++ (wsL_law_r9 ++ (wsL_law_r10 ++ (wsL_law_r11 ++ (wsL_law_r12 ++ (wsL_law_r13 ++ (wsL_law_r14 ++ (wsL_law_r15 ++ (wsL_law_r16 ++ (wsL_law_r17 ++ (wsL_law_r18 ++ (wsL_law_r19 ++ (wsL_law_r20 ++ (wsL_law_r21 ++ (wsL_law_r22 ++ (wsL_law_r23 ++ (wsL_law_r24 ++ (wsL_law_r25 ++ (wsL_law_r26 ++ (wsL_law_r27 ++ (wsL_law_r28 ++ (wsL_law_r29 ++ (wsL_law_r30 ++ (wsL_law_r31 ++ wsL_law_r32))))))))))))))))))))))))))))))) ++ wsX60 ++ wsX70 ++ wsX30 ++ wsX40 ++ wsX20 ++ wsX50 ++ wsX10 ++ wsX00 ++ ([] : List Cond)
end
section
theorem wsL_pick {ws : List Cond} (ps : List Nat) (h : ws = ps.filterMap (fun i => lw_tbl[i]?)) : ∀ w ∈ ws, w ∈ lw_tbl := by
  intro w hw
  rw [h] at hw
  obtain ⟨i, -, hi⟩ := List.mem_filterMap.mp hw
  first | exact List.mem_of_getElem? hi | exact List.getElem?_mem hi
set_option maxRecDepth 20000 in
theorem wsL_in_r1 : ∀ w ∈ wsL_law_r1, w ∈ lw_tbl := wsL_pick [57, 58, 44, 633, 634, 52, 59, 60, 61, 62, 63, 64, 65, 66, 45, 250, 103, 104, 47, 251, 102, 252, 119, 120] (by decide +kernel)
set_option maxRecDepth 20000 in
theorem wsL_in_r2 : ∀ w ∈ wsL_law_r2, w ∈ lw_tbl := wsL_pick [48, 253, 152, 153, 49, 254, 190, 191, 50, 255, 212, 213, 51, 256, 257, 67, 68, 69, 70, 83, 85, 87, 88, 71] (by decide +kernel)
set_option maxRecDepth 20000 in
theorem wsL_in_r3 : ∀ w ∈ wsL_law_r3, w ∈ lw_tbl := wsL_pick [72, 73, 74, 78, 81, 75, 76, 46, 77, 105, 106, 107, 108, 110, 109, 122, 123, 124, 154, 155, 156, 157, 158, 160] (by decide +kernel)
set_option maxRecDepth 20000 in
theorem wsL_in_r4 : ∀ w ∈ wsL_law_r4, w ∈ lw_tbl := wsL_pick [171, 172, 159, 192, 193, 194, 195, 196, 214, 215, 216, 217, 224, 225, 226, 249, 227, 228, 229, 635, 636, 637, 638, 643] (by decide +kernel)
set_option maxRecDepth 20000 in
theorem wsL_in_r5 : ∀ w ∈ wsL_law_r5, w ∈ lw_tbl := wsL_pick [645, 646, 647, 648, 649, 651, 652, 654, 661, 662, 663, 664, 669, 670, 671, 674, 639, 641, 16, 642, 644, 275, 276, 277] (by decide +kernel)
set_option maxRecDepth 20000 in
theorem wsL_in_r6 : ∀ w ∈ wsL_law_r6, w ∈ lw_tbl := wsL_pick [278, 279, 280, 281, 282, 283, 746, 747, 748, 749, 750, 751, 752, 753, 284, 285, 286, 287, 82, 288, 289, 290, 291, 293] (by decide +kernel)
set_option maxRecDepth 20000 in
theorem wsL_in_r7 : ∀ w ∈ wsL_law_r7, w ∈ lw_tbl := wsL_pick [294, 295, 296, 297, 298, 299, 300, 302, 303, 304, 305, 306, 307, 308, 754, 755, 756, 757, 758, 760, 17, 761, 309, 310] (by decide +kernel)
set_option maxRecDepth 20000 in
theorem wsL_in_r8 : ∀ w ∈ wsL_law_r8, w ∈ lw_tbl := wsL_pick [311, 312, 84, 86, 313, 314, 315, 762, 763, 764, 765, 766, 316, 317, 318, 319, 111, 767, 768, 769, 770, 771, 772, 320] (by decide +kernel)
set_option maxRecDepth 20000 in
theorem wsL_in_r9 : ∀ w ∈ wsL_law_r9, w ∈ lw_tbl := wsL_pick [321, 322, 323, 113, 773, 774, 775, 776, 777, 778, 650, 324, 325, 326, 327, 79, 219, 328, 329, 330, 331, 332, 333, 334] (by decide +kernel)
set_option maxRecDepth 20000 in
theorem wsL_in_r10 : ∀ w ∈ wsL_law_r10, w ∈ lw_tbl := wsL_pick [335, 336, 337, 338, 339, 340, 341, 342, 218, 343, 344, 53, 345, 779, 780, 781, 782, 653, 783, 785, 18, 786, 787, 789] (by decide +kernel)
set_option maxRecDepth 20000 in
theorem wsL_in_r11 : ∀ w ∈ wsL_law_r11, w ∈ lw_tbl := wsL_pick [19, 790, 346, 347, 348, 349, 791, 792, 793, 794, 795, 350, 351, 352, 353, 134, 126, 128, 130, 132, 354, 355, 356, 357] (by decide +kernel)
set_option maxRecDepth 20000 in
theorem wsL_in_r12 : ∀ w ∈ wsL_law_r12, w ∈ lw_tbl := wsL_pick [358, 359, 361, 0, 362, 363, 364, 365, 366, 125, 127, 129, 131, 133, 135, 136, 367, 368, 369, 370, 371, 372, 373, 374] (by decide +kernel)
set_option maxRecDepth 20000 in
theorem wsL_in_r13 : ∀ w ∈ wsL_law_r13, w ∈ lw_tbl := wsL_pick [375, 376, 377, 378, 379, 380, 381, 382, 112, 383, 384, 385, 386, 387, 388, 389, 390, 391, 392, 393, 394, 395, 396, 398] (by decide +kernel)
set_option maxRecDepth 20000 in
theorem wsL_in_r14 : ∀ w ∈ wsL_law_r14, w ∈ lw_tbl := wsL_pick [1, 399, 400, 401, 402, 403, 404, 405, 406, 407, 408, 409, 410, 411, 412, 796, 797, 798, 799, 804, 659, 655, 656, 660] (by decide +kernel)
set_option maxRecDepth 20000 in
theorem wsL_in_r15 : ∀ w ∈ wsL_law_r15, w ∈ lw_tbl := wsL_pick [658, 800, 802, 20, 803, 805, 807, 21, 808, 809, 811, 22, 812, 657, 813, 815, 23, 816, 817, 819, 24, 820, 821, 823] (by decide +kernel)
set_option maxRecDepth 20000 in
theorem wsL_in_r16 : ∀ w ∈ wsL_law_r16, w ∈ lw_tbl := wsL_pick [25, 824, 825, 827, 26, 828, 829, 831, 27, 832, 833, 835, 28, 836, 837, 839, 29, 840, 413, 414, 415, 416, 841, 842] (by decide +kernel)
set_option maxRecDepth 20000 in
theorem wsL_in_r17 : ∀ w ∈ wsL_law_r17, w ∈ lw_tbl := wsL_pick [843, 844, 417, 418, 419, 420, 165, 163, 169, 167, 421, 423, 2, 424, 161, 425, 426, 427, 428, 429, 431, 430, 54, 432] (by decide +kernel)
set_option maxRecDepth 20000 in
theorem wsL_in_r18 : ∀ w ∈ wsL_law_r18, w ∈ lw_tbl := wsL_pick [433, 434, 435, 170, 162, 168, 164, 436, 437, 439, 3, 440, 441, 442, 443, 445, 4, 454, 455, 456, 457, 458, 459, 446] (by decide +kernel)
set_option maxRecDepth 20000 in
theorem wsL_in_r19 : ∀ w ∈ wsL_law_r19, w ∈ lw_tbl := wsL_pick [448, 449, 451, 5, 452, 166, 453, 460, 461, 462, 463, 845, 846, 847, 848, 849, 667, 665, 666, 668, 850, 852, 30, 853] (by decide +kernel)
set_option maxRecDepth 20000 in
theorem wsL_in_r20 : ∀ w ∈ wsL_law_r20, w ∈ lw_tbl := wsL_pick [854, 856, 31, 857, 858, 860, 32, 861, 862, 864, 33, 865, 866, 868, 34, 869, 464, 465, 466, 467, 870, 871, 872, 873] (by decide +kernel)
set_option maxRecDepth 20000 in
theorem wsL_in_r21 : ∀ w ∈ wsL_law_r21, w ∈ lw_tbl := wsL_pick [468, 469, 470, 471, 874, 875, 876, 877, 878, 472, 473, 474, 475, 476, 477, 478, 479, 481, 6, 482, 483, 484, 485, 486] (by decide +kernel)
set_option maxRecDepth 20000 in
theorem wsL_in_r22 : ∀ w ∈ wsL_law_r22, w ∈ lw_tbl := wsL_pick [487, 488, 489, 490, 491, 492, 494, 7, 495, 496, 497, 55, 498, 499, 500, 501, 879, 880, 881, 882, 886, 883, 884, 885] (by decide +kernel)
set_option maxRecDepth 20000 in
theorem wsL_in_r23 : ∀ w ∈ wsL_law_r23, w ∈ lw_tbl := wsL_pick [887, 889, 35, 890, 891, 893, 36, 894, 895, 896, 897, 502, 503, 504, 505, 506, 508, 8, 509, 510, 511, 512, 513, 514] (by decide +kernel)
set_option maxRecDepth 20000 in
theorem wsL_in_r24 : ∀ w ∈ wsL_law_r24, w ∈ lw_tbl := wsL_pick [515, 898, 899, 900, 901, 672, 673, 902, 904, 37, 905, 906, 907, 908, 516, 517, 518, 519, 909, 910, 911, 912, 520, 521] (by decide +kernel)
set_option maxRecDepth 20000 in
theorem wsL_in_r25 : ∀ w ∈ wsL_law_r25, w ∈ lw_tbl := wsL_pick [522, 523, 524, 525, 913, 914, 915, 916, 526, 527, 528, 529, 530, 531, 532, 533, 534, 535, 536, 80, 537, 197, 198, 199] (by decide +kernel)
set_option maxRecDepth 20000 in
theorem wsL_in_r26 : ∀ w ∈ wsL_law_r26, w ∈ lw_tbl := wsL_pick [200, 538, 539, 540, 541, 542, 543, 544, 545, 546, 548, 9, 549, 550, 551, 552, 553, 555, 10, 556, 558, 560, 11, 561] (by decide +kernel)
set_option maxRecDepth 20000 in
theorem wsL_in_r27 : ∀ w ∈ wsL_law_r27, w ∈ lw_tbl := wsL_pick [562, 563, 564, 565, 917, 918, 919, 920, 921, 922, 923, 924, 925, 927, 38, 928, 929, 930, 931, 566, 567, 568, 569, 570] (by decide +kernel)
set_option maxRecDepth 20000 in
theorem wsL_in_r28 : ∀ w ∈ wsL_law_r28, w ∈ lw_tbl := wsL_pick [571, 572, 573, 574, 575, 576, 577, 932, 933, 934, 935, 936, 937, 578, 579, 580, 581, 938, 939, 940, 941, 582, 583, 584] (by decide +kernel)
set_option maxRecDepth 20000 in
theorem wsL_in_r29 : ∀ w ∈ wsL_law_r29, w ∈ lw_tbl := wsL_pick [585, 221, 223, 586, 587, 588, 589, 593, 220, 222, 590, 591, 592, 594, 596, 12, 597, 598, 599, 600, 602, 604, 13, 605] (by decide +kernel)
set_option maxRecDepth 20000 in
theorem wsL_in_r30 : ∀ w ∈ wsL_law_r30, w ∈ lw_tbl := wsL_pick [606, 608, 14, 609, 614, 615, 610, 612, 15, 613, 616, 617, 618, 619, 620, 621, 56, 622, 623, 624, 625, 626, 627, 628] (by decide +kernel)
set_option maxRecDepth 20000 in
theorem wsL_in_r31 : ∀ w ∈ wsL_law_r31, w ∈ lw_tbl := wsL_pick [629, 630, 631, 632, 942, 943, 944, 945, 946, 676, 675, 947, 949, 39, 950, 951, 952, 953, 954, 956, 40, 957, 958, 960] (by decide +kernel)
set_option maxRecDepth 20000 in
theorem wsL_in_r32 : ∀ w ∈ wsL_law_r32, w ∈ lw_tbl := wsL_pick [41, 961, 962, 964, 42, 965, 966, 967, 968] (by decide +kernel)
set_option maxRecDepth 20000 in
theorem wsL_in_wsX60 : ∀ w ∈ wsX60, w ∈ lw_tbl := by decide +kernel
set_option maxRecDepth 20000 in
theorem wsL_in_wsX70 : ∀ w ∈ wsX70, w ∈ lw_tbl := by decide +kernel
set_option maxRecDepth 20000 in
theorem wsL_in_wsX30 : ∀ w ∈ wsX30, w ∈ lw_tbl := by decide +kernel
set_option maxRecDepth 20000 in
theorem wsL_in_wsX40 : ∀ w ∈ wsX40, w ∈ lw_tbl := by decide +kernel
set_option maxRecDepth 20000 in
theorem wsL_in_wsX20 : ∀ w ∈ wsX20, w ∈ lw_tbl := by decide +kernel
set_option maxRecDepth 20000 in
theorem wsL_in_wsX50 : ∀ w ∈ wsX50, w ∈ lw_tbl := by decide +kernel
set_option maxRecDepth 20000 in
theorem wsL_in_wsX10 : ∀ w ∈ wsX10, w ∈ lw_tbl := by decide +kernel
set_option maxRecDepth 20000 in
theorem wsL_in_wsX00 : ∀ w ∈ wsX00, w ∈ lw_tbl := by decide +kernel
theorem wsL_law_in : ∀ w ∈ wsL_law, w ∈ lw_tbl := (List.forall_mem_append.mpr ⟨(List.forall_mem_append.mpr ⟨(List.forall_mem_append.mpr ⟨(List.forall_mem_append.mpr ⟨(List.forall_mem_append.mpr ⟨(List.forall_mem_append.mpr ⟨(List.forall_mem_append.mpr ⟨(List.forall_mem_append.mpr ⟨(List.forall_mem_append.mpr ⟨(List.forall_mem_append.mpr ⟨wsL_in_r1, (List.forall_mem_append.mpr ⟨wsL_in_r2, (List.forall_mem_append.mpr ⟨wsL_in_r3, (List.forall_mem_append.mpr ⟨wsL_in_r4, (List.forall_mem_append.mpr ⟨wsL_in_r5, (List.forall_mem_append.mpr ⟨wsL_in_r6, (List.forall_mem_append.mpr ⟨wsL_in_r7, (List.forall_mem_append.mpr ⟨wsL_in_r8, (List.forall_mem_append.mpr ⟨wsL_in_r9, (List.forall_mem_append.mpr ⟨wsL_in_r10, (List.forall_mem_append.mpr ⟨wsL_in_r11, (List.forall_mem_append.mpr ⟨wsL_in_r12, (List.forall_mem_append.mpr ⟨wsL_in_r13, (List.forall_mem_append.mpr ⟨wsL_in_r14, (List.forall_mem_append.mpr ⟨wsL_in_r15, (List.forall_mem_append.mpr ⟨wsL_in_r16, (List.forall_mem_append.mpr ⟨wsL_in_r17, (List.forall_mem_append.mpr ⟨wsL_in_r18, (List.forall_mem_append.mpr ⟨wsL_in_r19, (List.forall_mem_append.mpr ⟨wsL_in_r20, (List.forall_mem_append.mpr ⟨wsL_in_r21, (List.forall_mem_append.mpr ⟨wsL_in_r22, (List.forall_mem_append.mpr ⟨wsL_in_r23, (List.forall_mem_append.mpr ⟨wsL_in_r24, (List.forall_mem_append.mpr ⟨wsL_in_r25, (List.forall_mem_append.mpr ⟨wsL_in_r26, (List.forall_mem_append.mpr ⟨wsL_in_r27, (List.forall_mem_append.mpr ⟨wsL_in_r28, (List.forall_mem_append.mpr ⟨wsL_in_r29, (List.forall_mem_append.mpr ⟨wsL_in_r30, (List.forall_mem_append.mpr ⟨wsL_in_r31, wsL_in_r32⟩)⟩)⟩)⟩)⟩)⟩)⟩)⟩)⟩)⟩)⟩)⟩)⟩)⟩)⟩)⟩)⟩)⟩)⟩)⟩)⟩)⟩)⟩)⟩)⟩)⟩)⟩)⟩)⟩)⟩)⟩), wsL_in_wsX60⟩), wsL_in_wsX70⟩), wsL_in_wsX30⟩), wsL_in_wsX40⟩), wsL_in_wsX20⟩), wsL_in_wsX50⟩), wsL_in_wsX10⟩), wsL_in_wsX00⟩), fun _ h => absurd h List.not_mem_nil⟩)
theorem inlX0 : ∀ w ∈ wsX00, w ∈ wsL_law := fun _ h => List.mem_append_left _ (List.mem_append_right _ h)
theorem inX0 : ∀ w ∈ wsX00, w ∈ lw_tbl := fun w h => wsL_law_in w (inlX0 w h)
theorem inlX1 : ∀ w ∈ wsX10, w ∈ wsL_law := fun _ h => List.mem_append_left _ (List.mem_append_left _ (List.mem_append_right _ h))
theorem inX1 : ∀ w ∈ wsX10, w ∈ lw_tbl := fun w h => wsL_law_in w (inlX1 w h)
theorem inlX2 : ∀ w ∈ wsX20, w ∈ wsL_law := fun _ h => List.mem_append_left _ (List.mem_append_left _ (List.mem_append_left _ (List.mem_append_left _ (List.mem_append_right _ h))))
theorem inX2 : ∀ w ∈ wsX20, w ∈ lw_tbl := fun w h => wsL_law_in w (inlX2 w h)
theorem inlX3 : ∀ w ∈ wsX30, w ∈ wsL_law := fun _ h => List.mem_append_left _ (List.mem_append_left _ (List.mem_append_left _ (List.mem_append_left _ (List.mem_append_left _ (List.mem_append_left _ (List.mem_append_right _ h))))))
theorem inX3 : ∀ w ∈ wsX30, w ∈ lw_tbl := fun w h => wsL_law_in w (inlX3 w h)
theorem inlX4 : ∀ w ∈ wsX40, w ∈ wsL_law := fun _ h => List.mem_append_left _ (List.mem_append_left _ (List.mem_append_left _ (List.mem_append_left _ (List.mem_append_left _ (List.mem_append_right _ h)))))
theorem inX4 : ∀ w ∈ wsX40, w ∈ lw_tbl := fun w h => wsL_law_in w (inlX4 w h)
theorem inlX5 : ∀ w ∈ wsX50, w ∈ wsL_law := fun _ h => List.mem_append_left _ (List.mem_append_left _ (List.mem_append_left _ (List.mem_append_right _ h)))
theorem inX5 : ∀ w ∈ wsX50, w ∈ lw_tbl := fun w h => wsL_law_in w (inlX5 w h)
theorem inlX6 : ∀ w ∈ wsX60, w ∈ wsL_law := fun _ h => List.mem_append_left _ (List.mem_append_left _ (List.mem_append_left _ (List.mem_append_left _ (List.mem_append_left _ (List.mem_append_left _ (List.mem_append_left _ (List.mem_append_left _ (List.mem_append_right _ h))))))))
theorem inX6 : ∀ w ∈ wsX60, w ∈ lw_tbl := fun w h => wsL_law_in w (inlX6 w h)
theorem inlX7 : ∀ w ∈ wsX70, w ∈ wsL_law := fun _ h => List.mem_append_left _ (List.mem_append_left _ (List.mem_append_left _ (List.mem_append_left _ (List.mem_append_left _ (List.mem_append_left _ (List.mem_append_left _ (List.mem_append_right _ h)))))))
theorem inX7 : ∀ w ∈ wsX70, w ∈ lw_tbl := fun w h => wsL_law_in w (inlX7 w h)
theorem inJ6 : ∀ w ∈ wsJ60, w ∈ lw_tbl := by decide +kernel
theorem inJ13 : ∀ w ∈ wsJ130, w ∈ lw_tbl := by decide +kernel
theorem inJ9 : ∀ w ∈ wsJ90, w ∈ lw_tbl := by decide +kernel
theorem inJ10 : ∀ w ∈ wsJ100, w ∈ lw_tbl := by decide +kernel
theorem inJ7 : ∀ w ∈ wsJ70, w ∈ lw_tbl := by decide +kernel
end
section
theorem dX0_init_0 : decode cX0_init 0 = .ok (.aload_n 0, 1) := by decide +kernel
theorem dX0_init_1 : decode cX0_init 1 = .ok (.invokespecial 5, 3) := by decide +kernel
theorem dX0_init_4 : decode cX0_init 4 = .ok (.aload_n 0, 1) := by decide +kernel
theorem dX0_init_5 : decode cX0_init 5 = .ok (.bipush 40, 2) := by decide +kernel
theorem dX0_init_7 : decode cX0_init 7 = .ok (.newarray .int, 2) := by decide +kernel
theorem dX0_init_9 : decode cX0_init 9 = .ok (.putfield 11, 3) := by decide +kernel
theorem dX0_init_12 : decode cX0_init 12 = .ok (.aload_n 0, 1) := by decide +kernel
theorem dX0_init_13 : decode cX0_init 13 = .ok (.bipush 40, 2) := by decide +kernel
theorem dX0_init_15 : decode cX0_init 15 = .ok (.newarray .int, 2) := by decide +kernel
theorem dX0_init_17 : decode cX0_init 17 = .ok (.putfield 15, 3) := by decide +kernel
theorem dX0_init_20 : decode cX0_init 20 = .ok (.aload_n 0, 1) := by decide +kernel
theorem dX0_init_21 : decode cX0_init 21 = .ok (.bipush 40, 2) := by decide +kernel
theorem dX0_init_23 : decode cX0_init 23 = .ok (.newarray .int, 2) := by decide +kernel
theorem dX0_init_25 : decode cX0_init 25 = .ok (.putfield 18, 3) := by decide +kernel
theorem dX0_init_28 : decode cX0_init 28 = .ok (.aload_n 0, 1) := by decide +kernel
theorem dX0_init_29 : decode cX0_init 29 = .ok (.bipush 49, 2) := by decide +kernel
theorem dX0_init_31 : decode cX0_init 31 = .ok (.newarray .long, 2) := by decide +kernel
theorem dX0_init_33 : decode cX0_init 33 = .ok (.putfield 21, 3) := by decide +kernel
theorem dX0_init_36 : decode cX0_init 36 = .ok (.aload_n 0, 1) := by decide +kernel
theorem dX0_init_37 : decode cX0_init 37 = .ok (.bipush 49, 2) := by decide +kernel
theorem dX0_init_39 : decode cX0_init 39 = .ok (.newarray .long, 2) := by decide +kernel
theorem dX0_init_41 : decode cX0_init 41 = .ok (.putfield 25, 3) := by decide +kernel
theorem dX0_init_44 : decode cX0_init 44 = .ok (.aload_n 0, 1) := by decide +kernel
theorem dX0_init_45 : decode cX0_init 45 = .ok (.bipush 49, 2) := by decide +kernel
theorem dX0_init_47 : decode cX0_init 47 = .ok (.newarray .long, 2) := by decide +kernel
theorem dX0_init_49 : decode cX0_init 49 = .ok (.putfield 28, 3) := by decide +kernel
theorem dX0_init_52 : decode cX0_init 52 = .ok (.return_, 1) := by decide +kernel
theorem dX0_isWall_0 : decode cX0_isWall 0 = .ok (.iconst 0, 1) := by decide +kernel
theorem dX0_isWall_1 : decode cX0_isWall 1 = .ok (.istore_n 3, 1) := by decide +kernel
theorem dX0_isWall_2 : decode cX0_isWall 2 = .ok (.iload_n 3, 1) := by decide +kernel
theorem dX0_isWall_3 : decode cX0_isWall 3 = .ok (.aload_n 0, 1) := by decide +kernel
theorem dX0_isWall_4 : decode cX0_isWall 4 = .ok (.getfield 31, 3) := by decide +kernel
theorem dX0_isWall_7 : decode cX0_isWall 7 = .ok (.if_icmp .ge 37, 3) := by decide +kernel
theorem dX0_isWall_10 : decode cX0_isWall 10 = .ok (.iload_n 3, 1) := by decide +kernel
theorem dX0_isWall_11 : decode cX0_isWall 11 = .ok (.bipush 40, 2) := by decide +kernel
theorem dX0_isWall_13 : decode cX0_isWall 13 = .ok (.if_icmp .ge 31, 3) := by decide +kernel
theorem dX0_isWall_16 : decode cX0_isWall 16 = .ok (.aload_n 0, 1) := by decide +kernel
theorem dX0_isWall_17 : decode cX0_isWall 17 = .ok (.getfield 11, 3) := by decide +kernel
theorem dX0_isWall_20 : decode cX0_isWall 20 = .ok (.iload_n 3, 1) := by decide +kernel
theorem dX0_isWall_21 : decode cX0_isWall 21 = .ok (.iaload, 1) := by decide +kernel
theorem dX0_isWall_22 : decode cX0_isWall 22 = .ok (.iload_n 1, 1) := by decide +kernel
theorem dX0_isWall_23 : decode cX0_isWall 23 = .ok (.if_icmp .ne 15, 3) := by decide +kernel
theorem dX0_isWall_26 : decode cX0_isWall 26 = .ok (.aload_n 0, 1) := by decide +kernel
theorem dX0_isWall_27 : decode cX0_isWall 27 = .ok (.getfield 15, 3) := by decide +kernel
theorem dX0_isWall_30 : decode cX0_isWall 30 = .ok (.iload_n 3, 1) := by decide +kernel
theorem dX0_isWall_31 : decode cX0_isWall 31 = .ok (.iaload, 1) := by decide +kernel
theorem dX0_isWall_32 : decode cX0_isWall 32 = .ok (.iload_n 2, 1) := by decide +kernel
theorem dX0_isWall_33 : decode cX0_isWall 33 = .ok (.if_icmp .ne 5, 3) := by decide +kernel
theorem dX0_isWall_36 : decode cX0_isWall 36 = .ok (.iconst 1, 1) := by decide +kernel
theorem dX0_isWall_37 : decode cX0_isWall 37 = .ok (.ireturn, 1) := by decide +kernel
theorem dX0_isWall_38 : decode cX0_isWall 38 = .ok (.iinc 3 1, 3) := by decide +kernel
theorem dX0_isWall_41 : decode cX0_isWall 41 = .ok (.goto (-39), 3) := by decide +kernel
theorem dX0_isWall_44 : decode cX0_isWall 44 = .ok (.iconst 0, 1) := by decide +kernel
theorem dX0_isWall_45 : decode cX0_isWall 45 = .ok (.ireturn, 1) := by decide +kernel
theorem dX0_add_0 : decode cX0_add 0 = .ok (.aload_n 0, 1) := by decide +kernel
theorem dX0_add_1 : decode cX0_add 1 = .ok (.getfield 31, 3) := by decide +kernel
theorem dX0_add_4 : decode cX0_add 4 = .ok (.ifCond .lt 12, 3) := by decide +kernel
theorem dX0_add_7 : decode cX0_add 7 = .ok (.aload_n 0, 1) := by decide +kernel
theorem dX0_add_8 : decode cX0_add 8 = .ok (.getfield 31, 3) := by decide +kernel
theorem dX0_add_11 : decode cX0_add 11 = .ok (.bipush 40, 2) := by decide +kernel
theorem dX0_add_13 : decode cX0_add 13 = .ok (.if_icmp .lt 7, 3) := by decide +kernel
theorem dX0_add_16 : decode cX0_add 16 = .ok (.sipush (-1004), 3) := by decide +kernel
theorem dX0_add_19 : decode cX0_add 19 = .ok (.ireturn, 1) := by decide +kernel
theorem dX0_add_20 : decode cX0_add 20 = .ok (.aload_n 0, 1) := by decide +kernel
theorem dX0_add_21 : decode cX0_add 21 = .ok (.getfield 11, 3) := by decide +kernel
theorem dX0_add_24 : decode cX0_add 24 = .ok (.aload_n 0, 1) := by decide +kernel
theorem dX0_add_25 : decode cX0_add 25 = .ok (.getfield 31, 3) := by decide +kernel
theorem dX0_add_28 : decode cX0_add 28 = .ok (.iload_n 1, 1) := by decide +kernel
theorem dX0_add_29 : decode cX0_add 29 = .ok (.iastore, 1) := by decide +kernel
theorem dX0_add_30 : decode cX0_add 30 = .ok (.aload_n 0, 1) := by decide +kernel
theorem dX0_add_31 : decode cX0_add 31 = .ok (.getfield 15, 3) := by decide +kernel
theorem dX0_add_34 : decode cX0_add 34 = .ok (.aload_n 0, 1) := by decide +kernel
theorem dX0_add_35 : decode cX0_add 35 = .ok (.getfield 31, 3) := by decide +kernel
theorem dX0_add_38 : decode cX0_add 38 = .ok (.iload_n 2, 1) := by decide +kernel
theorem dX0_add_39 : decode cX0_add 39 = .ok (.iastore, 1) := by decide +kernel
theorem dX0_add_40 : decode cX0_add 40 = .ok (.aload_n 0, 1) := by decide +kernel
theorem dX0_add_41 : decode cX0_add 41 = .ok (.getfield 18, 3) := by decide +kernel
theorem dX0_add_44 : decode cX0_add 44 = .ok (.aload_n 0, 1) := by decide +kernel
theorem dX0_add_45 : decode cX0_add 45 = .ok (.getfield 31, 3) := by decide +kernel
theorem dX0_add_48 : decode cX0_add 48 = .ok (.iload_n 3, 1) := by decide +kernel
theorem dX0_add_49 : decode cX0_add 49 = .ok (.iastore, 1) := by decide +kernel
theorem dX0_add_50 : decode cX0_add 50 = .ok (.aload_n 0, 1) := by decide +kernel
theorem dX0_add_51 : decode cX0_add 51 = .ok (.dup, 1) := by decide +kernel
theorem dX0_add_52 : decode cX0_add 52 = .ok (.getfield 31, 3) := by decide +kernel
theorem dX0_add_55 : decode cX0_add 55 = .ok (.iconst 1, 1) := by decide +kernel
theorem dX0_add_56 : decode cX0_add 56 = .ok (.iadd, 1) := by decide +kernel
theorem dX0_add_57 : decode cX0_add 57 = .ok (.putfield 31, 3) := by decide +kernel
theorem dX0_add_60 : decode cX0_add 60 = .ok (.aload_n 0, 1) := by decide +kernel
theorem dX0_add_61 : decode cX0_add 61 = .ok (.getfield 31, 3) := by decide +kernel
theorem dX0_add_64 : decode cX0_add 64 = .ok (.ireturn, 1) := by decide +kernel
theorem dX0_needed_0 : decode cX0_needed 0 = .ok (.iconst 0, 1) := by decide +kernel
theorem dX0_needed_1 : decode cX0_needed 1 = .ok (.istore_n 1, 1) := by decide +kernel
theorem dX0_needed_2 : decode cX0_needed 2 = .ok (.iconst 1, 1) := by decide +kernel
theorem dX0_needed_3 : decode cX0_needed 3 = .ok (.istore_n 2, 1) := by decide +kernel
theorem dX0_needed_4 : decode cX0_needed 4 = .ok (.iload_n 2, 1) := by decide +kernel
theorem dX0_needed_5 : decode cX0_needed 5 = .ok (.bipush 20, 2) := by decide +kernel
theorem dX0_needed_7 : decode cX0_needed 7 = .ok (.if_icmp .gt 56, 3) := by decide +kernel
theorem dX0_needed_10 : decode cX0_needed 10 = .ok (.iconst 0, 1) := by decide +kernel
theorem dX0_needed_11 : decode cX0_needed 11 = .ok (.istore_n 3, 1) := by decide +kernel
theorem dX0_needed_12 : decode cX0_needed 12 = .ok (.iconst 0, 1) := by decide +kernel
theorem dX0_needed_13 : decode cX0_needed 13 = .ok (.istore 4, 2) := by decide +kernel
theorem dX0_needed_15 : decode cX0_needed 15 = .ok (.iload 4, 2) := by decide +kernel
theorem dX0_needed_17 : decode cX0_needed 17 = .ok (.aload_n 0, 1) := by decide +kernel
theorem dX0_needed_18 : decode cX0_needed 18 = .ok (.getfield 31, 3) := by decide +kernel
theorem dX0_needed_21 : decode cX0_needed 21 = .ok (.if_icmp .ge 30, 3) := by decide +kernel
theorem dX0_needed_24 : decode cX0_needed 24 = .ok (.iload 4, 2) := by decide +kernel
theorem dX0_needed_26 : decode cX0_needed 26 = .ok (.bipush 40, 2) := by decide +kernel
theorem dX0_needed_28 : decode cX0_needed 28 = .ok (.if_icmp .ge 23, 3) := by decide +kernel
theorem dX0_needed_31 : decode cX0_needed 31 = .ok (.aload_n 0, 1) := by decide +kernel
theorem dX0_needed_32 : decode cX0_needed 32 = .ok (.getfield 18, 3) := by decide +kernel
theorem dX0_needed_35 : decode cX0_needed 35 = .ok (.iload 4, 2) := by decide +kernel
theorem dX0_needed_37 : decode cX0_needed 37 = .ok (.iaload, 1) := by decide +kernel
theorem dX0_needed_38 : decode cX0_needed 38 = .ok (.iload_n 2, 1) := by decide +kernel
theorem dX0_needed_39 : decode cX0_needed 39 = .ok (.if_icmp .ne 6, 3) := by decide +kernel
theorem dX0_needed_42 : decode cX0_needed 42 = .ok (.iinc 3 1, 3) := by decide +kernel
theorem dX0_needed_45 : decode cX0_needed 45 = .ok (.iinc 4 1, 3) := by decide +kernel
theorem dX0_needed_48 : decode cX0_needed 48 = .ok (.goto (-33), 3) := by decide +kernel
theorem dX0_needed_51 : decode cX0_needed 51 = .ok (.iload_n 1, 1) := by decide +kernel
theorem dX0_needed_52 : decode cX0_needed 52 = .ok (.iload_n 3, 1) := by decide +kernel
theorem dX0_needed_53 : decode cX0_needed 53 = .ok (.invokestatic 35, 3) := by decide +kernel
theorem dX0_needed_56 : decode cX0_needed 56 = .ok (.istore_n 1, 1) := by decide +kernel
theorem dX0_needed_57 : decode cX0_needed 57 = .ok (.iinc 2 1, 3) := by decide +kernel
theorem dX0_needed_60 : decode cX0_needed 60 = .ok (.goto (-56), 3) := by decide +kernel
theorem dX0_needed_63 : decode cX0_needed 63 = .ok (.iload_n 1, 1) := by decide +kernel
theorem dX0_needed_64 : decode cX0_needed 64 = .ok (.ireturn, 1) := by decide +kernel
set_option maxRecDepth 20000 in
theorem ggX0_burn_J7_fill_d0a16 : GoodIn wsX0_burn wsJ7_fill_d0a16 := goodIn_r _ [9] (by decide +kernel) (by decide +kernel)
set_option maxRecDepth 20000 in
theorem gX0_burn_J7_fill_d0a16 : GoodIn wsX0_burn (va_wsS RX0 41 yJ7_fill_d0a16 wsJ7_fill_d0a16) := goodIn_app (goodIn_of _ (by decide +kernel)) ggX0_burn_J7_fill_d0a16
set_option maxRecDepth 20000 in
theorem ggX0_burn_X0_putGuards : GoodIn wsX0_burn wsX0_putGuards := goodIn_r _ [14, 15, 16, 17, 18, 19, 20, 13, 21, 22, 23, 24, 25, 26, 27, 28, 1, 5, 2, 43, 44, 45, 46, 47, 48, 49, 50, 51] (by decide +kernel) (by decide +kernel)
set_option maxRecDepth 20000 in
theorem gX0_burn_X0_putGuards : GoodIn wsX0_burn (wsV RX0 55 RX0 yX0_putGuards wsX0_putGuards) := goodIn_app (goodIn_of _ (by decide +kernel)) ggX0_burn_X0_putGuards
set_option maxRecDepth 20000 in
theorem ggX0_burn_X0_spread : GoodIn wsX0_burn wsX0_spread := goodIn_r _ [32, 1, 33, 2, 34, 35, 36, 37, 38, 39, 40, 41, 13, 42, 43, 44, 45, 46, 47, 48, 49, 50, 51] (by decide +kernel) (by decide +kernel)
set_option maxRecDepth 20000 in
theorem gX0_burn_X0_spread : GoodIn wsX0_burn (wsV RX0 59 RX0 yX0_spread wsX0_spread) := goodIn_app (goodIn_of _ (by decide +kernel)) ggX0_burn_X0_spread
theorem dX0_burn_0 : decode cX0_burn 0 = .ok (.aload_n 0, 1) := by decide +kernel
theorem dX0_burn_1 : decode cX0_burn 1 = .ok (.getfield 21, 3) := by decide +kernel
theorem dX0_burn_4 : decode cX0_burn 4 = .ok (.lconst 0, 1) := by decide +kernel
theorem dX0_burn_5 : decode cX0_burn 5 = .ok (.invokestatic 41, 3) := by decide +kernel
theorem dX0_burn_8 : decode cX0_burn 8 = .ok (.aload_n 0, 1) := by decide +kernel
theorem dX0_burn_9 : decode cX0_burn 9 = .ok (.getfield 28, 3) := by decide +kernel
theorem dX0_burn_12 : decode cX0_burn 12 = .ok (.lconst 0, 1) := by decide +kernel
theorem dX0_burn_13 : decode cX0_burn 13 = .ok (.invokestatic 41, 3) := by decide +kernel
theorem dX0_burn_16 : decode cX0_burn 16 = .ok (.aload_n 0, 1) := by decide +kernel
theorem dX0_burn_17 : decode cX0_burn 17 = .ok (.getfield 21, 3) := by decide +kernel
theorem dX0_burn_20 : decode cX0_burn 20 = .ok (.bipush 24, 2) := by decide +kernel
theorem dX0_burn_22 : decode cX0_burn 22 = .ok (.ldc2_w 47, 3) := by decide +kernel
theorem dX0_burn_25 : decode cX0_burn 25 = .ok (.lastore, 1) := by decide +kernel
theorem dX0_burn_26 : decode cX0_burn 26 = .ok (.aload_n 0, 1) := by decide +kernel
theorem dX0_burn_27 : decode cX0_burn 27 = .ok (.iconst (-1), 1) := by decide +kernel
theorem dX0_burn_28 : decode cX0_burn 28 = .ok (.putfield 49, 3) := by decide +kernel
theorem dX0_burn_31 : decode cX0_burn 31 = .ok (.aload_n 0, 1) := by decide +kernel
theorem dX0_burn_32 : decode cX0_burn 32 = .ok (.iconst 0, 1) := by decide +kernel
theorem dX0_burn_33 : decode cX0_burn 33 = .ok (.putfield 52, 3) := by decide +kernel
theorem dX0_burn_36 : decode cX0_burn 36 = .ok (.iconst 1, 1) := by decide +kernel
theorem dX0_burn_37 : decode cX0_burn 37 = .ok (.istore_n 1, 1) := by decide +kernel
theorem dX0_burn_38 : decode cX0_burn 38 = .ok (.iload_n 1, 1) := by decide +kernel
theorem dX0_burn_39 : decode cX0_burn 39 = .ok (.bipush 24, 2) := by decide +kernel
theorem dX0_burn_41 : decode cX0_burn 41 = .ok (.if_icmp .gt 34, 3) := by decide +kernel
theorem dX0_burn_44 : decode cX0_burn 44 = .ok (.aload_n 0, 1) := by decide +kernel
theorem dX0_burn_45 : decode cX0_burn 45 = .ok (.getfield 49, 3) := by decide +kernel
theorem dX0_burn_48 : decode cX0_burn 48 = .ok (.iconst (-1), 1) := by decide +kernel
theorem dX0_burn_49 : decode cX0_burn 49 = .ok (.if_icmp .ne 26, 3) := by decide +kernel
theorem dX0_burn_52 : decode cX0_burn 52 = .ok (.aload_n 0, 1) := by decide +kernel
theorem dX0_burn_53 : decode cX0_burn 53 = .ok (.iload_n 1, 1) := by decide +kernel
theorem dX0_burn_54 : decode cX0_burn 54 = .ok (.invokevirtual 55, 3) := by decide +kernel
theorem dX0_burn_57 : decode cX0_burn 57 = .ok (.aload_n 0, 1) := by decide +kernel
theorem dX0_burn_58 : decode cX0_burn 58 = .ok (.invokevirtual 59, 3) := by decide +kernel
theorem dX0_burn_61 : decode cX0_burn 61 = .ok (.ifCond .ne 8, 3) := by decide +kernel
theorem dX0_burn_64 : decode cX0_burn 64 = .ok (.aload_n 0, 1) := by decide +kernel
theorem dX0_burn_65 : decode cX0_burn 65 = .ok (.iload_n 1, 1) := by decide +kernel
theorem dX0_burn_66 : decode cX0_burn 66 = .ok (.putfield 49, 3) := by decide +kernel
theorem dX0_burn_69 : decode cX0_burn 69 = .ok (.iinc 1 1, 3) := by decide +kernel
theorem dX0_burn_72 : decode cX0_burn 72 = .ok (.goto (-34), 3) := by decide +kernel
theorem dX0_burn_75 : decode cX0_burn 75 = .ok (.return_, 1) := by decide +kernel
set_option maxRecDepth 20000 in
theorem ggX0_putGuards_X0_onRows : GoodIn wsX0_putGuards wsX0_onRows := goodIn_r _ [8, 9, 10, 11] (by decide +kernel) (by decide +kernel)
set_option maxRecDepth 20000 in
theorem gX0_putGuards_X0_onRows : GoodIn wsX0_putGuards (va_wsS RX0 63 yX0_onRows wsX0_onRows) := goodIn_app (goodIn_of _ (by decide +kernel)) ggX0_putGuards_X0_onRows
set_option maxRecDepth 20000 in
theorem ggX0_putGuards_X0_putGuard : GoodIn wsX0_putGuards wsX0_putGuard := goodIn_r _ [15, 16, 17, 18, 19, 20, 21, 22, 23, 24, 25, 26, 27] (by decide +kernel) (by decide +kernel)
set_option maxRecDepth 20000 in
theorem gX0_putGuards_X0_putGuard : GoodIn wsX0_putGuards (wsV RX0 67 RX0 yX0_putGuard wsX0_putGuard) := goodIn_app (goodIn_of _ (by decide +kernel)) ggX0_putGuards_X0_putGuard
theorem dX0_putGuards_0 : decode cX0_putGuards 0 = .ok (.iconst 0, 1) := by decide +kernel
theorem dX0_putGuards_1 : decode cX0_putGuards 1 = .ok (.istore_n 2, 1) := by decide +kernel
theorem dX0_putGuards_2 : decode cX0_putGuards 2 = .ok (.iload_n 2, 1) := by decide +kernel
theorem dX0_putGuards_3 : decode cX0_putGuards 3 = .ok (.aload_n 0, 1) := by decide +kernel
theorem dX0_putGuards_4 : decode cX0_putGuards 4 = .ok (.getfield 31, 3) := by decide +kernel
theorem dX0_putGuards_7 : decode cX0_putGuards 7 = .ok (.if_icmp .ge 73, 3) := by decide +kernel
theorem dX0_putGuards_10 : decode cX0_putGuards 10 = .ok (.iload_n 2, 1) := by decide +kernel
theorem dX0_putGuards_11 : decode cX0_putGuards 11 = .ok (.bipush 40, 2) := by decide +kernel
theorem dX0_putGuards_13 : decode cX0_putGuards 13 = .ok (.if_icmp .ge 67, 3) := by decide +kernel
theorem dX0_putGuards_16 : decode cX0_putGuards 16 = .ok (.aload_n 0, 1) := by decide +kernel
theorem dX0_putGuards_17 : decode cX0_putGuards 17 = .ok (.getfield 18, 3) := by decide +kernel
theorem dX0_putGuards_20 : decode cX0_putGuards 20 = .ok (.iload_n 2, 1) := by decide +kernel
theorem dX0_putGuards_21 : decode cX0_putGuards 21 = .ok (.iaload, 1) := by decide +kernel
theorem dX0_putGuards_22 : decode cX0_putGuards 22 = .ok (.iload_n 1, 1) := by decide +kernel
theorem dX0_putGuards_23 : decode cX0_putGuards 23 = .ok (.if_icmp .ne 51, 3) := by decide +kernel
theorem dX0_putGuards_26 : decode cX0_putGuards 26 = .ok (.aload_n 0, 1) := by decide +kernel
theorem dX0_putGuards_27 : decode cX0_putGuards 27 = .ok (.getfield 11, 3) := by decide +kernel
theorem dX0_putGuards_30 : decode cX0_putGuards 30 = .ok (.iload_n 2, 1) := by decide +kernel
theorem dX0_putGuards_31 : decode cX0_putGuards 31 = .ok (.iaload, 1) := by decide +kernel
theorem dX0_putGuards_32 : decode cX0_putGuards 32 = .ok (.invokestatic 63, 3) := by decide +kernel
theorem dX0_putGuards_35 : decode cX0_putGuards 35 = .ok (.ifCond .eq 39, 3) := by decide +kernel
theorem dX0_putGuards_38 : decode cX0_putGuards 38 = .ok (.aload_n 0, 1) := by decide +kernel
theorem dX0_putGuards_39 : decode cX0_putGuards 39 = .ok (.getfield 15, 3) := by decide +kernel
theorem dX0_putGuards_42 : decode cX0_putGuards 42 = .ok (.iload_n 2, 1) := by decide +kernel
theorem dX0_putGuards_43 : decode cX0_putGuards 43 = .ok (.iaload, 1) := by decide +kernel
theorem dX0_putGuards_44 : decode cX0_putGuards 44 = .ok (.invokestatic 63, 3) := by decide +kernel
theorem dX0_putGuards_47 : decode cX0_putGuards 47 = .ok (.ifCond .eq 27, 3) := by decide +kernel
theorem dX0_putGuards_50 : decode cX0_putGuards 50 = .ok (.aload_n 0, 1) := by decide +kernel
theorem dX0_putGuards_51 : decode cX0_putGuards 51 = .ok (.aload_n 0, 1) := by decide +kernel
theorem dX0_putGuards_52 : decode cX0_putGuards 52 = .ok (.getfield 15, 3) := by decide +kernel
theorem dX0_putGuards_55 : decode cX0_putGuards 55 = .ok (.iload_n 2, 1) := by decide +kernel
theorem dX0_putGuards_56 : decode cX0_putGuards 56 = .ok (.iaload, 1) := by decide +kernel
theorem dX0_putGuards_57 : decode cX0_putGuards 57 = .ok (.bipush 24, 2) := by decide +kernel
theorem dX0_putGuards_59 : decode cX0_putGuards 59 = .ok (.iadd, 1) := by decide +kernel
theorem dX0_putGuards_60 : decode cX0_putGuards 60 = .ok (.lconst 1, 1) := by decide +kernel
theorem dX0_putGuards_61 : decode cX0_putGuards 61 = .ok (.aload_n 0, 1) := by decide +kernel
theorem dX0_putGuards_62 : decode cX0_putGuards 62 = .ok (.getfield 11, 3) := by decide +kernel
theorem dX0_putGuards_65 : decode cX0_putGuards 65 = .ok (.iload_n 2, 1) := by decide +kernel
theorem dX0_putGuards_66 : decode cX0_putGuards 66 = .ok (.iaload, 1) := by decide +kernel
theorem dX0_putGuards_67 : decode cX0_putGuards 67 = .ok (.bipush 24, 2) := by decide +kernel
theorem dX0_putGuards_69 : decode cX0_putGuards 69 = .ok (.iadd, 1) := by decide +kernel
theorem dX0_putGuards_70 : decode cX0_putGuards 70 = .ok (.lshl, 1) := by decide +kernel
theorem dX0_putGuards_71 : decode cX0_putGuards 71 = .ok (.invokevirtual 67, 3) := by decide +kernel
theorem dX0_putGuards_74 : decode cX0_putGuards 74 = .ok (.iinc 2 1, 3) := by decide +kernel
theorem dX0_putGuards_77 : decode cX0_putGuards 77 = .ok (.goto (-75), 3) := by decide +kernel
theorem dX0_putGuards_80 : decode cX0_putGuards 80 = .ok (.return_, 1) := by decide +kernel
set_option maxRecDepth 20000 in
theorem ggX0_onRows_X6_within : GoodIn wsX0_onRows wsX6_within := goodIn_r _ [3] (by decide +kernel) (by decide +kernel)
set_option maxRecDepth 20000 in
theorem gX0_onRows_X6_within_n71 : GoodIn wsX0_onRows (wsX6_within) := ggX0_onRows_X6_within
theorem dX0_onRows_0 : decode cX0_onRows 0 = .ok (.iload_n 0, 1) := by decide +kernel
theorem dX0_onRows_1 : decode cX0_onRows 1 = .ok (.bipush (-24), 2) := by decide +kernel
theorem dX0_onRows_3 : decode cX0_onRows 3 = .ok (.bipush 24, 2) := by decide +kernel
theorem dX0_onRows_5 : decode cX0_onRows 5 = .ok (.invokestatic 71, 3) := by decide +kernel
theorem dX0_onRows_8 : decode cX0_onRows 8 = .ok (.ireturn, 1) := by decide +kernel
theorem dX0_putGuard_0 : decode cX0_putGuard 0 = .ok (.iload_n 1, 1) := by decide +kernel
theorem dX0_putGuard_1 : decode cX0_putGuard 1 = .ok (.ifCond .lt 9, 3) := by decide +kernel
theorem dX0_putGuard_4 : decode cX0_putGuard 4 = .ok (.iload_n 1, 1) := by decide +kernel
theorem dX0_putGuard_5 : decode cX0_putGuard 5 = .ok (.bipush 49, 2) := by decide +kernel
theorem dX0_putGuard_7 : decode cX0_putGuard 7 = .ok (.if_icmp .lt 4, 3) := by decide +kernel
theorem dX0_putGuard_10 : decode cX0_putGuard 10 = .ok (.return_, 1) := by decide +kernel
theorem dX0_putGuard_11 : decode cX0_putGuard 11 = .ok (.aload_n 0, 1) := by decide +kernel
theorem dX0_putGuard_12 : decode cX0_putGuard 12 = .ok (.getfield 21, 3) := by decide +kernel
theorem dX0_putGuard_15 : decode cX0_putGuard 15 = .ok (.iload_n 1, 1) := by decide +kernel
theorem dX0_putGuard_16 : decode cX0_putGuard 16 = .ok (.laload, 1) := by decide +kernel
theorem dX0_putGuard_17 : decode cX0_putGuard 17 = .ok (.lload_n 2, 1) := by decide +kernel
theorem dX0_putGuard_18 : decode cX0_putGuard 18 = .ok (.land, 1) := by decide +kernel
theorem dX0_putGuard_19 : decode cX0_putGuard 19 = .ok (.lconst 0, 1) := by decide +kernel
theorem dX0_putGuard_20 : decode cX0_putGuard 20 = .ok (.lcmp, 1) := by decide +kernel
theorem dX0_putGuard_21 : decode cX0_putGuard 21 = .ok (.ifCond .eq 16, 3) := by decide +kernel
theorem dX0_putGuard_24 : decode cX0_putGuard 24 = .ok (.aload_n 0, 1) := by decide +kernel
theorem dX0_putGuard_25 : decode cX0_putGuard 25 = .ok (.dup, 1) := by decide +kernel
theorem dX0_putGuard_26 : decode cX0_putGuard 26 = .ok (.getfield 52, 3) := by decide +kernel
theorem dX0_putGuard_29 : decode cX0_putGuard 29 = .ok (.iconst 1, 1) := by decide +kernel
theorem dX0_putGuard_30 : decode cX0_putGuard 30 = .ok (.iadd, 1) := by decide +kernel
theorem dX0_putGuard_31 : decode cX0_putGuard 31 = .ok (.putfield 52, 3) := by decide +kernel
theorem dX0_putGuard_34 : decode cX0_putGuard 34 = .ok (.goto 13, 3) := by decide +kernel
theorem dX0_putGuard_37 : decode cX0_putGuard 37 = .ok (.aload_n 0, 1) := by decide +kernel
theorem dX0_putGuard_38 : decode cX0_putGuard 38 = .ok (.getfield 28, 3) := by decide +kernel
theorem dX0_putGuard_41 : decode cX0_putGuard 41 = .ok (.iload_n 1, 1) := by decide +kernel
theorem dX0_putGuard_42 : decode cX0_putGuard 42 = .ok (.dup2, 1) := by decide +kernel
theorem dX0_putGuard_43 : decode cX0_putGuard 43 = .ok (.laload, 1) := by decide +kernel
theorem dX0_putGuard_44 : decode cX0_putGuard 44 = .ok (.lload_n 2, 1) := by decide +kernel
theorem dX0_putGuard_45 : decode cX0_putGuard 45 = .ok (.lor, 1) := by decide +kernel
theorem dX0_putGuard_46 : decode cX0_putGuard 46 = .ok (.lastore, 1) := by decide +kernel
theorem dX0_putGuard_47 : decode cX0_putGuard 47 = .ok (.return_, 1) := by decide +kernel
set_option maxRecDepth 20000 in
theorem ggX0_spread_X0_rowAt : GoodIn wsX0_spread wsX0_rowAt := goodIn_r _ [13, 1, 14, 15, 16, 17, 18, 19, 20, 21, 22] (by decide +kernel) (by decide +kernel)
set_option maxRecDepth 20000 in
theorem gX0_spread_X0_rowAt : GoodIn wsX0_spread (wsV RX0 75 RX0 yX0_rowAt wsX0_rowAt) := goodIn_app (goodIn_of _ (by decide +kernel)) ggX0_spread_X0_rowAt
theorem dX0_spread_0 : decode cX0_spread 0 = .ok (.iconst 0, 1) := by decide +kernel
theorem dX0_spread_1 : decode cX0_spread 1 = .ok (.istore_n 1, 1) := by decide +kernel
theorem dX0_spread_2 : decode cX0_spread 2 = .ok (.iconst 0, 1) := by decide +kernel
theorem dX0_spread_3 : decode cX0_spread 3 = .ok (.istore_n 2, 1) := by decide +kernel
theorem dX0_spread_4 : decode cX0_spread 4 = .ok (.iload_n 2, 1) := by decide +kernel
theorem dX0_spread_5 : decode cX0_spread 5 = .ok (.bipush 49, 2) := by decide +kernel
theorem dX0_spread_7 : decode cX0_spread 7 = .ok (.if_icmp .ge 75, 3) := by decide +kernel
theorem dX0_spread_10 : decode cX0_spread 10 = .ok (.aload_n 0, 1) := by decide +kernel
theorem dX0_spread_11 : decode cX0_spread 11 = .ok (.getfield 21, 3) := by decide +kernel
theorem dX0_spread_14 : decode cX0_spread 14 = .ok (.iload_n 2, 1) := by decide +kernel
theorem dX0_spread_15 : decode cX0_spread 15 = .ok (.laload, 1) := by decide +kernel
theorem dX0_spread_16 : decode cX0_spread 16 = .ok (.lstore_n 3, 1) := by decide +kernel
theorem dX0_spread_17 : decode cX0_spread 17 = .ok (.lload_n 3, 1) := by decide +kernel
theorem dX0_spread_18 : decode cX0_spread 18 = .ok (.iconst 1, 1) := by decide +kernel
theorem dX0_spread_19 : decode cX0_spread 19 = .ok (.lshl, 1) := by decide +kernel
theorem dX0_spread_20 : decode cX0_spread 20 = .ok (.lload_n 3, 1) := by decide +kernel
theorem dX0_spread_21 : decode cX0_spread 21 = .ok (.iconst 1, 1) := by decide +kernel
theorem dX0_spread_22 : decode cX0_spread 22 = .ok (.lushr, 1) := by decide +kernel
theorem dX0_spread_23 : decode cX0_spread 23 = .ok (.lor, 1) := by decide +kernel
theorem dX0_spread_24 : decode cX0_spread 24 = .ok (.aload_n 0, 1) := by decide +kernel
theorem dX0_spread_25 : decode cX0_spread 25 = .ok (.iload_n 2, 1) := by decide +kernel
theorem dX0_spread_26 : decode cX0_spread 26 = .ok (.iconst 1, 1) := by decide +kernel
theorem dX0_spread_27 : decode cX0_spread 27 = .ok (.isub, 1) := by decide +kernel
theorem dX0_spread_28 : decode cX0_spread 28 = .ok (.invokevirtual 75, 3) := by decide +kernel
theorem dX0_spread_31 : decode cX0_spread 31 = .ok (.lor, 1) := by decide +kernel
theorem dX0_spread_32 : decode cX0_spread 32 = .ok (.aload_n 0, 1) := by decide +kernel
theorem dX0_spread_33 : decode cX0_spread 33 = .ok (.iload_n 2, 1) := by decide +kernel
theorem dX0_spread_34 : decode cX0_spread 34 = .ok (.iconst 1, 1) := by decide +kernel
theorem dX0_spread_35 : decode cX0_spread 35 = .ok (.iadd, 1) := by decide +kernel
theorem dX0_spread_36 : decode cX0_spread 36 = .ok (.invokevirtual 75, 3) := by decide +kernel
theorem dX0_spread_39 : decode cX0_spread 39 = .ok (.lor, 1) := by decide +kernel
theorem dX0_spread_40 : decode cX0_spread 40 = .ok (.lstore 5, 2) := by decide +kernel
theorem dX0_spread_42 : decode cX0_spread 42 = .ok (.aload_n 0, 1) := by decide +kernel
theorem dX0_spread_43 : decode cX0_spread 43 = .ok (.getfield 25, 3) := by decide +kernel
theorem dX0_spread_46 : decode cX0_spread 46 = .ok (.iload_n 2, 1) := by decide +kernel
theorem dX0_spread_47 : decode cX0_spread 47 = .ok (.lload_n 3, 1) := by decide +kernel
theorem dX0_spread_48 : decode cX0_spread 48 = .ok (.lload 5, 2) := by decide +kernel
theorem dX0_spread_50 : decode cX0_spread 50 = .ok (.aload_n 0, 1) := by decide +kernel
theorem dX0_spread_51 : decode cX0_spread 51 = .ok (.getfield 28, 3) := by decide +kernel
theorem dX0_spread_54 : decode cX0_spread 54 = .ok (.iload_n 2, 1) := by decide +kernel
theorem dX0_spread_55 : decode cX0_spread 55 = .ok (.laload, 1) := by decide +kernel
theorem dX0_spread_56 : decode cX0_spread 56 = .ok (.ldc2_w 79, 3) := by decide +kernel
theorem dX0_spread_59 : decode cX0_spread 59 = .ok (.lxor, 1) := by decide +kernel
theorem dX0_spread_60 : decode cX0_spread 60 = .ok (.land, 1) := by decide +kernel
theorem dX0_spread_61 : decode cX0_spread 61 = .ok (.lor, 1) := by decide +kernel
theorem dX0_spread_62 : decode cX0_spread 62 = .ok (.lastore, 1) := by decide +kernel
theorem dX0_spread_63 : decode cX0_spread 63 = .ok (.aload_n 0, 1) := by decide +kernel
theorem dX0_spread_64 : decode cX0_spread 64 = .ok (.getfield 25, 3) := by decide +kernel
theorem dX0_spread_67 : decode cX0_spread 67 = .ok (.iload_n 2, 1) := by decide +kernel
theorem dX0_spread_68 : decode cX0_spread 68 = .ok (.laload, 1) := by decide +kernel
theorem dX0_spread_69 : decode cX0_spread 69 = .ok (.lload_n 3, 1) := by decide +kernel
theorem dX0_spread_70 : decode cX0_spread 70 = .ok (.lcmp, 1) := by decide +kernel
theorem dX0_spread_71 : decode cX0_spread 71 = .ok (.ifCond .eq 5, 3) := by decide +kernel
theorem dX0_spread_74 : decode cX0_spread 74 = .ok (.iconst 1, 1) := by decide +kernel
theorem dX0_spread_75 : decode cX0_spread 75 = .ok (.istore_n 1, 1) := by decide +kernel
theorem dX0_spread_76 : decode cX0_spread 76 = .ok (.iinc 2 1, 3) := by decide +kernel
theorem dX0_spread_79 : decode cX0_spread 79 = .ok (.goto (-75), 3) := by decide +kernel
theorem dX0_spread_82 : decode cX0_spread 82 = .ok (.aload_n 0, 1) := by decide +kernel
theorem dX0_spread_83 : decode cX0_spread 83 = .ok (.getfield 25, 3) := by decide +kernel
theorem dX0_spread_86 : decode cX0_spread 86 = .ok (.iconst 0, 1) := by decide +kernel
theorem dX0_spread_87 : decode cX0_spread 87 = .ok (.aload_n 0, 1) := by decide +kernel
theorem dX0_spread_88 : decode cX0_spread 88 = .ok (.getfield 21, 3) := by decide +kernel
theorem dX0_spread_91 : decode cX0_spread 91 = .ok (.iconst 0, 1) := by decide +kernel
theorem dX0_spread_92 : decode cX0_spread 92 = .ok (.bipush 49, 2) := by decide +kernel
theorem dX0_spread_94 : decode cX0_spread 94 = .ok (.invokestatic 81, 3) := by decide +kernel
theorem dX0_spread_97 : decode cX0_spread 97 = .ok (.iload_n 1, 1) := by decide +kernel
theorem dX0_spread_98 : decode cX0_spread 98 = .ok (.ireturn, 1) := by decide +kernel
theorem dX0_rowAt_0 : decode cX0_rowAt 0 = .ok (.iload_n 1, 1) := by decide +kernel
theorem dX0_rowAt_1 : decode cX0_rowAt 1 = .ok (.ifCond .lt 9, 3) := by decide +kernel
theorem dX0_rowAt_4 : decode cX0_rowAt 4 = .ok (.iload_n 1, 1) := by decide +kernel
theorem dX0_rowAt_5 : decode cX0_rowAt 5 = .ok (.bipush 49, 2) := by decide +kernel
theorem dX0_rowAt_7 : decode cX0_rowAt 7 = .ok (.if_icmp .lt 7, 3) := by decide +kernel
theorem dX0_rowAt_10 : decode cX0_rowAt 10 = .ok (.lconst 0, 1) := by decide +kernel
theorem dX0_rowAt_11 : decode cX0_rowAt 11 = .ok (.goto 9, 3) := by decide +kernel
theorem dX0_rowAt_14 : decode cX0_rowAt 14 = .ok (.aload_n 0, 1) := by decide +kernel
theorem dX0_rowAt_15 : decode cX0_rowAt 15 = .ok (.getfield 21, 3) := by decide +kernel
theorem dX0_rowAt_18 : decode cX0_rowAt 18 = .ok (.iload_n 1, 1) := by decide +kernel
theorem dX0_rowAt_19 : decode cX0_rowAt 19 = .ok (.laload, 1) := by decide +kernel
theorem dX0_rowAt_20 : decode cX0_rowAt 20 = .ok (.lreturn, 1) := by decide +kernel
set_option maxRecDepth 20000 in
theorem ggX0_burnt_J13_bitCount_95d88 : GoodIn wsX0_burnt wsJ13_bitCount_95d88 := goodIn_r _ [5, 6, 7, 8] (by decide +kernel) (by decide +kernel)
set_option maxRecDepth 20000 in
theorem gX0_burnt_J13_bitCount_95d88 : GoodIn wsX0_burnt (va_wsS RX0 87 yJ13_bitCount_95d88 wsJ13_bitCount_95d88) := goodIn_app (goodIn_of _ (by decide +kernel)) ggX0_burnt_J13_bitCount_95d88
theorem dX0_burnt_0 : decode cX0_burnt 0 = .ok (.iconst 0, 1) := by decide +kernel
theorem dX0_burnt_1 : decode cX0_burnt 1 = .ok (.istore_n 1, 1) := by decide +kernel
theorem dX0_burnt_2 : decode cX0_burnt 2 = .ok (.iconst 0, 1) := by decide +kernel
theorem dX0_burnt_3 : decode cX0_burnt 3 = .ok (.istore_n 2, 1) := by decide +kernel
theorem dX0_burnt_4 : decode cX0_burnt 4 = .ok (.iload_n 2, 1) := by decide +kernel
theorem dX0_burnt_5 : decode cX0_burnt 5 = .ok (.bipush 49, 2) := by decide +kernel
theorem dX0_burnt_7 : decode cX0_burnt 7 = .ok (.if_icmp .ge 21, 3) := by decide +kernel
theorem dX0_burnt_10 : decode cX0_burnt 10 = .ok (.iload_n 1, 1) := by decide +kernel
theorem dX0_burnt_11 : decode cX0_burnt 11 = .ok (.aload_n 0, 1) := by decide +kernel
theorem dX0_burnt_12 : decode cX0_burnt 12 = .ok (.getfield 21, 3) := by decide +kernel
theorem dX0_burnt_15 : decode cX0_burnt 15 = .ok (.iload_n 2, 1) := by decide +kernel
theorem dX0_burnt_16 : decode cX0_burnt 16 = .ok (.laload, 1) := by decide +kernel
theorem dX0_burnt_17 : decode cX0_burnt 17 = .ok (.invokestatic 87, 3) := by decide +kernel
theorem dX0_burnt_20 : decode cX0_burnt 20 = .ok (.iadd, 1) := by decide +kernel
theorem dX0_burnt_21 : decode cX0_burnt 21 = .ok (.istore_n 1, 1) := by decide +kernel
theorem dX0_burnt_22 : decode cX0_burnt 22 = .ok (.iinc 2 1, 3) := by decide +kernel
theorem dX0_burnt_25 : decode cX0_burnt 25 = .ok (.goto (-21), 3) := by decide +kernel
theorem dX0_burnt_28 : decode cX0_burnt 28 = .ok (.iload_n 1, 1) := by decide +kernel
theorem dX0_burnt_29 : decode cX0_burnt 29 = .ok (.ireturn, 1) := by decide +kernel
theorem dX0_reach_0 : decode cX0_reach 0 = .ok (.iconst 0, 1) := by decide +kernel
theorem dX0_reach_1 : decode cX0_reach 1 = .ok (.istore_n 1, 1) := by decide +kernel
theorem dX0_reach_2 : decode cX0_reach 2 = .ok (.iconst 0, 1) := by decide +kernel
theorem dX0_reach_3 : decode cX0_reach 3 = .ok (.istore_n 2, 1) := by decide +kernel
theorem dX0_reach_4 : decode cX0_reach 4 = .ok (.iload_n 2, 1) := by decide +kernel
theorem dX0_reach_5 : decode cX0_reach 5 = .ok (.bipush 49, 2) := by decide +kernel
theorem dX0_reach_7 : decode cX0_reach 7 = .ok (.if_icmp .ge 61, 3) := by decide +kernel
theorem dX0_reach_10 : decode cX0_reach 10 = .ok (.iconst 0, 1) := by decide +kernel
theorem dX0_reach_11 : decode cX0_reach 11 = .ok (.istore_n 3, 1) := by decide +kernel
theorem dX0_reach_12 : decode cX0_reach 12 = .ok (.iload_n 3, 1) := by decide +kernel
theorem dX0_reach_13 : decode cX0_reach 13 = .ok (.bipush 49, 2) := by decide +kernel
theorem dX0_reach_15 : decode cX0_reach 15 = .ok (.if_icmp .ge 47, 3) := by decide +kernel
theorem dX0_reach_18 : decode cX0_reach 18 = .ok (.aload_n 0, 1) := by decide +kernel
theorem dX0_reach_19 : decode cX0_reach 19 = .ok (.getfield 21, 3) := by decide +kernel
theorem dX0_reach_22 : decode cX0_reach 22 = .ok (.iload_n 2, 1) := by decide +kernel
theorem dX0_reach_23 : decode cX0_reach 23 = .ok (.laload, 1) := by decide +kernel
theorem dX0_reach_24 : decode cX0_reach 24 = .ok (.iload_n 3, 1) := by decide +kernel
theorem dX0_reach_25 : decode cX0_reach 25 = .ok (.lshr, 1) := by decide +kernel
theorem dX0_reach_26 : decode cX0_reach 26 = .ok (.lconst 1, 1) := by decide +kernel
theorem dX0_reach_27 : decode cX0_reach 27 = .ok (.land, 1) := by decide +kernel
theorem dX0_reach_28 : decode cX0_reach 28 = .ok (.lconst 0, 1) := by decide +kernel
theorem dX0_reach_29 : decode cX0_reach 29 = .ok (.lcmp, 1) := by decide +kernel
theorem dX0_reach_30 : decode cX0_reach 30 = .ok (.ifCond .ne 6, 3) := by decide +kernel
theorem dX0_reach_33 : decode cX0_reach 33 = .ok (.goto 23, 3) := by decide +kernel
theorem dX0_reach_36 : decode cX0_reach 36 = .ok (.iload_n 1, 1) := by decide +kernel
theorem dX0_reach_37 : decode cX0_reach 37 = .ok (.iload_n 2, 1) := by decide +kernel
theorem dX0_reach_38 : decode cX0_reach 38 = .ok (.bipush 24, 2) := by decide +kernel
theorem dX0_reach_40 : decode cX0_reach 40 = .ok (.isub, 1) := by decide +kernel
theorem dX0_reach_41 : decode cX0_reach 41 = .ok (.invokestatic 93, 3) := by decide +kernel
theorem dX0_reach_44 : decode cX0_reach 44 = .ok (.iload_n 3, 1) := by decide +kernel
theorem dX0_reach_45 : decode cX0_reach 45 = .ok (.bipush 24, 2) := by decide +kernel
theorem dX0_reach_47 : decode cX0_reach 47 = .ok (.isub, 1) := by decide +kernel
theorem dX0_reach_48 : decode cX0_reach 48 = .ok (.invokestatic 93, 3) := by decide +kernel
theorem dX0_reach_51 : decode cX0_reach 51 = .ok (.iadd, 1) := by decide +kernel
theorem dX0_reach_52 : decode cX0_reach 52 = .ok (.invokestatic 35, 3) := by decide +kernel
theorem dX0_reach_55 : decode cX0_reach 55 = .ok (.istore_n 1, 1) := by decide +kernel
theorem dX0_reach_56 : decode cX0_reach 56 = .ok (.iinc 3 1, 3) := by decide +kernel
theorem dX0_reach_59 : decode cX0_reach 59 = .ok (.goto (-47), 3) := by decide +kernel
theorem dX0_reach_62 : decode cX0_reach 62 = .ok (.iinc 2 1, 3) := by decide +kernel
theorem dX0_reach_65 : decode cX0_reach 65 = .ok (.goto (-61), 3) := by decide +kernel
theorem dX0_reach_68 : decode cX0_reach 68 = .ok (.iload_n 1, 1) := by decide +kernel
theorem dX0_reach_69 : decode cX0_reach 69 = .ok (.ireturn, 1) := by decide +kernel
theorem dX1_init_0 : decode cX1_init 0 = .ok (.aload_n 0, 1) := by decide +kernel
theorem dX1_init_1 : decode cX1_init 1 = .ok (.invokespecial 3, 3) := by decide +kernel
theorem dX1_init_4 : decode cX1_init 4 = .ok (.aload_n 0, 1) := by decide +kernel
theorem dX1_init_5 : decode cX1_init 5 = .ok (.bipush 12, 2) := by decide +kernel
theorem dX1_init_7 : decode cX1_init 7 = .ok (.newarray .int, 2) := by decide +kernel
theorem dX1_init_9 : decode cX1_init 9 = .ok (.putfield 9, 3) := by decide +kernel
theorem dX1_init_12 : decode cX1_init 12 = .ok (.return_, 1) := by decide +kernel
set_option maxRecDepth 20000 in
theorem ggX1_lay_X3_endsOf : GoodIn wsX1_lay wsX3_endsOf := goodIn_r _ [15, 16, 17, 18, 19, 20, 21, 22] (by decide +kernel) (by decide +kernel)
set_option maxRecDepth 20000 in
theorem gX1_lay_X3_endsOf : GoodIn wsX1_lay (wsV RX1 28 RX3 yX3_endsOf wsX3_endsOf) := goodIn_app (goodIn_of _ (by decide +kernel)) ggX1_lay_X3_endsOf
theorem dX1_lay_0 : decode cX1_lay 0 = .ok (.aload_n 0, 1) := by decide +kernel
theorem dX1_lay_1 : decode cX1_lay 1 = .ok (.aload_n 1, 1) := by decide +kernel
theorem dX1_lay_2 : decode cX1_lay 2 = .ok (.getfield 15, 3) := by decide +kernel
theorem dX1_lay_5 : decode cX1_lay 5 = .ok (.bipush 12, 2) := by decide +kernel
theorem dX1_lay_7 : decode cX1_lay 7 = .ok (.invokestatic 21, 3) := by decide +kernel
theorem dX1_lay_10 : decode cX1_lay 10 = .ok (.putfield 27, 3) := by decide +kernel
theorem dX1_lay_13 : decode cX1_lay 13 = .ok (.iconst 0, 1) := by decide +kernel
theorem dX1_lay_14 : decode cX1_lay 14 = .ok (.istore 5, 2) := by decide +kernel
theorem dX1_lay_16 : decode cX1_lay 16 = .ok (.iload 5, 2) := by decide +kernel
theorem dX1_lay_18 : decode cX1_lay 18 = .ok (.bipush 12, 2) := by decide +kernel
theorem dX1_lay_20 : decode cX1_lay 20 = .ok (.if_icmp .ge 22, 3) := by decide +kernel
theorem dX1_lay_23 : decode cX1_lay 23 = .ok (.aload_n 0, 1) := by decide +kernel
theorem dX1_lay_24 : decode cX1_lay 24 = .ok (.getfield 9, 3) := by decide +kernel
theorem dX1_lay_27 : decode cX1_lay 27 = .ok (.iload 5, 2) := by decide +kernel
theorem dX1_lay_29 : decode cX1_lay 29 = .ok (.aload_n 1, 1) := by decide +kernel
theorem dX1_lay_30 : decode cX1_lay 30 = .ok (.iload 5, 2) := by decide +kernel
theorem dX1_lay_32 : decode cX1_lay 32 = .ok (.invokevirtual 28, 3) := by decide +kernel
theorem dX1_lay_35 : decode cX1_lay 35 = .ok (.iastore, 1) := by decide +kernel
theorem dX1_lay_36 : decode cX1_lay 36 = .ok (.iinc 5 1, 3) := by decide +kernel
theorem dX1_lay_39 : decode cX1_lay 39 = .ok (.goto (-23), 3) := by decide +kernel
theorem dX1_lay_42 : decode cX1_lay 42 = .ok (.aload_n 0, 1) := by decide +kernel
theorem dX1_lay_43 : decode cX1_lay 43 = .ok (.iload_n 2, 1) := by decide +kernel
theorem dX1_lay_44 : decode cX1_lay 44 = .ok (.putfield 32, 3) := by decide +kernel
theorem dX1_lay_47 : decode cX1_lay 47 = .ok (.aload_n 0, 1) := by decide +kernel
theorem dX1_lay_48 : decode cX1_lay 48 = .ok (.iload_n 3, 1) := by decide +kernel
theorem dX1_lay_49 : decode cX1_lay 49 = .ok (.putfield 35, 3) := by decide +kernel
theorem dX1_lay_52 : decode cX1_lay 52 = .ok (.aload_n 0, 1) := by decide +kernel
theorem dX1_lay_53 : decode cX1_lay 53 = .ok (.iload 4, 2) := by decide +kernel
theorem dX1_lay_55 : decode cX1_lay 55 = .ok (.iload_n 3, 1) := by decide +kernel
theorem dX1_lay_56 : decode cX1_lay 56 = .ok (.isub, 1) := by decide +kernel
theorem dX1_lay_57 : decode cX1_lay 57 = .ok (.putfield 38, 3) := by decide +kernel
theorem dX1_lay_60 : decode cX1_lay 60 = .ok (.return_, 1) := by decide +kernel
set_option maxRecDepth 20000 in
theorem ggX1_allWays_X1_power : GoodIn wsX1_allWays wsX1_power := goodIn_r _ [7] (by decide +kernel) (by decide +kernel)
set_option maxRecDepth 20000 in
theorem gX1_allWays_X1_power : GoodIn wsX1_allWays (va_wsS RX1 41 yX1_power wsX1_power) := goodIn_app (goodIn_of _ (by decide +kernel)) ggX1_allWays_X1_power
theorem dX1_allWays_0 : decode cX1_allWays 0 = .ok (.aload_n 0, 1) := by decide +kernel
theorem dX1_allWays_1 : decode cX1_allWays 1 = .ok (.getfield 35, 3) := by decide +kernel
theorem dX1_allWays_4 : decode cX1_allWays 4 = .ok (.aload_n 0, 1) := by decide +kernel
theorem dX1_allWays_5 : decode cX1_allWays 5 = .ok (.getfield 38, 3) := by decide +kernel
theorem dX1_allWays_8 : decode cX1_allWays 8 = .ok (.iadd, 1) := by decide +kernel
theorem dX1_allWays_9 : decode cX1_allWays 9 = .ok (.i2l, 1) := by decide +kernel
theorem dX1_allWays_10 : decode cX1_allWays 10 = .ok (.aload_n 0, 1) := by decide +kernel
theorem dX1_allWays_11 : decode cX1_allWays 11 = .ok (.getfield 27, 3) := by decide +kernel
theorem dX1_allWays_14 : decode cX1_allWays 14 = .ok (.invokestatic 41, 3) := by decide +kernel
theorem dX1_allWays_17 : decode cX1_allWays 17 = .ok (.lreturn, 1) := by decide +kernel
set_option maxRecDepth 20000 in
theorem ggX1_waysTo_X1_waysFrom : GoodIn wsX1_waysTo wsX1_waysFrom := goodIn_r _ [6, 7, 8, 9, 10, 5, 11, 12, 13, 14, 15, 1, 16, 17, 18, 19, 20, 21, 22, 23, 24, 2, 3, 4, 25, 26, 27, 28, 29] (by decide +kernel) (by decide +kernel)
set_option maxRecDepth 20000 in
theorem gX1_waysTo_X1_waysFrom : GoodIn wsX1_waysTo (wsV RX1 45 RX1 yX1_waysFrom wsX1_waysFrom) := goodIn_app (goodIn_of _ (by decide +kernel)) ggX1_waysTo_X1_waysFrom
theorem dX1_waysTo_0 : decode cX1_waysTo 0 = .ok (.aload_n 0, 1) := by decide +kernel
theorem dX1_waysTo_1 : decode cX1_waysTo 1 = .ok (.iconst 1, 1) := by decide +kernel
theorem dX1_waysTo_2 : decode cX1_waysTo 2 = .ok (.iload_n 1, 1) := by decide +kernel
theorem dX1_waysTo_3 : decode cX1_waysTo 3 = .ok (.ishl, 1) := by decide +kernel
theorem dX1_waysTo_4 : decode cX1_waysTo 4 = .ok (.iload_n 2, 1) := by decide +kernel
theorem dX1_waysTo_5 : decode cX1_waysTo 5 = .ok (.iconst 0, 1) := by decide +kernel
theorem dX1_waysTo_6 : decode cX1_waysTo 6 = .ok (.aload_n 0, 1) := by decide +kernel
theorem dX1_waysTo_7 : decode cX1_waysTo 7 = .ok (.getfield 27, 3) := by decide +kernel
theorem dX1_waysTo_10 : decode cX1_waysTo 10 = .ok (.invokevirtual 45, 3) := by decide +kernel
theorem dX1_waysTo_13 : decode cX1_waysTo 13 = .ok (.lreturn, 1) := by decide +kernel
set_option maxRecDepth 20000 in
theorem ggX1_waysFrom_X1_power : GoodIn wsX1_waysFrom wsX1_power := goodIn_r _ [6] (by decide +kernel) (by decide +kernel)
set_option maxRecDepth 20000 in
theorem gX1_waysFrom_X1_power : GoodIn wsX1_waysFrom (va_wsS RX1 41 yX1_power wsX1_power) := goodIn_app (goodIn_of _ (by decide +kernel)) ggX1_waysFrom_X1_power
set_option maxRecDepth 20000 in
theorem ggX1_waysFrom_X1_lineOnward : GoodIn wsX1_waysFrom wsX1_lineOnward := goodIn_r _ [10, 11, 12, 13, 14, 15, 16, 24, 25, 26, 27, 28] (by decide +kernel) (by decide +kernel)
set_option maxRecDepth 20000 in
theorem gX1_waysFrom_X1_lineOnward : GoodIn wsX1_waysFrom (wsV RX1 49 RX1 yX1_lineOnward wsX1_lineOnward) := goodIn_app (goodIn_of _ (by decide +kernel)) ggX1_waysFrom_X1_lineOnward
set_option maxRecDepth 20000 in
theorem ggX1_waysFrom_X1_waysOver : GoodIn wsX1_waysFrom wsX1_waysOver := goodIn_r _ [20, 12, 1, 2, 21, 22, 23, 5, 0, 3, 4, 6, 7, 8, 9, 10, 11, 13, 14, 15, 16, 17, 18, 19, 24, 25, 26, 27, 28] (by decide +kernel) (by decide +kernel)
set_option maxRecDepth 20000 in
theorem gX1_waysFrom_X1_waysOver : GoodIn wsX1_waysFrom (wsV RX1 52 RX1 yX1_waysOver wsX1_waysOver) := goodIn_app (goodIn_of _ (by decide +kernel)) ggX1_waysFrom_X1_waysOver
theorem dX1_waysFrom_0 : decode cX1_waysFrom 0 = .ok (.iload_n 2, 1) := by decide +kernel
theorem dX1_waysFrom_1 : decode cX1_waysFrom 1 = .ok (.iload_n 1, 1) := by decide +kernel
theorem dX1_waysFrom_2 : decode cX1_waysFrom 2 = .ok (.iand, 1) := by decide +kernel
theorem dX1_waysFrom_3 : decode cX1_waysFrom 3 = .ok (.ifCond .eq 19, 3) := by decide +kernel
theorem dX1_waysFrom_6 : decode cX1_waysFrom 6 = .ok (.aload_n 0, 1) := by decide +kernel
theorem dX1_waysFrom_7 : decode cX1_waysFrom 7 = .ok (.getfield 35, 3) := by decide +kernel
theorem dX1_waysFrom_10 : decode cX1_waysFrom 10 = .ok (.aload_n 0, 1) := by decide +kernel
theorem dX1_waysFrom_11 : decode cX1_waysFrom 11 = .ok (.getfield 38, 3) := by decide +kernel
theorem dX1_waysFrom_14 : decode cX1_waysFrom 14 = .ok (.iadd, 1) := by decide +kernel
theorem dX1_waysFrom_15 : decode cX1_waysFrom 15 = .ok (.i2l, 1) := by decide +kernel
theorem dX1_waysFrom_16 : decode cX1_waysFrom 16 = .ok (.iload 4, 2) := by decide +kernel
theorem dX1_waysFrom_18 : decode cX1_waysFrom 18 = .ok (.invokestatic 41, 3) := by decide +kernel
theorem dX1_waysFrom_21 : decode cX1_waysFrom 21 = .ok (.lreturn, 1) := by decide +kernel
theorem dX1_waysFrom_22 : decode cX1_waysFrom 22 = .ok (.iload 4, 2) := by decide +kernel
theorem dX1_waysFrom_24 : decode cX1_waysFrom 24 = .ok (.ifCond .gt 7, 3) := by decide +kernel
theorem dX1_waysFrom_27 : decode cX1_waysFrom 27 = .ok (.iconst (-1), 1) := by decide +kernel
theorem dX1_waysFrom_28 : decode cX1_waysFrom 28 = .ok (.goto 9, 3) := by decide +kernel
theorem dX1_waysFrom_31 : decode cX1_waysFrom 31 = .ok (.aload_n 0, 1) := by decide +kernel
theorem dX1_waysFrom_32 : decode cX1_waysFrom 32 = .ok (.iload_n 2, 1) := by decide +kernel
theorem dX1_waysFrom_33 : decode cX1_waysFrom 33 = .ok (.iload_n 3, 1) := by decide +kernel
theorem dX1_waysFrom_34 : decode cX1_waysFrom 34 = .ok (.invokevirtual 49, 3) := by decide +kernel
theorem dX1_waysFrom_37 : decode cX1_waysFrom 37 = .ok (.istore 5, 2) := by decide +kernel
theorem dX1_waysFrom_39 : decode cX1_waysFrom 39 = .ok (.iload 5, 2) := by decide +kernel
theorem dX1_waysFrom_41 : decode cX1_waysFrom 41 = .ok (.iconst (-1), 1) := by decide +kernel
theorem dX1_waysFrom_42 : decode cX1_waysFrom 42 = .ok (.if_icmp .ne 7, 3) := by decide +kernel
theorem dX1_waysFrom_45 : decode cX1_waysFrom 45 = .ok (.lconst 0, 1) := by decide +kernel
theorem dX1_waysFrom_46 : decode cX1_waysFrom 46 = .ok (.goto 14, 3) := by decide +kernel
theorem dX1_waysFrom_49 : decode cX1_waysFrom 49 = .ok (.aload_n 0, 1) := by decide +kernel
theorem dX1_waysFrom_50 : decode cX1_waysFrom 50 = .ok (.iload 5, 2) := by decide +kernel
theorem dX1_waysFrom_52 : decode cX1_waysFrom 52 = .ok (.iload_n 1, 1) := by decide +kernel
theorem dX1_waysFrom_53 : decode cX1_waysFrom 53 = .ok (.iload_n 2, 1) := by decide +kernel
theorem dX1_waysFrom_54 : decode cX1_waysFrom 54 = .ok (.iload_n 3, 1) := by decide +kernel
theorem dX1_waysFrom_55 : decode cX1_waysFrom 55 = .ok (.iload 4, 2) := by decide +kernel
theorem dX1_waysFrom_57 : decode cX1_waysFrom 57 = .ok (.invokevirtual 52, 3) := by decide +kernel
theorem dX1_waysFrom_60 : decode cX1_waysFrom 60 = .ok (.lreturn, 1) := by decide +kernel
set_option maxRecDepth 20000 in
theorem ggX1_waysOver_X1_waysFrom : GoodIn wsX1_waysOver wsX1_waysFrom := goodIn_r _ [8, 2, 3, 9, 10, 7, 11, 12, 13, 14, 15, 16, 1, 17, 18, 19, 20, 21, 22, 23, 0, 4, 5, 6, 24, 25, 26, 27, 28] (by decide +kernel) (by decide +kernel)
set_option maxRecDepth 20000 in
theorem gX1_waysOver_X1_waysFrom : GoodIn wsX1_waysOver (wsV RX1 45 RX1 yX1_waysFrom wsX1_waysFrom) := goodIn_app (goodIn_of _ (by decide +kernel)) ggX1_waysOver_X1_waysFrom
theorem dX1_waysOver_0 : decode cX1_waysOver 0 = .ok (.iload_n 1, 1) := by decide +kernel
theorem dX1_waysOver_1 : decode cX1_waysOver 1 = .ok (.ifCond .lt 9, 3) := by decide +kernel
theorem dX1_waysOver_4 : decode cX1_waysOver 4 = .ok (.iload_n 1, 1) := by decide +kernel
theorem dX1_waysOver_5 : decode cX1_waysOver 5 = .ok (.bipush 12, 2) := by decide +kernel
theorem dX1_waysOver_7 : decode cX1_waysOver 7 = .ok (.if_icmp .lt 5, 3) := by decide +kernel
theorem dX1_waysOver_10 : decode cX1_waysOver 10 = .ok (.lconst 0, 1) := by decide +kernel
theorem dX1_waysOver_11 : decode cX1_waysOver 11 = .ok (.lreturn, 1) := by decide +kernel
theorem dX1_waysOver_12 : decode cX1_waysOver 12 = .ok (.iload 4, 2) := by decide +kernel
theorem dX1_waysOver_14 : decode cX1_waysOver 14 = .ok (.iconst 1, 1) := by decide +kernel
theorem dX1_waysOver_15 : decode cX1_waysOver 15 = .ok (.iload_n 1, 1) := by decide +kernel
theorem dX1_waysOver_16 : decode cX1_waysOver 16 = .ok (.ishl, 1) := by decide +kernel
theorem dX1_waysOver_17 : decode cX1_waysOver 17 = .ok (.ior, 1) := by decide +kernel
theorem dX1_waysOver_18 : decode cX1_waysOver 18 = .ok (.istore 6, 2) := by decide +kernel
theorem dX1_waysOver_20 : decode cX1_waysOver 20 = .ok (.aload_n 0, 1) := by decide +kernel
theorem dX1_waysOver_21 : decode cX1_waysOver 21 = .ok (.iload_n 2, 1) := by decide +kernel
theorem dX1_waysOver_22 : decode cX1_waysOver 22 = .ok (.iload_n 3, 1) := by decide +kernel
theorem dX1_waysOver_23 : decode cX1_waysOver 23 = .ok (.aload_n 0, 1) := by decide +kernel
theorem dX1_waysOver_24 : decode cX1_waysOver 24 = .ok (.getfield 9, 3) := by decide +kernel
theorem dX1_waysOver_27 : decode cX1_waysOver 27 = .ok (.iload_n 1, 1) := by decide +kernel
theorem dX1_waysOver_28 : decode cX1_waysOver 28 = .ok (.iaload, 1) := by decide +kernel
theorem dX1_waysOver_29 : decode cX1_waysOver 29 = .ok (.ior, 1) := by decide +kernel
theorem dX1_waysOver_30 : decode cX1_waysOver 30 = .ok (.iload 6, 2) := by decide +kernel
theorem dX1_waysOver_32 : decode cX1_waysOver 32 = .ok (.iload 5, 2) := by decide +kernel
theorem dX1_waysOver_34 : decode cX1_waysOver 34 = .ok (.iconst 1, 1) := by decide +kernel
theorem dX1_waysOver_35 : decode cX1_waysOver 35 = .ok (.isub, 1) := by decide +kernel
theorem dX1_waysOver_36 : decode cX1_waysOver 36 = .ok (.invokevirtual 45, 3) := by decide +kernel
theorem dX1_waysOver_39 : decode cX1_waysOver 39 = .ok (.lstore 7, 2) := by decide +kernel
theorem dX1_waysOver_41 : decode cX1_waysOver 41 = .ok (.aload_n 0, 1) := by decide +kernel
theorem dX1_waysOver_42 : decode cX1_waysOver 42 = .ok (.getfield 35, 3) := by decide +kernel
theorem dX1_waysOver_45 : decode cX1_waysOver 45 = .ok (.i2l, 1) := by decide +kernel
theorem dX1_waysOver_46 : decode cX1_waysOver 46 = .ok (.lload 7, 2) := by decide +kernel
theorem dX1_waysOver_48 : decode cX1_waysOver 48 = .ok (.lmul, 1) := by decide +kernel
theorem dX1_waysOver_49 : decode cX1_waysOver 49 = .ok (.aload_n 0, 1) := by decide +kernel
theorem dX1_waysOver_50 : decode cX1_waysOver 50 = .ok (.getfield 38, 3) := by decide +kernel
theorem dX1_waysOver_53 : decode cX1_waysOver 53 = .ok (.i2l, 1) := by decide +kernel
theorem dX1_waysOver_54 : decode cX1_waysOver 54 = .ok (.aload_n 0, 1) := by decide +kernel
theorem dX1_waysOver_55 : decode cX1_waysOver 55 = .ok (.iload_n 2, 1) := by decide +kernel
theorem dX1_waysOver_56 : decode cX1_waysOver 56 = .ok (.iload_n 3, 1) := by decide +kernel
theorem dX1_waysOver_57 : decode cX1_waysOver 57 = .ok (.iload 6, 2) := by decide +kernel
theorem dX1_waysOver_59 : decode cX1_waysOver 59 = .ok (.iload 5, 2) := by decide +kernel
theorem dX1_waysOver_61 : decode cX1_waysOver 61 = .ok (.iconst 1, 1) := by decide +kernel
theorem dX1_waysOver_62 : decode cX1_waysOver 62 = .ok (.isub, 1) := by decide +kernel
theorem dX1_waysOver_63 : decode cX1_waysOver 63 = .ok (.invokevirtual 45, 3) := by decide +kernel
theorem dX1_waysOver_66 : decode cX1_waysOver 66 = .ok (.lmul, 1) := by decide +kernel
theorem dX1_waysOver_67 : decode cX1_waysOver 67 = .ok (.ladd, 1) := by decide +kernel
theorem dX1_waysOver_68 : decode cX1_waysOver 68 = .ok (.lreturn, 1) := by decide +kernel
set_option maxRecDepth 20000 in
theorem ggX1_lineOnward_X6_holds : GoodIn wsX1_lineOnward wsX6_holds := goodIn_r _ [6] (by decide +kernel) (by decide +kernel)
set_option maxRecDepth 20000 in
theorem gX1_lineOnward_X6_holds_n56 : GoodIn wsX1_lineOnward (wsX6_holds) := ggX1_lineOnward_X6_holds
theorem dX1_lineOnward_0 : decode cX1_lineOnward 0 = .ok (.iconst 0, 1) := by decide +kernel
theorem dX1_lineOnward_1 : decode cX1_lineOnward 1 = .ok (.istore_n 3, 1) := by decide +kernel
theorem dX1_lineOnward_2 : decode cX1_lineOnward 2 = .ok (.iload_n 3, 1) := by decide +kernel
theorem dX1_lineOnward_3 : decode cX1_lineOnward 3 = .ok (.aload_n 0, 1) := by decide +kernel
theorem dX1_lineOnward_4 : decode cX1_lineOnward 4 = .ok (.getfield 27, 3) := by decide +kernel
theorem dX1_lineOnward_7 : decode cX1_lineOnward 7 = .ok (.if_icmp .ge 75, 3) := by decide +kernel
theorem dX1_lineOnward_10 : decode cX1_lineOnward 10 = .ok (.iload_n 3, 1) := by decide +kernel
theorem dX1_lineOnward_11 : decode cX1_lineOnward 11 = .ok (.bipush 12, 2) := by decide +kernel
theorem dX1_lineOnward_13 : decode cX1_lineOnward 13 = .ok (.if_icmp .ge 69, 3) := by decide +kernel
theorem dX1_lineOnward_16 : decode cX1_lineOnward 16 = .ok (.aload_n 0, 1) := by decide +kernel
theorem dX1_lineOnward_17 : decode cX1_lineOnward 17 = .ok (.getfield 9, 3) := by decide +kernel
theorem dX1_lineOnward_20 : decode cX1_lineOnward 20 = .ok (.iload_n 3, 1) := by decide +kernel
theorem dX1_lineOnward_21 : decode cX1_lineOnward 21 = .ok (.iaload, 1) := by decide +kernel
theorem dX1_lineOnward_22 : decode cX1_lineOnward 22 = .ok (.iload_n 1, 1) := by decide +kernel
theorem dX1_lineOnward_23 : decode cX1_lineOnward 23 = .ok (.iconst (-1), 1) := by decide +kernel
theorem dX1_lineOnward_24 : decode cX1_lineOnward 24 = .ok (.ixor, 1) := by decide +kernel
theorem dX1_lineOnward_25 : decode cX1_lineOnward 25 = .ok (.iand, 1) := by decide +kernel
theorem dX1_lineOnward_26 : decode cX1_lineOnward 26 = .ok (.istore 4, 2) := by decide +kernel
theorem dX1_lineOnward_28 : decode cX1_lineOnward 28 = .ok (.iload 4, 2) := by decide +kernel
theorem dX1_lineOnward_30 : decode cX1_lineOnward 30 = .ok (.ifCond .eq 18, 3) := by decide +kernel
theorem dX1_lineOnward_33 : decode cX1_lineOnward 33 = .ok (.iload 4, 2) := by decide +kernel
theorem dX1_lineOnward_35 : decode cX1_lineOnward 35 = .ok (.aload_n 0, 1) := by decide +kernel
theorem dX1_lineOnward_36 : decode cX1_lineOnward 36 = .ok (.getfield 9, 3) := by decide +kernel
theorem dX1_lineOnward_39 : decode cX1_lineOnward 39 = .ok (.iload_n 3, 1) := by decide +kernel
theorem dX1_lineOnward_40 : decode cX1_lineOnward 40 = .ok (.iaload, 1) := by decide +kernel
theorem dX1_lineOnward_41 : decode cX1_lineOnward 41 = .ok (.if_icmp .eq 7, 3) := by decide +kernel
theorem dX1_lineOnward_44 : decode cX1_lineOnward 44 = .ok (.iconst 1, 1) := by decide +kernel
theorem dX1_lineOnward_45 : decode cX1_lineOnward 45 = .ok (.goto 4, 3) := by decide +kernel
theorem dX1_lineOnward_48 : decode cX1_lineOnward 48 = .ok (.iconst 0, 1) := by decide +kernel
theorem dX1_lineOnward_49 : decode cX1_lineOnward 49 = .ok (.istore 5, 2) := by decide +kernel
theorem dX1_lineOnward_51 : decode cX1_lineOnward 51 = .ok (.iload 5, 2) := by decide +kernel
theorem dX1_lineOnward_53 : decode cX1_lineOnward 53 = .ok (.ifCond .eq 23, 3) := by decide +kernel
theorem dX1_lineOnward_56 : decode cX1_lineOnward 56 = .ok (.iload 4, 2) := by decide +kernel
theorem dX1_lineOnward_58 : decode cX1_lineOnward 58 = .ok (.aload_n 0, 1) := by decide +kernel
theorem dX1_lineOnward_59 : decode cX1_lineOnward 59 = .ok (.getfield 32, 3) := by decide +kernel
theorem dX1_lineOnward_62 : decode cX1_lineOnward 62 = .ok (.iand, 1) := by decide +kernel
theorem dX1_lineOnward_63 : decode cX1_lineOnward 63 = .ok (.ifCond .ne 13, 3) := by decide +kernel
theorem dX1_lineOnward_66 : decode cX1_lineOnward 66 = .ok (.iload_n 2, 1) := by decide +kernel
theorem dX1_lineOnward_67 : decode cX1_lineOnward 67 = .ok (.iload_n 3, 1) := by decide +kernel
theorem dX1_lineOnward_68 : decode cX1_lineOnward 68 = .ok (.invokestatic 56, 3) := by decide +kernel
theorem dX1_lineOnward_71 : decode cX1_lineOnward 71 = .ok (.ifCond .ne 5, 3) := by decide +kernel
theorem dX1_lineOnward_74 : decode cX1_lineOnward 74 = .ok (.iload_n 3, 1) := by decide +kernel
theorem dX1_lineOnward_75 : decode cX1_lineOnward 75 = .ok (.ireturn, 1) := by decide +kernel
theorem dX1_lineOnward_76 : decode cX1_lineOnward 76 = .ok (.iinc 3 1, 3) := by decide +kernel
theorem dX1_lineOnward_79 : decode cX1_lineOnward 79 = .ok (.goto (-77), 3) := by decide +kernel
theorem dX1_lineOnward_82 : decode cX1_lineOnward 82 = .ok (.iconst (-1), 1) := by decide +kernel
theorem dX1_lineOnward_83 : decode cX1_lineOnward 83 = .ok (.ireturn, 1) := by decide +kernel
theorem dX1_power_0 : decode cX1_power 0 = .ok (.lconst 1, 1) := by decide +kernel
theorem dX1_power_1 : decode cX1_power 1 = .ok (.lstore_n 3, 1) := by decide +kernel
theorem dX1_power_2 : decode cX1_power 2 = .ok (.iconst 0, 1) := by decide +kernel
theorem dX1_power_3 : decode cX1_power 3 = .ok (.istore 5, 2) := by decide +kernel
theorem dX1_power_5 : decode cX1_power 5 = .ok (.iload 5, 2) := by decide +kernel
theorem dX1_power_7 : decode cX1_power 7 = .ok (.iload_n 2, 1) := by decide +kernel
theorem dX1_power_8 : decode cX1_power 8 = .ok (.if_icmp .ge 13, 3) := by decide +kernel
theorem dX1_power_11 : decode cX1_power 11 = .ok (.lload_n 3, 1) := by decide +kernel
theorem dX1_power_12 : decode cX1_power 12 = .ok (.lload_n 0, 1) := by decide +kernel
theorem dX1_power_13 : decode cX1_power 13 = .ok (.lmul, 1) := by decide +kernel
theorem dX1_power_14 : decode cX1_power 14 = .ok (.lstore_n 3, 1) := by decide +kernel
theorem dX1_power_15 : decode cX1_power 15 = .ok (.iinc 5 1, 3) := by decide +kernel
theorem dX1_power_18 : decode cX1_power 18 = .ok (.goto (-13), 3) := by decide +kernel
theorem dX1_power_21 : decode cX1_power 21 = .ok (.lload_n 3, 1) := by decide +kernel
theorem dX1_power_22 : decode cX1_power 22 = .ok (.lreturn, 1) := by decide +kernel
theorem dX2_init_0 : decode cX2_init 0 = .ok (.aload_n 0, 1) := by decide +kernel
theorem dX2_init_1 : decode cX2_init 1 = .ok (.invokespecial 3, 3) := by decide +kernel
theorem dX2_init_4 : decode cX2_init 4 = .ok (.return_, 1) := by decide +kernel
theorem dX2_begin_0 : decode cX2_begin 0 = .ok (.aload_n 0, 1) := by decide +kernel
theorem dX2_begin_1 : decode cX2_begin 1 = .ok (.iload_n 1, 1) := by decide +kernel
theorem dX2_begin_2 : decode cX2_begin 2 = .ok (.putfield 9, 3) := by decide +kernel
theorem dX2_begin_5 : decode cX2_begin 5 = .ok (.aload_n 0, 1) := by decide +kernel
theorem dX2_begin_6 : decode cX2_begin 6 = .ok (.iconst 0, 1) := by decide +kernel
theorem dX2_begin_7 : decode cX2_begin 7 = .ok (.putfield 15, 3) := by decide +kernel
theorem dX2_begin_10 : decode cX2_begin 10 = .ok (.aload_n 0, 1) := by decide +kernel
theorem dX2_begin_11 : decode cX2_begin 11 = .ok (.iconst 0, 1) := by decide +kernel
theorem dX2_begin_12 : decode cX2_begin 12 = .ok (.putfield 18, 3) := by decide +kernel
theorem dX2_begin_15 : decode cX2_begin 15 = .ok (.aload_n 0, 1) := by decide +kernel
theorem dX2_begin_16 : decode cX2_begin 16 = .ok (.iconst 0, 1) := by decide +kernel
theorem dX2_begin_17 : decode cX2_begin 17 = .ok (.putfield 21, 3) := by decide +kernel
theorem dX2_begin_20 : decode cX2_begin 20 = .ok (.aload_n 0, 1) := by decide +kernel
theorem dX2_begin_21 : decode cX2_begin 21 = .ok (.iconst 0, 1) := by decide +kernel
theorem dX2_begin_22 : decode cX2_begin 22 = .ok (.putfield 24, 3) := by decide +kernel
theorem dX2_begin_25 : decode cX2_begin 25 = .ok (.aload_n 0, 1) := by decide +kernel
theorem dX2_begin_26 : decode cX2_begin 26 = .ok (.iconst 0, 1) := by decide +kernel
theorem dX2_begin_27 : decode cX2_begin 27 = .ok (.putfield 28, 3) := by decide +kernel
theorem dX2_begin_30 : decode cX2_begin 30 = .ok (.aload_n 0, 1) := by decide +kernel
theorem dX2_begin_31 : decode cX2_begin 31 = .ok (.iconst 0, 1) := by decide +kernel
theorem dX2_begin_32 : decode cX2_begin 32 = .ok (.putfield 31, 3) := by decide +kernel
theorem dX2_begin_35 : decode cX2_begin 35 = .ok (.return_, 1) := by decide +kernel
theorem dX2_ended_0 : decode cX2_ended 0 = .ok (.aload_n 0, 1) := by decide +kernel
theorem dX2_ended_1 : decode cX2_ended 1 = .ok (.getfield 28, 3) := by decide +kernel
theorem dX2_ended_4 : decode cX2_ended 4 = .ok (.ifCond .ne 10, 3) := by decide +kernel
theorem dX2_ended_7 : decode cX2_ended 7 = .ok (.aload_n 0, 1) := by decide +kernel
theorem dX2_ended_8 : decode cX2_ended 8 = .ok (.getfield 24, 3) := by decide +kernel
theorem dX2_ended_11 : decode cX2_ended 11 = .ok (.ifCond .eq 7, 3) := by decide +kernel
theorem dX2_ended_14 : decode cX2_ended 14 = .ok (.iconst 1, 1) := by decide +kernel
theorem dX2_ended_15 : decode cX2_ended 15 = .ok (.goto 4, 3) := by decide +kernel
theorem dX2_ended_18 : decode cX2_ended 18 = .ok (.iconst 0, 1) := by decide +kernel
theorem dX2_ended_19 : decode cX2_ended 19 = .ok (.ireturn, 1) := by decide +kernel
set_option maxRecDepth 20000 in
theorem ggX2_openTick_X4_money : GoodIn wsX2_openTick wsX4_money := goodIn_r _ [7, 8, 9, 10, 11, 12, 13, 14, 15, 16, 24, 25] (by decide +kernel) (by decide +kernel)
set_option maxRecDepth 20000 in
theorem gX2_openTick_X4_money : GoodIn wsX2_openTick (wsV RX2 34 RX4 yX4_money wsX4_money) := goodIn_app (goodIn_of _ (by decide +kernel)) ggX2_openTick_X4_money
theorem dX2_openTick_0 : decode cX2_openTick 0 = .ok (.aload_n 0, 1) := by decide +kernel
theorem dX2_openTick_1 : decode cX2_openTick 1 = .ok (.dup, 1) := by decide +kernel
theorem dX2_openTick_2 : decode cX2_openTick 2 = .ok (.getfield 18, 3) := by decide +kernel
theorem dX2_openTick_5 : decode cX2_openTick 5 = .ok (.iconst 1, 1) := by decide +kernel
theorem dX2_openTick_6 : decode cX2_openTick 6 = .ok (.iadd, 1) := by decide +kernel
theorem dX2_openTick_7 : decode cX2_openTick 7 = .ok (.putfield 18, 3) := by decide +kernel
theorem dX2_openTick_10 : decode cX2_openTick 10 = .ok (.aload_n 0, 1) := by decide +kernel
theorem dX2_openTick_11 : decode cX2_openTick 11 = .ok (.aload_n 1, 1) := by decide +kernel
theorem dX2_openTick_12 : decode cX2_openTick 12 = .ok (.aload_n 0, 1) := by decide +kernel
theorem dX2_openTick_13 : decode cX2_openTick 13 = .ok (.getfield 18, 3) := by decide +kernel
theorem dX2_openTick_16 : decode cX2_openTick 16 = .ok (.aload_n 0, 1) := by decide +kernel
theorem dX2_openTick_17 : decode cX2_openTick 17 = .ok (.getfield 31, 3) := by decide +kernel
theorem dX2_openTick_20 : decode cX2_openTick 20 = .ok (.invokevirtual 34, 3) := by decide +kernel
theorem dX2_openTick_23 : decode cX2_openTick 23 = .ok (.putfield 31, 3) := by decide +kernel
theorem dX2_openTick_26 : decode cX2_openTick 26 = .ok (.return_, 1) := by decide +kernel
set_option maxRecDepth 20000 in
theorem ggX2_putSet_X3_isLawful : GoodIn wsX2_putSet wsX3_isLawful := goodIn_r _ [9, 10, 11, 12, 8, 13, 14, 15, 16, 17, 18, 19, 20, 21, 22, 37, 38, 39, 40, 41, 42] (by decide +kernel) (by decide +kernel)
set_option maxRecDepth 20000 in
theorem gX2_putSet_X3_isLawful : GoodIn wsX2_putSet (wsV RX2 39 RX3 yX3_isLawful wsX3_isLawful) := goodIn_app (goodIn_of _ (by decide +kernel)) ggX2_putSet_X3_isLawful
set_option maxRecDepth 20000 in
theorem ggX2_putSet_X3_priceOf : GoodIn wsX2_putSet wsX3_priceOf := goodIn_r _ [18, 19, 20, 21, 8, 22, 37, 38, 39, 40, 41, 42] (by decide +kernel) (by decide +kernel)
set_option maxRecDepth 20000 in
theorem gX2_putSet_X3_priceOf : GoodIn wsX2_putSet (wsV RX2 45 RX3 yX3_priceOf wsX3_priceOf) := goodIn_app (goodIn_of _ (by decide +kernel)) ggX2_putSet_X3_priceOf
set_option maxRecDepth 20000 in
theorem ggX2_putSet_X2_pay : GoodIn wsX2_putSet wsX2_pay := goodIn_r _ [28, 2, 3, 29, 30, 31, 32, 33, 34, 35, 36] (by decide +kernel) (by decide +kernel)
set_option maxRecDepth 20000 in
theorem gX2_putSet_X2_pay : GoodIn wsX2_putSet (wsV RX2 49 RX2 yX2_pay wsX2_pay) := goodIn_app (goodIn_of _ (by decide +kernel)) ggX2_putSet_X2_pay
theorem dX2_putSet_0 : decode cX2_putSet 0 = .ok (.aload_n 1, 1) := by decide +kernel
theorem dX2_putSet_1 : decode cX2_putSet 1 = .ok (.iload_n 2, 1) := by decide +kernel
theorem dX2_putSet_2 : decode cX2_putSet 2 = .ok (.aload_n 0, 1) := by decide +kernel
theorem dX2_putSet_3 : decode cX2_putSet 3 = .ok (.getfield 9, 3) := by decide +kernel
theorem dX2_putSet_6 : decode cX2_putSet 6 = .ok (.aload_n 0, 1) := by decide +kernel
theorem dX2_putSet_7 : decode cX2_putSet 7 = .ok (.getfield 15, 3) := by decide +kernel
theorem dX2_putSet_10 : decode cX2_putSet 10 = .ok (.aload_n 0, 1) := by decide +kernel
theorem dX2_putSet_11 : decode cX2_putSet 11 = .ok (.getfield 31, 3) := by decide +kernel
theorem dX2_putSet_14 : decode cX2_putSet 14 = .ok (.invokevirtual 39, 3) := by decide +kernel
theorem dX2_putSet_17 : decode cX2_putSet 17 = .ok (.ifCond .ne 9, 3) := by decide +kernel
theorem dX2_putSet_20 : decode cX2_putSet 20 = .ok (.aload_n 0, 1) := by decide +kernel
theorem dX2_putSet_21 : decode cX2_putSet 21 = .ok (.iconst 1, 1) := by decide +kernel
theorem dX2_putSet_22 : decode cX2_putSet 22 = .ok (.putfield 24, 3) := by decide +kernel
theorem dX2_putSet_25 : decode cX2_putSet 25 = .ok (.return_, 1) := by decide +kernel
theorem dX2_putSet_26 : decode cX2_putSet 26 = .ok (.aload_n 0, 1) := by decide +kernel
theorem dX2_putSet_27 : decode cX2_putSet 27 = .ok (.iload_n 2, 1) := by decide +kernel
theorem dX2_putSet_28 : decode cX2_putSet 28 = .ok (.aload_n 1, 1) := by decide +kernel
theorem dX2_putSet_29 : decode cX2_putSet 29 = .ok (.iload_n 2, 1) := by decide +kernel
theorem dX2_putSet_30 : decode cX2_putSet 30 = .ok (.invokevirtual 45, 3) := by decide +kernel
theorem dX2_putSet_33 : decode cX2_putSet 33 = .ok (.invokevirtual 49, 3) := by decide +kernel
theorem dX2_putSet_36 : decode cX2_putSet 36 = .ok (.return_, 1) := by decide +kernel
theorem dX2_pay_0 : decode cX2_pay 0 = .ok (.aload_n 0, 1) := by decide +kernel
theorem dX2_pay_1 : decode cX2_pay 1 = .ok (.dup, 1) := by decide +kernel
theorem dX2_pay_2 : decode cX2_pay 2 = .ok (.getfield 15, 3) := by decide +kernel
theorem dX2_pay_5 : decode cX2_pay 5 = .ok (.iload_n 1, 1) := by decide +kernel
theorem dX2_pay_6 : decode cX2_pay 6 = .ok (.ior, 1) := by decide +kernel
theorem dX2_pay_7 : decode cX2_pay 7 = .ok (.putfield 15, 3) := by decide +kernel
theorem dX2_pay_10 : decode cX2_pay 10 = .ok (.aload_n 0, 1) := by decide +kernel
theorem dX2_pay_11 : decode cX2_pay 11 = .ok (.dup, 1) := by decide +kernel
theorem dX2_pay_12 : decode cX2_pay 12 = .ok (.getfield 31, 3) := by decide +kernel
theorem dX2_pay_15 : decode cX2_pay 15 = .ok (.iload_n 2, 1) := by decide +kernel
theorem dX2_pay_16 : decode cX2_pay 16 = .ok (.isub, 1) := by decide +kernel
theorem dX2_pay_17 : decode cX2_pay 17 = .ok (.putfield 31, 3) := by decide +kernel
theorem dX2_pay_20 : decode cX2_pay 20 = .ok (.aload_n 0, 1) := by decide +kernel
theorem dX2_pay_21 : decode cX2_pay 21 = .ok (.dup, 1) := by decide +kernel
theorem dX2_pay_22 : decode cX2_pay 22 = .ok (.getfield 21, 3) := by decide +kernel
theorem dX2_pay_25 : decode cX2_pay 25 = .ok (.iload_n 2, 1) := by decide +kernel
theorem dX2_pay_26 : decode cX2_pay 26 = .ok (.iadd, 1) := by decide +kernel
theorem dX2_pay_27 : decode cX2_pay 27 = .ok (.putfield 21, 3) := by decide +kernel
theorem dX2_pay_30 : decode cX2_pay 30 = .ok (.return_, 1) := by decide +kernel
set_option maxRecDepth 20000 in
theorem ggX2_putByRule_X3_pick : GoodIn wsX2_putByRule wsX3_pick := goodIn_r _ [8, 9, 10, 11, 12, 7, 13, 14, 15, 16, 17, 18, 19, 20, 21, 22, 23, 24, 25, 26, 27, 28, 29, 50, 51, 52, 53, 54, 55] (by decide +kernel) (by decide +kernel)
set_option maxRecDepth 20000 in
theorem gX2_putByRule_X3_pick : GoodIn wsX2_putByRule (wsV RX2 53 RX3 yX3_pick wsX3_pick) := goodIn_app (goodIn_of _ (by decide +kernel)) ggX2_putByRule_X3_pick
set_option maxRecDepth 20000 in
theorem ggX2_putByRule_X3_priceOf : GoodIn wsX2_putByRule wsX3_priceOf := goodIn_r _ [33, 9, 34, 35, 7, 36, 50, 51, 52, 53, 54, 55] (by decide +kernel) (by decide +kernel)
set_option maxRecDepth 20000 in
theorem gX2_putByRule_X3_priceOf : GoodIn wsX2_putByRule (wsV RX2 45 RX3 yX3_priceOf wsX3_priceOf) := goodIn_app (goodIn_of _ (by decide +kernel)) ggX2_putByRule_X3_priceOf
set_option maxRecDepth 20000 in
theorem ggX2_putByRule_X2_pay : GoodIn wsX2_putByRule wsX2_pay := goodIn_r _ [41, 2, 3, 42, 43, 44, 45, 46, 47, 48, 49] (by decide +kernel) (by decide +kernel)
set_option maxRecDepth 20000 in
theorem gX2_putByRule_X2_pay : GoodIn wsX2_putByRule (wsV RX2 49 RX2 yX2_pay wsX2_pay) := goodIn_app (goodIn_of _ (by decide +kernel)) ggX2_putByRule_X2_pay
theorem dX2_putByRule_0 : decode cX2_putByRule 0 = .ok (.iconst 0, 1) := by decide +kernel
theorem dX2_putByRule_1 : decode cX2_putByRule 1 = .ok (.istore_n 3, 1) := by decide +kernel
theorem dX2_putByRule_2 : decode cX2_putByRule 2 = .ok (.iload_n 3, 1) := by decide +kernel
theorem dX2_putByRule_3 : decode cX2_putByRule 3 = .ok (.bipush 10, 2) := by decide +kernel
theorem dX2_putByRule_5 : decode cX2_putByRule 5 = .ok (.if_icmp .ge 51, 3) := by decide +kernel
theorem dX2_putByRule_8 : decode cX2_putByRule 8 = .ok (.aload_n 1, 1) := by decide +kernel
theorem dX2_putByRule_9 : decode cX2_putByRule 9 = .ok (.iload_n 2, 1) := by decide +kernel
theorem dX2_putByRule_10 : decode cX2_putByRule 10 = .ok (.aload_n 0, 1) := by decide +kernel
theorem dX2_putByRule_11 : decode cX2_putByRule 11 = .ok (.getfield 9, 3) := by decide +kernel
theorem dX2_putByRule_14 : decode cX2_putByRule 14 = .ok (.aload_n 0, 1) := by decide +kernel
theorem dX2_putByRule_15 : decode cX2_putByRule 15 = .ok (.getfield 15, 3) := by decide +kernel
theorem dX2_putByRule_18 : decode cX2_putByRule 18 = .ok (.aload_n 0, 1) := by decide +kernel
theorem dX2_putByRule_19 : decode cX2_putByRule 19 = .ok (.getfield 31, 3) := by decide +kernel
theorem dX2_putByRule_22 : decode cX2_putByRule 22 = .ok (.invokevirtual 53, 3) := by decide +kernel
theorem dX2_putByRule_25 : decode cX2_putByRule 25 = .ok (.istore 4, 2) := by decide +kernel
theorem dX2_putByRule_27 : decode cX2_putByRule 27 = .ok (.iload 4, 2) := by decide +kernel
theorem dX2_putByRule_29 : decode cX2_putByRule 29 = .ok (.iconst (-1), 1) := by decide +kernel
theorem dX2_putByRule_30 : decode cX2_putByRule 30 = .ok (.if_icmp .ne 4, 3) := by decide +kernel
theorem dX2_putByRule_33 : decode cX2_putByRule 33 = .ok (.return_, 1) := by decide +kernel
theorem dX2_putByRule_34 : decode cX2_putByRule 34 = .ok (.aload_n 0, 1) := by decide +kernel
theorem dX2_putByRule_35 : decode cX2_putByRule 35 = .ok (.iconst 1, 1) := by decide +kernel
theorem dX2_putByRule_36 : decode cX2_putByRule 36 = .ok (.iload 4, 2) := by decide +kernel
theorem dX2_putByRule_38 : decode cX2_putByRule 38 = .ok (.ishl, 1) := by decide +kernel
theorem dX2_putByRule_39 : decode cX2_putByRule 39 = .ok (.aload_n 1, 1) := by decide +kernel
theorem dX2_putByRule_40 : decode cX2_putByRule 40 = .ok (.iconst 1, 1) := by decide +kernel
theorem dX2_putByRule_41 : decode cX2_putByRule 41 = .ok (.iload 4, 2) := by decide +kernel
theorem dX2_putByRule_43 : decode cX2_putByRule 43 = .ok (.ishl, 1) := by decide +kernel
theorem dX2_putByRule_44 : decode cX2_putByRule 44 = .ok (.invokevirtual 45, 3) := by decide +kernel
theorem dX2_putByRule_47 : decode cX2_putByRule 47 = .ok (.invokevirtual 49, 3) := by decide +kernel
theorem dX2_putByRule_50 : decode cX2_putByRule 50 = .ok (.iinc 3 1, 3) := by decide +kernel
theorem dX2_putByRule_53 : decode cX2_putByRule 53 = .ok (.goto (-51), 3) := by decide +kernel
theorem dX2_putByRule_56 : decode cX2_putByRule 56 = .ok (.return_, 1) := by decide +kernel
set_option maxRecDepth 20000 in
theorem ggX2_spread_X3_threatened : GoodIn wsX2_spread wsX3_threatened := goodIn_r _ [9, 10, 11, 12, 13, 21, 22, 23, 24, 25, 26] (by decide +kernel) (by decide +kernel)
set_option maxRecDepth 20000 in
theorem gX2_spread_X3_threatened : GoodIn wsX2_spread (wsV RX2 57 RX3 yX3_threatened wsX3_threatened) := goodIn_app (goodIn_of _ (by decide +kernel)) ggX2_spread_X3_threatened
theorem dX2_spread_0 : decode cX2_spread 0 = .ok (.aload_n 0, 1) := by decide +kernel
theorem dX2_spread_1 : decode cX2_spread 1 = .ok (.getfield 24, 3) := by decide +kernel
theorem dX2_spread_4 : decode cX2_spread 4 = .ok (.ifCond .eq 4, 3) := by decide +kernel
theorem dX2_spread_7 : decode cX2_spread 7 = .ok (.return_, 1) := by decide +kernel
theorem dX2_spread_8 : decode cX2_spread 8 = .ok (.aload_n 1, 1) := by decide +kernel
theorem dX2_spread_9 : decode cX2_spread 9 = .ok (.aload_n 0, 1) := by decide +kernel
theorem dX2_spread_10 : decode cX2_spread 10 = .ok (.getfield 9, 3) := by decide +kernel
theorem dX2_spread_13 : decode cX2_spread 13 = .ok (.aload_n 0, 1) := by decide +kernel
theorem dX2_spread_14 : decode cX2_spread 14 = .ok (.getfield 15, 3) := by decide +kernel
theorem dX2_spread_17 : decode cX2_spread 17 = .ok (.invokevirtual 57, 3) := by decide +kernel
theorem dX2_spread_20 : decode cX2_spread 20 = .ok (.istore_n 2, 1) := by decide +kernel
theorem dX2_spread_21 : decode cX2_spread 21 = .ok (.aload_n 0, 1) := by decide +kernel
theorem dX2_spread_22 : decode cX2_spread 22 = .ok (.dup, 1) := by decide +kernel
theorem dX2_spread_23 : decode cX2_spread 23 = .ok (.getfield 9, 3) := by decide +kernel
theorem dX2_spread_26 : decode cX2_spread 26 = .ok (.iload_n 2, 1) := by decide +kernel
theorem dX2_spread_27 : decode cX2_spread 27 = .ok (.ior, 1) := by decide +kernel
theorem dX2_spread_28 : decode cX2_spread 28 = .ok (.putfield 9, 3) := by decide +kernel
theorem dX2_spread_31 : decode cX2_spread 31 = .ok (.aload_n 0, 1) := by decide +kernel
theorem dX2_spread_32 : decode cX2_spread 32 = .ok (.iload_n 2, 1) := by decide +kernel
theorem dX2_spread_33 : decode cX2_spread 33 = .ok (.ifCond .ne 7, 3) := by decide +kernel
theorem dX2_spread_36 : decode cX2_spread 36 = .ok (.iconst 1, 1) := by decide +kernel
theorem dX2_spread_37 : decode cX2_spread 37 = .ok (.goto 4, 3) := by decide +kernel
theorem dX2_spread_40 : decode cX2_spread 40 = .ok (.iconst 0, 1) := by decide +kernel
theorem dX2_spread_41 : decode cX2_spread 41 = .ok (.putfield 28, 3) := by decide +kernel
theorem dX2_spread_44 : decode cX2_spread 44 = .ok (.return_, 1) := by decide +kernel
set_option maxRecDepth 20000 in
theorem ggX3_init_X3_renew : GoodIn wsX3_init wsX3_renew := goodIn_r _ [13, 14, 15, 5, 6, 7, 16, 17, 18, 19, 20, 21, 22, 23, 24, 25] (by decide +kernel) (by decide +kernel)
set_option maxRecDepth 20000 in
theorem gX3_init_X3_renew : GoodIn wsX3_init (wsV RX3 24 RX3 yX3_renew wsX3_renew) := goodIn_app (goodIn_of _ (by decide +kernel)) ggX3_init_X3_renew
theorem dX3_init_0 : decode cX3_init 0 = .ok (.aload_n 0, 1) := by decide +kernel
theorem dX3_init_1 : decode cX3_init 1 = .ok (.invokespecial 3, 3) := by decide +kernel
theorem dX3_init_4 : decode cX3_init 4 = .ok (.aload_n 0, 1) := by decide +kernel
theorem dX3_init_5 : decode cX3_init 5 = .ok (.bipush 10, 2) := by decide +kernel
theorem dX3_init_7 : decode cX3_init 7 = .ok (.newarray .int, 2) := by decide +kernel
theorem dX3_init_9 : decode cX3_init 9 = .ok (.putfield 9, 3) := by decide +kernel
theorem dX3_init_12 : decode cX3_init 12 = .ok (.aload_n 0, 1) := by decide +kernel
theorem dX3_init_13 : decode cX3_init 13 = .ok (.bipush 10, 2) := by decide +kernel
theorem dX3_init_15 : decode cX3_init 15 = .ok (.newarray .int, 2) := by decide +kernel
theorem dX3_init_17 : decode cX3_init 17 = .ok (.putfield 15, 3) := by decide +kernel
theorem dX3_init_20 : decode cX3_init 20 = .ok (.aload_n 0, 1) := by decide +kernel
theorem dX3_init_21 : decode cX3_init 21 = .ok (.bipush 10, 2) := by decide +kernel
theorem dX3_init_23 : decode cX3_init 23 = .ok (.newarray .int, 2) := by decide +kernel
theorem dX3_init_25 : decode cX3_init 25 = .ok (.putfield 18, 3) := by decide +kernel
theorem dX3_init_28 : decode cX3_init 28 = .ok (.aload_n 0, 1) := by decide +kernel
theorem dX3_init_29 : decode cX3_init 29 = .ok (.bipush 24, 2) := by decide +kernel
theorem dX3_init_31 : decode cX3_init 31 = .ok (.newarray .int, 2) := by decide +kernel
theorem dX3_init_33 : decode cX3_init 33 = .ok (.putfield 21, 3) := by decide +kernel
theorem dX3_init_36 : decode cX3_init 36 = .ok (.aload_n 0, 1) := by decide +kernel
theorem dX3_init_37 : decode cX3_init 37 = .ok (.iconst 1, 1) := by decide +kernel
theorem dX3_init_38 : decode cX3_init 38 = .ok (.invokevirtual 24, 3) := by decide +kernel
theorem dX3_init_41 : decode cX3_init 41 = .ok (.return_, 1) := by decide +kernel
set_option maxRecDepth 20000 in
theorem ggX3_renew_J7_fill_53178 : GoodIn wsX3_renew wsJ7_fill_53178 := goodIn_r _ [9] (by decide +kernel) (by decide +kernel)
set_option maxRecDepth 20000 in
theorem gX3_renew_J7_fill_53178 : GoodIn wsX3_renew (va_wsS RX3 35 yJ7_fill_53178 wsJ7_fill_53178) := goodIn_app (goodIn_of _ (by decide +kernel)) ggX3_renew_J7_fill_53178
theorem dX3_renew_0 : decode cX3_renew 0 = .ok (.aload_n 0, 1) := by decide +kernel
theorem dX3_renew_1 : decode cX3_renew 1 = .ok (.iload_n 1, 1) := by decide +kernel
theorem dX3_renew_2 : decode cX3_renew 2 = .ok (.putfield 28, 3) := by decide +kernel
theorem dX3_renew_5 : decode cX3_renew 5 = .ok (.aload_n 0, 1) := by decide +kernel
theorem dX3_renew_6 : decode cX3_renew 6 = .ok (.iconst 0, 1) := by decide +kernel
theorem dX3_renew_7 : decode cX3_renew 7 = .ok (.putfield 32, 3) := by decide +kernel
theorem dX3_renew_10 : decode cX3_renew 10 = .ok (.aload_n 0, 1) := by decide +kernel
theorem dX3_renew_11 : decode cX3_renew 11 = .ok (.getfield 9, 3) := by decide +kernel
theorem dX3_renew_14 : decode cX3_renew 14 = .ok (.iconst 1, 1) := by decide +kernel
theorem dX3_renew_15 : decode cX3_renew 15 = .ok (.invokestatic 35, 3) := by decide +kernel
theorem dX3_renew_18 : decode cX3_renew 18 = .ok (.aload_n 0, 1) := by decide +kernel
theorem dX3_renew_19 : decode cX3_renew 19 = .ok (.getfield 15, 3) := by decide +kernel
theorem dX3_renew_22 : decode cX3_renew 22 = .ok (.iconst 1, 1) := by decide +kernel
theorem dX3_renew_23 : decode cX3_renew 23 = .ok (.invokestatic 35, 3) := by decide +kernel
theorem dX3_renew_26 : decode cX3_renew 26 = .ok (.aload_n 0, 1) := by decide +kernel
theorem dX3_renew_27 : decode cX3_renew 27 = .ok (.getfield 18, 3) := by decide +kernel
theorem dX3_renew_30 : decode cX3_renew 30 = .ok (.iconst 0, 1) := by decide +kernel
theorem dX3_renew_31 : decode cX3_renew 31 = .ok (.invokestatic 35, 3) := by decide +kernel
theorem dX3_renew_34 : decode cX3_renew 34 = .ok (.return_, 1) := by decide +kernel
set_option maxRecDepth 20000 in
theorem ggX3_has_X6_within : GoodIn wsX3_has wsX6_within := goodIn_r _ [4] (by decide +kernel) (by decide +kernel)
set_option maxRecDepth 20000 in
theorem gX3_has_X6_within_n41 : GoodIn wsX3_has (wsX6_within) := ggX3_has_X6_within
theorem dX3_has_0 : decode cX3_has 0 = .ok (.iload_n 1, 1) := by decide +kernel
theorem dX3_has_1 : decode cX3_has 1 = .ok (.iconst 0, 1) := by decide +kernel
theorem dX3_has_2 : decode cX3_has 2 = .ok (.aload_n 0, 1) := by decide +kernel
theorem dX3_has_3 : decode cX3_has 3 = .ok (.getfield 28, 3) := by decide +kernel
theorem dX3_has_6 : decode cX3_has 6 = .ok (.iconst 1, 1) := by decide +kernel
theorem dX3_has_7 : decode cX3_has 7 = .ok (.isub, 1) := by decide +kernel
theorem dX3_has_8 : decode cX3_has 8 = .ok (.invokestatic 41, 3) := by decide +kernel
theorem dX3_has_11 : decode cX3_has 11 = .ok (.ireturn, 1) := by decide +kernel
theorem dX3_all_0 : decode cX3_all 0 = .ok (.iconst 1, 1) := by decide +kernel
theorem dX3_all_1 : decode cX3_all 1 = .ok (.aload_n 0, 1) := by decide +kernel
theorem dX3_all_2 : decode cX3_all 2 = .ok (.getfield 28, 3) := by decide +kernel
theorem dX3_all_5 : decode cX3_all 5 = .ok (.ishl, 1) := by decide +kernel
theorem dX3_all_6 : decode cX3_all 6 = .ok (.iconst 1, 1) := by decide +kernel
theorem dX3_all_7 : decode cX3_all 7 = .ok (.isub, 1) := by decide +kernel
theorem dX3_all_8 : decode cX3_all 8 = .ok (.ireturn, 1) := by decide +kernel
set_option maxRecDepth 20000 in
theorem ggX3_isStart_X3_all : GoodIn wsX3_isStart wsX3_all := goodIn_r _ [5, 6, 10, 11, 12, 13, 14, 15] (by decide +kernel) (by decide +kernel)
set_option maxRecDepth 20000 in
theorem gX3_isStart_X3_all : GoodIn wsX3_isStart (wsV RX3 45 RX3 yX3_all wsX3_all) := goodIn_app (goodIn_of _ (by decide +kernel)) ggX3_isStart_X3_all
set_option maxRecDepth 20000 in
theorem ggX3_isStart_X6_within : GoodIn wsX3_isStart wsX6_within := goodIn_r _ [9] (by decide +kernel) (by decide +kernel)
set_option maxRecDepth 20000 in
theorem gX3_isStart_X6_within_n41 : GoodIn wsX3_isStart (wsX6_within) := ggX3_isStart_X6_within
theorem dX3_isStart_0 : decode cX3_isStart 0 = .ok (.iload_n 1, 1) := by decide +kernel
theorem dX3_isStart_1 : decode cX3_isStart 1 = .ok (.iconst 1, 1) := by decide +kernel
theorem dX3_isStart_2 : decode cX3_isStart 2 = .ok (.aload_n 0, 1) := by decide +kernel
theorem dX3_isStart_3 : decode cX3_isStart 3 = .ok (.invokevirtual 45, 3) := by decide +kernel
theorem dX3_isStart_6 : decode cX3_isStart 6 = .ok (.invokestatic 41, 3) := by decide +kernel
theorem dX3_isStart_9 : decode cX3_isStart 9 = .ok (.ireturn, 1) := by decide +kernel
set_option maxRecDepth 20000 in
theorem ggX3_joined_X3_nearTo : GoodIn wsX3_joined wsX3_nearTo := goodIn_r _ [5, 6, 10, 11, 12, 13, 14, 15] (by decide +kernel) (by decide +kernel)
set_option maxRecDepth 20000 in
theorem gX3_joined_X3_nearTo : GoodIn wsX3_joined (wsV RX3 49 RX3 yX3_nearTo wsX3_nearTo) := goodIn_app (goodIn_of _ (by decide +kernel)) ggX3_joined_X3_nearTo
set_option maxRecDepth 20000 in
theorem ggX3_joined_X6_holds : GoodIn wsX3_joined wsX6_holds := goodIn_r _ [9] (by decide +kernel) (by decide +kernel)
set_option maxRecDepth 20000 in
theorem gX3_joined_X6_holds_n53 : GoodIn wsX3_joined (wsX6_holds) := ggX3_joined_X6_holds
theorem dX3_joined_0 : decode cX3_joined 0 = .ok (.aload_n 0, 1) := by decide +kernel
theorem dX3_joined_1 : decode cX3_joined 1 = .ok (.iload_n 1, 1) := by decide +kernel
theorem dX3_joined_2 : decode cX3_joined 2 = .ok (.invokevirtual 49, 3) := by decide +kernel
theorem dX3_joined_5 : decode cX3_joined 5 = .ok (.iload_n 2, 1) := by decide +kernel
theorem dX3_joined_6 : decode cX3_joined 6 = .ok (.invokestatic 53, 3) := by decide +kernel
theorem dX3_joined_9 : decode cX3_joined 9 = .ok (.ireturn, 1) := by decide +kernel
theorem dX3_nearTo_0 : decode cX3_nearTo 0 = .ok (.iload_n 1, 1) := by decide +kernel
theorem dX3_nearTo_1 : decode cX3_nearTo 1 = .ok (.ifCond .lt 9, 3) := by decide +kernel
theorem dX3_nearTo_4 : decode cX3_nearTo 4 = .ok (.iload_n 1, 1) := by decide +kernel
theorem dX3_nearTo_5 : decode cX3_nearTo 5 = .ok (.bipush 10, 2) := by decide +kernel
theorem dX3_nearTo_7 : decode cX3_nearTo 7 = .ok (.if_icmp .lt 7, 3) := by decide +kernel
theorem dX3_nearTo_10 : decode cX3_nearTo 10 = .ok (.iconst 0, 1) := by decide +kernel
theorem dX3_nearTo_11 : decode cX3_nearTo 11 = .ok (.goto 9, 3) := by decide +kernel
theorem dX3_nearTo_14 : decode cX3_nearTo 14 = .ok (.aload_n 0, 1) := by decide +kernel
theorem dX3_nearTo_15 : decode cX3_nearTo 15 = .ok (.getfield 18, 3) := by decide +kernel
theorem dX3_nearTo_18 : decode cX3_nearTo 18 = .ok (.iload_n 1, 1) := by decide +kernel
theorem dX3_nearTo_19 : decode cX3_nearTo 19 = .ok (.iaload, 1) := by decide +kernel
theorem dX3_nearTo_20 : decode cX3_nearTo 20 = .ok (.ireturn, 1) := by decide +kernel
theorem dX3_endsOf_0 : decode cX3_endsOf 0 = .ok (.iload_n 1, 1) := by decide +kernel
theorem dX3_endsOf_1 : decode cX3_endsOf 1 = .ok (.ifCond .lt 9, 3) := by decide +kernel
theorem dX3_endsOf_4 : decode cX3_endsOf 4 = .ok (.iload_n 1, 1) := by decide +kernel
theorem dX3_endsOf_5 : decode cX3_endsOf 5 = .ok (.bipush 24, 2) := by decide +kernel
theorem dX3_endsOf_7 : decode cX3_endsOf 7 = .ok (.if_icmp .lt 7, 3) := by decide +kernel
theorem dX3_endsOf_10 : decode cX3_endsOf 10 = .ok (.iconst 0, 1) := by decide +kernel
theorem dX3_endsOf_11 : decode cX3_endsOf 11 = .ok (.goto 9, 3) := by decide +kernel
theorem dX3_endsOf_14 : decode cX3_endsOf 14 = .ok (.aload_n 0, 1) := by decide +kernel
theorem dX3_endsOf_15 : decode cX3_endsOf 15 = .ok (.getfield 21, 3) := by decide +kernel
theorem dX3_endsOf_18 : decode cX3_endsOf 18 = .ok (.iload_n 1, 1) := by decide +kernel
theorem dX3_endsOf_19 : decode cX3_endsOf 19 = .ok (.iaload, 1) := by decide +kernel
theorem dX3_endsOf_20 : decode cX3_endsOf 20 = .ok (.ireturn, 1) := by decide +kernel
set_option maxRecDepth 20000 in
theorem ggX3_join_X3_has : GoodIn wsX3_join wsX3_has := goodIn_r _ [8, 9, 10, 11, 12, 13, 14, 15, 16, 17, 18] (by decide +kernel) (by decide +kernel)
set_option maxRecDepth 20000 in
theorem gX3_join_X3_has : GoodIn wsX3_join (wsV RX3 57 RX3 yX3_has wsX3_has) := goodIn_app (goodIn_of _ (by decide +kernel)) ggX3_join_X3_has
theorem dX3_join_0 : decode cX3_join 0 = .ok (.aload_n 0, 1) := by decide +kernel
theorem dX3_join_1 : decode cX3_join 1 = .ok (.getfield 32, 3) := by decide +kernel
theorem dX3_join_4 : decode cX3_join 4 = .ok (.bipush 24, 2) := by decide +kernel
theorem dX3_join_6 : decode cX3_join 6 = .ok (.if_icmp .ge 19, 3) := by decide +kernel
theorem dX3_join_9 : decode cX3_join 9 = .ok (.aload_n 0, 1) := by decide +kernel
theorem dX3_join_10 : decode cX3_join 10 = .ok (.iload_n 1, 1) := by decide +kernel
theorem dX3_join_11 : decode cX3_join 11 = .ok (.invokevirtual 57, 3) := by decide +kernel
theorem dX3_join_14 : decode cX3_join 14 = .ok (.ifCond .eq 11, 3) := by decide +kernel
theorem dX3_join_17 : decode cX3_join 17 = .ok (.aload_n 0, 1) := by decide +kernel
theorem dX3_join_18 : decode cX3_join 18 = .ok (.iload_n 2, 1) := by decide +kernel
theorem dX3_join_19 : decode cX3_join 19 = .ok (.invokevirtual 57, 3) := by decide +kernel
theorem dX3_join_22 : decode cX3_join 22 = .ok (.ifCond .ne 5, 3) := by decide +kernel
theorem dX3_join_25 : decode cX3_join 25 = .ok (.iconst (-1), 1) := by decide +kernel
theorem dX3_join_26 : decode cX3_join 26 = .ok (.ireturn, 1) := by decide +kernel
theorem dX3_join_27 : decode cX3_join 27 = .ok (.aload_n 0, 1) := by decide +kernel
theorem dX3_join_28 : decode cX3_join 28 = .ok (.getfield 18, 3) := by decide +kernel
theorem dX3_join_31 : decode cX3_join 31 = .ok (.iload_n 1, 1) := by decide +kernel
theorem dX3_join_32 : decode cX3_join 32 = .ok (.dup2, 1) := by decide +kernel
theorem dX3_join_33 : decode cX3_join 33 = .ok (.iaload, 1) := by decide +kernel
theorem dX3_join_34 : decode cX3_join 34 = .ok (.iconst 1, 1) := by decide +kernel
theorem dX3_join_35 : decode cX3_join 35 = .ok (.iload_n 2, 1) := by decide +kernel
theorem dX3_join_36 : decode cX3_join 36 = .ok (.ishl, 1) := by decide +kernel
theorem dX3_join_37 : decode cX3_join 37 = .ok (.ior, 1) := by decide +kernel
theorem dX3_join_38 : decode cX3_join 38 = .ok (.iastore, 1) := by decide +kernel
theorem dX3_join_39 : decode cX3_join 39 = .ok (.aload_n 0, 1) := by decide +kernel
theorem dX3_join_40 : decode cX3_join 40 = .ok (.getfield 18, 3) := by decide +kernel
theorem dX3_join_43 : decode cX3_join 43 = .ok (.iload_n 2, 1) := by decide +kernel
theorem dX3_join_44 : decode cX3_join 44 = .ok (.dup2, 1) := by decide +kernel
theorem dX3_join_45 : decode cX3_join 45 = .ok (.iaload, 1) := by decide +kernel
theorem dX3_join_46 : decode cX3_join 46 = .ok (.iconst 1, 1) := by decide +kernel
theorem dX3_join_47 : decode cX3_join 47 = .ok (.iload_n 1, 1) := by decide +kernel
theorem dX3_join_48 : decode cX3_join 48 = .ok (.ishl, 1) := by decide +kernel
theorem dX3_join_49 : decode cX3_join 49 = .ok (.ior, 1) := by decide +kernel
theorem dX3_join_50 : decode cX3_join 50 = .ok (.iastore, 1) := by decide +kernel
theorem dX3_join_51 : decode cX3_join 51 = .ok (.aload_n 0, 1) := by decide +kernel
theorem dX3_join_52 : decode cX3_join 52 = .ok (.getfield 21, 3) := by decide +kernel
theorem dX3_join_55 : decode cX3_join 55 = .ok (.aload_n 0, 1) := by decide +kernel
theorem dX3_join_56 : decode cX3_join 56 = .ok (.getfield 32, 3) := by decide +kernel
theorem dX3_join_59 : decode cX3_join 59 = .ok (.iconst 1, 1) := by decide +kernel
theorem dX3_join_60 : decode cX3_join 60 = .ok (.iload_n 1, 1) := by decide +kernel
theorem dX3_join_61 : decode cX3_join 61 = .ok (.ishl, 1) := by decide +kernel
theorem dX3_join_62 : decode cX3_join 62 = .ok (.iconst 1, 1) := by decide +kernel
theorem dX3_join_63 : decode cX3_join 63 = .ok (.iload_n 2, 1) := by decide +kernel
theorem dX3_join_64 : decode cX3_join 64 = .ok (.ishl, 1) := by decide +kernel
theorem dX3_join_65 : decode cX3_join 65 = .ok (.ior, 1) := by decide +kernel
theorem dX3_join_66 : decode cX3_join 66 = .ok (.iastore, 1) := by decide +kernel
theorem dX3_join_67 : decode cX3_join 67 = .ok (.aload_n 0, 1) := by decide +kernel
theorem dX3_join_68 : decode cX3_join 68 = .ok (.dup, 1) := by decide +kernel
theorem dX3_join_69 : decode cX3_join 69 = .ok (.getfield 32, 3) := by decide +kernel
theorem dX3_join_72 : decode cX3_join 72 = .ok (.iconst 1, 1) := by decide +kernel
theorem dX3_join_73 : decode cX3_join 73 = .ok (.iadd, 1) := by decide +kernel
theorem dX3_join_74 : decode cX3_join 74 = .ok (.putfield 32, 3) := by decide +kernel
theorem dX3_join_77 : decode cX3_join 77 = .ok (.aload_n 0, 1) := by decide +kernel
theorem dX3_join_78 : decode cX3_join 78 = .ok (.getfield 32, 3) := by decide +kernel
theorem dX3_join_81 : decode cX3_join 81 = .ok (.iconst 1, 1) := by decide +kernel
theorem dX3_join_82 : decode cX3_join 82 = .ok (.isub, 1) := by decide +kernel
theorem dX3_join_83 : decode cX3_join 83 = .ok (.ireturn, 1) := by decide +kernel
set_option maxRecDepth 20000 in
theorem ggX3_worthOf_X3_sumOver : GoodIn wsX3_worthOf wsX3_sumOver := goodIn_r _ [5] (by decide +kernel) (by decide +kernel)
set_option maxRecDepth 20000 in
theorem gX3_worthOf_X3_sumOver : GoodIn wsX3_worthOf (va_wsS RX3 61 yX3_sumOver wsX3_sumOver) := goodIn_app (goodIn_of _ (by decide +kernel)) ggX3_worthOf_X3_sumOver
theorem dX3_worthOf_0 : decode cX3_worthOf 0 = .ok (.aload_n 0, 1) := by decide +kernel
theorem dX3_worthOf_1 : decode cX3_worthOf 1 = .ok (.getfield 9, 3) := by decide +kernel
theorem dX3_worthOf_4 : decode cX3_worthOf 4 = .ok (.iload_n 1, 1) := by decide +kernel
theorem dX3_worthOf_5 : decode cX3_worthOf 5 = .ok (.invokestatic 61, 3) := by decide +kernel
theorem dX3_worthOf_8 : decode cX3_worthOf 8 = .ok (.ireturn, 1) := by decide +kernel
set_option maxRecDepth 20000 in
theorem ggX3_priceOf_X3_sumOver : GoodIn wsX3_priceOf wsX3_sumOver := goodIn_r _ [5] (by decide +kernel) (by decide +kernel)
set_option maxRecDepth 20000 in
theorem gX3_priceOf_X3_sumOver : GoodIn wsX3_priceOf (va_wsS RX3 61 yX3_sumOver wsX3_sumOver) := goodIn_app (goodIn_of _ (by decide +kernel)) ggX3_priceOf_X3_sumOver
theorem dX3_priceOf_0 : decode cX3_priceOf 0 = .ok (.aload_n 0, 1) := by decide +kernel
theorem dX3_priceOf_1 : decode cX3_priceOf 1 = .ok (.getfield 15, 3) := by decide +kernel
theorem dX3_priceOf_4 : decode cX3_priceOf 4 = .ok (.iload_n 1, 1) := by decide +kernel
theorem dX3_priceOf_5 : decode cX3_priceOf 5 = .ok (.invokestatic 61, 3) := by decide +kernel
theorem dX3_priceOf_8 : decode cX3_priceOf 8 = .ok (.ireturn, 1) := by decide +kernel
theorem dX3_sumOver_0 : decode cX3_sumOver 0 = .ok (.iconst 0, 1) := by decide +kernel
theorem dX3_sumOver_1 : decode cX3_sumOver 1 = .ok (.istore_n 2, 1) := by decide +kernel
theorem dX3_sumOver_2 : decode cX3_sumOver 2 = .ok (.iconst 0, 1) := by decide +kernel
theorem dX3_sumOver_3 : decode cX3_sumOver 3 = .ok (.istore_n 3, 1) := by decide +kernel
theorem dX3_sumOver_4 : decode cX3_sumOver 4 = .ok (.iload_n 3, 1) := by decide +kernel
theorem dX3_sumOver_5 : decode cX3_sumOver 5 = .ok (.aload_n 0, 1) := by decide +kernel
theorem dX3_sumOver_6 : decode cX3_sumOver 6 = .ok (.arraylength, 1) := by decide +kernel
theorem dX3_sumOver_7 : decode cX3_sumOver 7 = .ok (.if_icmp .ge 21, 3) := by decide +kernel
theorem dX3_sumOver_10 : decode cX3_sumOver 10 = .ok (.iload_n 2, 1) := by decide +kernel
theorem dX3_sumOver_11 : decode cX3_sumOver 11 = .ok (.aload_n 0, 1) := by decide +kernel
theorem dX3_sumOver_12 : decode cX3_sumOver 12 = .ok (.iload_n 3, 1) := by decide +kernel
theorem dX3_sumOver_13 : decode cX3_sumOver 13 = .ok (.iaload, 1) := by decide +kernel
theorem dX3_sumOver_14 : decode cX3_sumOver 14 = .ok (.iload_n 1, 1) := by decide +kernel
theorem dX3_sumOver_15 : decode cX3_sumOver 15 = .ok (.iload_n 3, 1) := by decide +kernel
theorem dX3_sumOver_16 : decode cX3_sumOver 16 = .ok (.ishr, 1) := by decide +kernel
theorem dX3_sumOver_17 : decode cX3_sumOver 17 = .ok (.iconst 1, 1) := by decide +kernel
theorem dX3_sumOver_18 : decode cX3_sumOver 18 = .ok (.iand, 1) := by decide +kernel
theorem dX3_sumOver_19 : decode cX3_sumOver 19 = .ok (.imul, 1) := by decide +kernel
theorem dX3_sumOver_20 : decode cX3_sumOver 20 = .ok (.iadd, 1) := by decide +kernel
theorem dX3_sumOver_21 : decode cX3_sumOver 21 = .ok (.istore_n 2, 1) := by decide +kernel
theorem dX3_sumOver_22 : decode cX3_sumOver 22 = .ok (.iinc 3 1, 3) := by decide +kernel
theorem dX3_sumOver_25 : decode cX3_sumOver 25 = .ok (.goto (-21), 3) := by decide +kernel
theorem dX3_sumOver_28 : decode cX3_sumOver 28 = .ok (.iload_n 2, 1) := by decide +kernel
theorem dX3_sumOver_29 : decode cX3_sumOver 29 = .ok (.ireturn, 1) := by decide +kernel
set_option maxRecDepth 20000 in
theorem ggX3_savedFrom_X3_all : GoodIn wsX3_savedFrom wsX3_all := goodIn_r _ [5, 6, 15, 16, 17, 18, 19, 20] (by decide +kernel) (by decide +kernel)
set_option maxRecDepth 20000 in
theorem gX3_savedFrom_X3_all : GoodIn wsX3_savedFrom (wsV RX3 45 RX3 yX3_all wsX3_all) := goodIn_app (goodIn_of _ (by decide +kernel)) ggX3_savedFrom_X3_all
set_option maxRecDepth 20000 in
theorem ggX3_savedFrom_X3_worthOf : GoodIn wsX3_savedFrom wsX3_worthOf := goodIn_r _ [10, 11, 12, 13, 4, 14, 15, 16, 17, 18, 19, 20] (by decide +kernel) (by decide +kernel)
set_option maxRecDepth 20000 in
theorem gX3_savedFrom_X3_worthOf : GoodIn wsX3_savedFrom (wsV RX3 65 RX3 yX3_worthOf wsX3_worthOf) := goodIn_app (goodIn_of _ (by decide +kernel)) ggX3_savedFrom_X3_worthOf
theorem dX3_savedFrom_0 : decode cX3_savedFrom 0 = .ok (.aload_n 0, 1) := by decide +kernel
theorem dX3_savedFrom_1 : decode cX3_savedFrom 1 = .ok (.aload_n 0, 1) := by decide +kernel
theorem dX3_savedFrom_2 : decode cX3_savedFrom 2 = .ok (.invokevirtual 45, 3) := by decide +kernel
theorem dX3_savedFrom_5 : decode cX3_savedFrom 5 = .ok (.iload_n 1, 1) := by decide +kernel
theorem dX3_savedFrom_6 : decode cX3_savedFrom 6 = .ok (.iconst (-1), 1) := by decide +kernel
theorem dX3_savedFrom_7 : decode cX3_savedFrom 7 = .ok (.ixor, 1) := by decide +kernel
theorem dX3_savedFrom_8 : decode cX3_savedFrom 8 = .ok (.iand, 1) := by decide +kernel
theorem dX3_savedFrom_9 : decode cX3_savedFrom 9 = .ok (.invokevirtual 65, 3) := by decide +kernel
theorem dX3_savedFrom_12 : decode cX3_savedFrom 12 = .ok (.ireturn, 1) := by decide +kernel
set_option maxRecDepth 20000 in
theorem ggX3_threatened_X6_holds : GoodIn wsX3_threatened wsX6_holds := goodIn_r _ [4] (by decide +kernel) (by decide +kernel)
set_option maxRecDepth 20000 in
theorem gX3_threatened_X6_holds_n53 : GoodIn wsX3_threatened (wsX6_holds) := ggX3_threatened_X6_holds
theorem dX3_threatened_0 : decode cX3_threatened 0 = .ok (.iconst 0, 1) := by decide +kernel
theorem dX3_threatened_1 : decode cX3_threatened 1 = .ok (.istore_n 3, 1) := by decide +kernel
theorem dX3_threatened_2 : decode cX3_threatened 2 = .ok (.iconst 0, 1) := by decide +kernel
theorem dX3_threatened_3 : decode cX3_threatened 3 = .ok (.istore 4, 2) := by decide +kernel
theorem dX3_threatened_5 : decode cX3_threatened 5 = .ok (.iload 4, 2) := by decide +kernel
theorem dX3_threatened_7 : decode cX3_threatened 7 = .ok (.bipush 10, 2) := by decide +kernel
theorem dX3_threatened_9 : decode cX3_threatened 9 = .ok (.if_icmp .ge 28, 3) := by decide +kernel
theorem dX3_threatened_12 : decode cX3_threatened 12 = .ok (.iload_n 1, 1) := by decide +kernel
theorem dX3_threatened_13 : decode cX3_threatened 13 = .ok (.iload 4, 2) := by decide +kernel
theorem dX3_threatened_15 : decode cX3_threatened 15 = .ok (.invokestatic 53, 3) := by decide +kernel
theorem dX3_threatened_18 : decode cX3_threatened 18 = .ok (.ifCond .eq 13, 3) := by decide +kernel
theorem dX3_threatened_21 : decode cX3_threatened 21 = .ok (.iload_n 3, 1) := by decide +kernel
theorem dX3_threatened_22 : decode cX3_threatened 22 = .ok (.aload_n 0, 1) := by decide +kernel
theorem dX3_threatened_23 : decode cX3_threatened 23 = .ok (.getfield 18, 3) := by decide +kernel
theorem dX3_threatened_26 : decode cX3_threatened 26 = .ok (.iload 4, 2) := by decide +kernel
theorem dX3_threatened_28 : decode cX3_threatened 28 = .ok (.iaload, 1) := by decide +kernel
theorem dX3_threatened_29 : decode cX3_threatened 29 = .ok (.ior, 1) := by decide +kernel
theorem dX3_threatened_30 : decode cX3_threatened 30 = .ok (.istore_n 3, 1) := by decide +kernel
theorem dX3_threatened_31 : decode cX3_threatened 31 = .ok (.iinc 4 1, 3) := by decide +kernel
theorem dX3_threatened_34 : decode cX3_threatened 34 = .ok (.goto (-29), 3) := by decide +kernel
theorem dX3_threatened_37 : decode cX3_threatened 37 = .ok (.iload_n 3, 1) := by decide +kernel
theorem dX3_threatened_38 : decode cX3_threatened 38 = .ok (.iload_n 1, 1) := by decide +kernel
theorem dX3_threatened_39 : decode cX3_threatened 39 = .ok (.iconst (-1), 1) := by decide +kernel
theorem dX3_threatened_40 : decode cX3_threatened 40 = .ok (.ixor, 1) := by decide +kernel
theorem dX3_threatened_41 : decode cX3_threatened 41 = .ok (.iand, 1) := by decide +kernel
theorem dX3_threatened_42 : decode cX3_threatened 42 = .ok (.iload_n 2, 1) := by decide +kernel
theorem dX3_threatened_43 : decode cX3_threatened 43 = .ok (.iconst (-1), 1) := by decide +kernel
theorem dX3_threatened_44 : decode cX3_threatened 44 = .ok (.ixor, 1) := by decide +kernel
theorem dX3_threatened_45 : decode cX3_threatened 45 = .ok (.iand, 1) := by decide +kernel
theorem dX3_threatened_46 : decode cX3_threatened 46 = .ok (.ireturn, 1) := by decide +kernel
set_option maxRecDepth 20000 in
theorem ggX3_isLawful_X3_all : GoodIn wsX3_isLawful wsX3_all := goodIn_r _ [5, 6, 15, 16, 17, 18, 19, 20] (by decide +kernel) (by decide +kernel)
set_option maxRecDepth 20000 in
theorem gX3_isLawful_X3_all : GoodIn wsX3_isLawful (wsV RX3 45 RX3 yX3_all wsX3_all) := goodIn_app (goodIn_of _ (by decide +kernel)) ggX3_isLawful_X3_all
set_option maxRecDepth 20000 in
theorem ggX3_isLawful_X3_priceOf : GoodIn wsX3_isLawful wsX3_priceOf := goodIn_r _ [10, 11, 12, 13, 4, 14, 15, 16, 17, 18, 19, 20] (by decide +kernel) (by decide +kernel)
set_option maxRecDepth 20000 in
theorem gX3_isLawful_X3_priceOf : GoodIn wsX3_isLawful (wsV RX3 68 RX3 yX3_priceOf wsX3_priceOf) := goodIn_app (goodIn_of _ (by decide +kernel)) ggX3_isLawful_X3_priceOf
theorem dX3_isLawful_0 : decode cX3_isLawful 0 = .ok (.aload_n 0, 1) := by decide +kernel
theorem dX3_isLawful_1 : decode cX3_isLawful 1 = .ok (.invokevirtual 45, 3) := by decide +kernel
theorem dX3_isLawful_4 : decode cX3_isLawful 4 = .ok (.iload_n 2, 1) := by decide +kernel
theorem dX3_isLawful_5 : decode cX3_isLawful 5 = .ok (.iconst (-1), 1) := by decide +kernel
theorem dX3_isLawful_6 : decode cX3_isLawful 6 = .ok (.ixor, 1) := by decide +kernel
theorem dX3_isLawful_7 : decode cX3_isLawful 7 = .ok (.iand, 1) := by decide +kernel
theorem dX3_isLawful_8 : decode cX3_isLawful 8 = .ok (.iload_n 3, 1) := by decide +kernel
theorem dX3_isLawful_9 : decode cX3_isLawful 9 = .ok (.iconst (-1), 1) := by decide +kernel
theorem dX3_isLawful_10 : decode cX3_isLawful 10 = .ok (.ixor, 1) := by decide +kernel
theorem dX3_isLawful_11 : decode cX3_isLawful 11 = .ok (.iand, 1) := by decide +kernel
theorem dX3_isLawful_12 : decode cX3_isLawful 12 = .ok (.istore 5, 2) := by decide +kernel
theorem dX3_isLawful_14 : decode cX3_isLawful 14 = .ok (.iload_n 1, 1) := by decide +kernel
theorem dX3_isLawful_15 : decode cX3_isLawful 15 = .ok (.iload 5, 2) := by decide +kernel
theorem dX3_isLawful_17 : decode cX3_isLawful 17 = .ok (.iconst (-1), 1) := by decide +kernel
theorem dX3_isLawful_18 : decode cX3_isLawful 18 = .ok (.ixor, 1) := by decide +kernel
theorem dX3_isLawful_19 : decode cX3_isLawful 19 = .ok (.iand, 1) := by decide +kernel
theorem dX3_isLawful_20 : decode cX3_isLawful 20 = .ok (.ifCond .ne 17, 3) := by decide +kernel
theorem dX3_isLawful_23 : decode cX3_isLawful 23 = .ok (.aload_n 0, 1) := by decide +kernel
theorem dX3_isLawful_24 : decode cX3_isLawful 24 = .ok (.iload_n 1, 1) := by decide +kernel
theorem dX3_isLawful_25 : decode cX3_isLawful 25 = .ok (.invokevirtual 68, 3) := by decide +kernel
theorem dX3_isLawful_28 : decode cX3_isLawful 28 = .ok (.iload 4, 2) := by decide +kernel
theorem dX3_isLawful_30 : decode cX3_isLawful 30 = .ok (.if_icmp .gt 7, 3) := by decide +kernel
theorem dX3_isLawful_33 : decode cX3_isLawful 33 = .ok (.iconst 1, 1) := by decide +kernel
theorem dX3_isLawful_34 : decode cX3_isLawful 34 = .ok (.goto 4, 3) := by decide +kernel
theorem dX3_isLawful_37 : decode cX3_isLawful 37 = .ok (.iconst 0, 1) := by decide +kernel
theorem dX3_isLawful_38 : decode cX3_isLawful 38 = .ok (.ireturn, 1) := by decide +kernel
set_option maxRecDepth 20000 in
theorem ggX3_pick_X3_threatened : GoodIn wsX3_pick wsX3_threatened := goodIn_r _ [6, 7, 8, 9, 10, 23, 24, 25, 26, 27, 28] (by decide +kernel) (by decide +kernel)
set_option maxRecDepth 20000 in
theorem gX3_pick_X3_threatened : GoodIn wsX3_pick (wsV RX3 71 RX3 yX3_threatened wsX3_threatened) := goodIn_app (goodIn_of _ (by decide +kernel)) ggX3_pick_X3_threatened
set_option maxRecDepth 20000 in
theorem ggX3_pick_X6_holds : GoodIn wsX3_pick wsX6_holds := goodIn_r _ [10] (by decide +kernel) (by decide +kernel)
set_option maxRecDepth 20000 in
theorem gX3_pick_X6_holds_n53 : GoodIn wsX3_pick (wsX6_holds) := ggX3_pick_X6_holds
set_option maxRecDepth 20000 in
theorem ggX3_pick_X3_rankOf : GoodIn wsX3_pick wsX3_rankOf := goodIn_r _ [14, 15, 7, 16, 17, 18, 19, 20, 21, 22, 23, 24, 25, 26, 27, 28] (by decide +kernel) (by decide +kernel)
set_option maxRecDepth 20000 in
theorem gX3_pick_X3_rankOf : GoodIn wsX3_pick (wsV RX3 75 RX3 yX3_rankOf wsX3_rankOf) := goodIn_app (goodIn_of _ (by decide +kernel)) ggX3_pick_X3_rankOf
theorem dX3_pick_0 : decode cX3_pick 0 = .ok (.aload_n 0, 1) := by decide +kernel
theorem dX3_pick_1 : decode cX3_pick 1 = .ok (.iload_n 2, 1) := by decide +kernel
theorem dX3_pick_2 : decode cX3_pick 2 = .ok (.iload_n 3, 1) := by decide +kernel
theorem dX3_pick_3 : decode cX3_pick 3 = .ok (.invokevirtual 71, 3) := by decide +kernel
theorem dX3_pick_6 : decode cX3_pick 6 = .ok (.istore 5, 2) := by decide +kernel
theorem dX3_pick_8 : decode cX3_pick 8 = .ok (.iconst (-1), 1) := by decide +kernel
theorem dX3_pick_9 : decode cX3_pick 9 = .ok (.istore 6, 2) := by decide +kernel
theorem dX3_pick_11 : decode cX3_pick 11 = .ok (.iconst (-1), 1) := by decide +kernel
theorem dX3_pick_12 : decode cX3_pick 12 = .ok (.istore 7, 2) := by decide +kernel
theorem dX3_pick_14 : decode cX3_pick 14 = .ok (.iconst 0, 1) := by decide +kernel
theorem dX3_pick_15 : decode cX3_pick 15 = .ok (.istore 8, 2) := by decide +kernel
theorem dX3_pick_17 : decode cX3_pick 17 = .ok (.iload 8, 2) := by decide +kernel
theorem dX3_pick_19 : decode cX3_pick 19 = .ok (.bipush 10, 2) := by decide +kernel
theorem dX3_pick_21 : decode cX3_pick 21 = .ok (.if_icmp .ge 61, 3) := by decide +kernel
theorem dX3_pick_24 : decode cX3_pick 24 = .ok (.iload 5, 2) := by decide +kernel
theorem dX3_pick_26 : decode cX3_pick 26 = .ok (.iload 8, 2) := by decide +kernel
theorem dX3_pick_28 : decode cX3_pick 28 = .ok (.invokestatic 53, 3) := by decide +kernel
theorem dX3_pick_31 : decode cX3_pick 31 = .ok (.ifCond .eq 45, 3) := by decide +kernel
theorem dX3_pick_34 : decode cX3_pick 34 = .ok (.aload_n 0, 1) := by decide +kernel
theorem dX3_pick_35 : decode cX3_pick 35 = .ok (.getfield 15, 3) := by decide +kernel
theorem dX3_pick_38 : decode cX3_pick 38 = .ok (.iload 8, 2) := by decide +kernel
theorem dX3_pick_40 : decode cX3_pick 40 = .ok (.iaload, 1) := by decide +kernel
theorem dX3_pick_41 : decode cX3_pick 41 = .ok (.iload 4, 2) := by decide +kernel
theorem dX3_pick_43 : decode cX3_pick 43 = .ok (.if_icmp .le 6, 3) := by decide +kernel
theorem dX3_pick_46 : decode cX3_pick 46 = .ok (.goto 30, 3) := by decide +kernel
theorem dX3_pick_49 : decode cX3_pick 49 = .ok (.aload_n 0, 1) := by decide +kernel
theorem dX3_pick_50 : decode cX3_pick 50 = .ok (.iload 8, 2) := by decide +kernel
theorem dX3_pick_52 : decode cX3_pick 52 = .ok (.iload_n 1, 1) := by decide +kernel
theorem dX3_pick_53 : decode cX3_pick 53 = .ok (.iload_n 2, 1) := by decide +kernel
theorem dX3_pick_54 : decode cX3_pick 54 = .ok (.iload_n 3, 1) := by decide +kernel
theorem dX3_pick_55 : decode cX3_pick 55 = .ok (.ior, 1) := by decide +kernel
theorem dX3_pick_56 : decode cX3_pick 56 = .ok (.invokevirtual 75, 3) := by decide +kernel
theorem dX3_pick_59 : decode cX3_pick 59 = .ok (.istore 9, 2) := by decide +kernel
theorem dX3_pick_61 : decode cX3_pick 61 = .ok (.iload 9, 2) := by decide +kernel
theorem dX3_pick_63 : decode cX3_pick 63 = .ok (.iload 7, 2) := by decide +kernel
theorem dX3_pick_65 : decode cX3_pick 65 = .ok (.if_icmp .le 11, 3) := by decide +kernel
theorem dX3_pick_68 : decode cX3_pick 68 = .ok (.iload 8, 2) := by decide +kernel
theorem dX3_pick_70 : decode cX3_pick 70 = .ok (.istore 6, 2) := by decide +kernel
theorem dX3_pick_72 : decode cX3_pick 72 = .ok (.iload 9, 2) := by decide +kernel
theorem dX3_pick_74 : decode cX3_pick 74 = .ok (.istore 7, 2) := by decide +kernel
theorem dX3_pick_76 : decode cX3_pick 76 = .ok (.iinc 8 1, 3) := by decide +kernel
theorem dX3_pick_79 : decode cX3_pick 79 = .ok (.goto (-62), 3) := by decide +kernel
theorem dX3_pick_82 : decode cX3_pick 82 = .ok (.iload 6, 2) := by decide +kernel
theorem dX3_pick_84 : decode cX3_pick 84 = .ok (.ireturn, 1) := by decide +kernel
set_option maxRecDepth 20000 in
theorem ggX3_rankOf_J6_bitCount_0f7a4 : GoodIn wsX3_rankOf wsJ6_bitCount_0f7a4 := goodIn_r _ [6, 7, 8, 9] (by decide +kernel) (by decide +kernel)
set_option maxRecDepth 20000 in
theorem gX3_rankOf_J6_bitCount_0f7a4 : GoodIn wsX3_rankOf (va_wsS RX3 79 yJ6_bitCount_0f7a4 wsJ6_bitCount_0f7a4) := goodIn_app (goodIn_of _ (by decide +kernel)) ggX3_rankOf_J6_bitCount_0f7a4
theorem dX3_rankOf_0 : decode cX3_rankOf 0 = .ok (.iload_n 1, 1) := by decide +kernel
theorem dX3_rankOf_1 : decode cX3_rankOf 1 = .ok (.ifCond .lt 9, 3) := by decide +kernel
theorem dX3_rankOf_4 : decode cX3_rankOf 4 = .ok (.iload_n 1, 1) := by decide +kernel
theorem dX3_rankOf_5 : decode cX3_rankOf 5 = .ok (.bipush 10, 2) := by decide +kernel
theorem dX3_rankOf_7 : decode cX3_rankOf 7 = .ok (.if_icmp .lt 5, 3) := by decide +kernel
theorem dX3_rankOf_10 : decode cX3_rankOf 10 = .ok (.iconst (-1), 1) := by decide +kernel
theorem dX3_rankOf_11 : decode cX3_rankOf 11 = .ok (.ireturn, 1) := by decide +kernel
theorem dX3_rankOf_12 : decode cX3_rankOf 12 = .ok (.iload_n 2, 1) := by decide +kernel
theorem dX3_rankOf_13 : decode cX3_rankOf 13 = .ok (.lookupswitch 48 #[(1, 27), (2, 34)], 27) := by decide +kernel
theorem dX3_rankOf_40 : decode cX3_rankOf 40 = .ok (.aload_n 0, 1) := by decide +kernel
theorem dX3_rankOf_41 : decode cX3_rankOf 41 = .ok (.getfield 9, 3) := by decide +kernel
theorem dX3_rankOf_44 : decode cX3_rankOf 44 = .ok (.iload_n 1, 1) := by decide +kernel
theorem dX3_rankOf_45 : decode cX3_rankOf 45 = .ok (.iaload, 1) := by decide +kernel
theorem dX3_rankOf_46 : decode cX3_rankOf 46 = .ok (.ireturn, 1) := by decide +kernel
theorem dX3_rankOf_47 : decode cX3_rankOf 47 = .ok (.aload_n 0, 1) := by decide +kernel
theorem dX3_rankOf_48 : decode cX3_rankOf 48 = .ok (.getfield 18, 3) := by decide +kernel
theorem dX3_rankOf_51 : decode cX3_rankOf 51 = .ok (.iload_n 1, 1) := by decide +kernel
theorem dX3_rankOf_52 : decode cX3_rankOf 52 = .ok (.iaload, 1) := by decide +kernel
theorem dX3_rankOf_53 : decode cX3_rankOf 53 = .ok (.iload_n 3, 1) := by decide +kernel
theorem dX3_rankOf_54 : decode cX3_rankOf 54 = .ok (.iconst (-1), 1) := by decide +kernel
theorem dX3_rankOf_55 : decode cX3_rankOf 55 = .ok (.ixor, 1) := by decide +kernel
theorem dX3_rankOf_56 : decode cX3_rankOf 56 = .ok (.iand, 1) := by decide +kernel
theorem dX3_rankOf_57 : decode cX3_rankOf 57 = .ok (.invokestatic 79, 3) := by decide +kernel
theorem dX3_rankOf_60 : decode cX3_rankOf 60 = .ok (.ireturn, 1) := by decide +kernel
theorem dX3_rankOf_61 : decode cX3_rankOf 61 = .ok (.iconst 0, 1) := by decide +kernel
theorem dX3_rankOf_62 : decode cX3_rankOf 62 = .ok (.ireturn, 1) := by decide +kernel
set_option maxRecDepth 20000 in
theorem ggX4_init_J7_fill_53178 : GoodIn wsX4_init wsJ7_fill_53178 := goodIn_r _ [9] (by decide +kernel) (by decide +kernel)
set_option maxRecDepth 20000 in
theorem gX4_init_J7_fill_53178 : GoodIn wsX4_init (va_wsS RX4 15 yJ7_fill_53178 wsJ7_fill_53178) := goodIn_app (goodIn_of _ (by decide +kernel)) ggX4_init_J7_fill_53178
theorem dX4_init_0 : decode cX4_init 0 = .ok (.aload_n 0, 1) := by decide +kernel
theorem dX4_init_1 : decode cX4_init 1 = .ok (.invokespecial 3, 3) := by decide +kernel
theorem dX4_init_4 : decode cX4_init 4 = .ok (.aload_n 0, 1) := by decide +kernel
theorem dX4_init_5 : decode cX4_init 5 = .ok (.bipush 8, 2) := by decide +kernel
theorem dX4_init_7 : decode cX4_init 7 = .ok (.newarray .int, 2) := by decide +kernel
theorem dX4_init_9 : decode cX4_init 9 = .ok (.putfield 9, 3) := by decide +kernel
theorem dX4_init_12 : decode cX4_init 12 = .ok (.aload_n 0, 1) := by decide +kernel
theorem dX4_init_13 : decode cX4_init 13 = .ok (.getfield 9, 3) := by decide +kernel
theorem dX4_init_16 : decode cX4_init 16 = .ok (.iconst 1, 1) := by decide +kernel
theorem dX4_init_17 : decode cX4_init 17 = .ok (.invokestatic 15, 3) := by decide +kernel
theorem dX4_init_20 : decode cX4_init 20 = .ok (.return_, 1) := by decide +kernel
theorem dX4_copy_0 : decode cX4_copy 0 = .ok (.aload_n 1, 1) := by decide +kernel
theorem dX4_copy_1 : decode cX4_copy 1 = .ok (.getfield 9, 3) := by decide +kernel
theorem dX4_copy_4 : decode cX4_copy 4 = .ok (.iconst 0, 1) := by decide +kernel
theorem dX4_copy_5 : decode cX4_copy 5 = .ok (.aload_n 0, 1) := by decide +kernel
theorem dX4_copy_6 : decode cX4_copy 6 = .ok (.getfield 9, 3) := by decide +kernel
theorem dX4_copy_9 : decode cX4_copy 9 = .ok (.iconst 0, 1) := by decide +kernel
theorem dX4_copy_10 : decode cX4_copy 10 = .ok (.bipush 8, 2) := by decide +kernel
theorem dX4_copy_12 : decode cX4_copy 12 = .ok (.invokestatic 21, 3) := by decide +kernel
theorem dX4_copy_15 : decode cX4_copy 15 = .ok (.aload_n 0, 1) := by decide +kernel
theorem dX4_copy_16 : decode cX4_copy 16 = .ok (.aload_n 1, 1) := by decide +kernel
theorem dX4_copy_17 : decode cX4_copy 17 = .ok (.getfield 27, 3) := by decide +kernel
theorem dX4_copy_20 : decode cX4_copy 20 = .ok (.putfield 27, 3) := by decide +kernel
theorem dX4_copy_23 : decode cX4_copy 23 = .ok (.return_, 1) := by decide +kernel
theorem dX4_money_0 : decode cX4_money 0 = .ok (.iconst 0, 1) := by decide +kernel
theorem dX4_money_1 : decode cX4_money 1 = .ok (.iload_n 1, 1) := by decide +kernel
theorem dX4_money_2 : decode cX4_money 2 = .ok (.bipush 8, 2) := by decide +kernel
theorem dX4_money_4 : decode cX4_money 4 = .ok (.invokestatic 31, 3) := by decide +kernel
theorem dX4_money_7 : decode cX4_money 7 = .ok (.iconst 1, 1) := by decide +kernel
theorem dX4_money_8 : decode cX4_money 8 = .ok (.isub, 1) := by decide +kernel
theorem dX4_money_9 : decode cX4_money 9 = .ok (.invokestatic 37, 3) := by decide +kernel
theorem dX4_money_12 : decode cX4_money 12 = .ok (.istore_n 3, 1) := by decide +kernel
theorem dX4_money_13 : decode cX4_money 13 = .ok (.aload_n 0, 1) := by decide +kernel
theorem dX4_money_14 : decode cX4_money 14 = .ok (.getfield 9, 3) := by decide +kernel
theorem dX4_money_17 : decode cX4_money 17 = .ok (.iload_n 3, 1) := by decide +kernel
theorem dX4_money_18 : decode cX4_money 18 = .ok (.iaload, 1) := by decide +kernel
theorem dX4_money_19 : decode cX4_money 19 = .ok (.aload_n 0, 1) := by decide +kernel
theorem dX4_money_20 : decode cX4_money 20 = .ok (.getfield 27, 3) := by decide +kernel
theorem dX4_money_23 : decode cX4_money 23 = .ok (.iconst 1, 1) := by decide +kernel
theorem dX4_money_24 : decode cX4_money 24 = .ok (.if_icmp .ne 7, 3) := by decide +kernel
theorem dX4_money_27 : decode cX4_money 27 = .ok (.iload_n 2, 1) := by decide +kernel
theorem dX4_money_28 : decode cX4_money 28 = .ok (.goto 4, 3) := by decide +kernel
theorem dX4_money_31 : decode cX4_money 31 = .ok (.iconst 0, 1) := by decide +kernel
theorem dX4_money_32 : decode cX4_money 32 = .ok (.iadd, 1) := by decide +kernel
theorem dX4_money_33 : decode cX4_money 33 = .ok (.ireturn, 1) := by decide +kernel
set_option maxRecDepth 20000 in
theorem ggX5_init_X4_init : GoodIn wsX5_init wsX4_init := goodIn_r _ [13, 14, 2, 3, 8, 15, 16, 17, 18, 19, 20, 21] (by decide +kernel) (by decide +kernel)
set_option maxRecDepth 20000 in
theorem gX5_init_X4_init : GoodIn wsX5_init (wsX4_init) := ggX5_init_X4_init
theorem dX5_init_0 : decode cX5_init 0 = .ok (.aload_n 0, 1) := by decide +kernel
theorem dX5_init_1 : decode cX5_init 1 = .ok (.invokespecial 3, 3) := by decide +kernel
theorem dX5_init_4 : decode cX5_init 4 = .ok (.aload_n 0, 1) := by decide +kernel
theorem dX5_init_5 : decode cX5_init 5 = .ok (.new 9, 3) := by decide +kernel
theorem dX5_init_8 : decode cX5_init 8 = .ok (.dup, 1) := by decide +kernel
theorem dX5_init_9 : decode cX5_init 9 = .ok (.invokespecial 11, 3) := by decide +kernel
theorem dX5_init_12 : decode cX5_init 12 = .ok (.putfield 12, 3) := by decide +kernel
theorem dX5_init_15 : decode cX5_init 15 = .ok (.aload_n 0, 1) := by decide +kernel
theorem dX5_init_16 : decode cX5_init 16 = .ok (.bipush 8, 2) := by decide +kernel
theorem dX5_init_18 : decode cX5_init 18 = .ok (.newarray .int, 2) := by decide +kernel
theorem dX5_init_20 : decode cX5_init 20 = .ok (.putfield 18, 3) := by decide +kernel
theorem dX5_init_23 : decode cX5_init 23 = .ok (.aload_n 0, 1) := by decide +kernel
theorem dX5_init_24 : decode cX5_init 24 = .ok (.bipush 8, 2) := by decide +kernel
theorem dX5_init_26 : decode cX5_init 26 = .ok (.newarray .int, 2) := by decide +kernel
theorem dX5_init_28 : decode cX5_init 28 = .ok (.putfield 22, 3) := by decide +kernel
theorem dX5_init_31 : decode cX5_init 31 = .ok (.return_, 1) := by decide +kernel
set_option maxRecDepth 20000 in
theorem ggX5_chosen_X6_within : GoodIn wsX5_chosen wsX6_within := goodIn_r _ [4] (by decide +kernel) (by decide +kernel)
set_option maxRecDepth 20000 in
theorem gX5_chosen_X6_within_n25 : GoodIn wsX5_chosen (wsX6_within) := ggX5_chosen_X6_within
theorem dX5_chosen_0 : decode cX5_chosen 0 = .ok (.iload_n 1, 1) := by decide +kernel
theorem dX5_chosen_1 : decode cX5_chosen 1 = .ok (.iconst 1, 1) := by decide +kernel
theorem dX5_chosen_2 : decode cX5_chosen 2 = .ok (.bipush 8, 2) := by decide +kernel
theorem dX5_chosen_4 : decode cX5_chosen 4 = .ok (.invokestatic 25, 3) := by decide +kernel
theorem dX5_chosen_7 : decode cX5_chosen 7 = .ok (.ifCond .eq 14, 3) := by decide +kernel
theorem dX5_chosen_10 : decode cX5_chosen 10 = .ok (.aload_n 0, 1) := by decide +kernel
theorem dX5_chosen_11 : decode cX5_chosen 11 = .ok (.getfield 22, 3) := by decide +kernel
theorem dX5_chosen_14 : decode cX5_chosen 14 = .ok (.iload_n 1, 1) := by decide +kernel
theorem dX5_chosen_15 : decode cX5_chosen 15 = .ok (.iconst 1, 1) := by decide +kernel
theorem dX5_chosen_16 : decode cX5_chosen 16 = .ok (.isub, 1) := by decide +kernel
theorem dX5_chosen_17 : decode cX5_chosen 17 = .ok (.iaload, 1) := by decide +kernel
theorem dX5_chosen_18 : decode cX5_chosen 18 = .ok (.goto 4, 3) := by decide +kernel
theorem dX5_chosen_21 : decode cX5_chosen 21 = .ok (.iconst 0, 1) := by decide +kernel
theorem dX5_chosen_22 : decode cX5_chosen 22 = .ok (.ireturn, 1) := by decide +kernel
set_option maxRecDepth 20000 in
theorem ggX5_run_X4_money : GoodIn wsX5_run wsX4_money := goodIn_r _ [10, 11, 12, 13, 14, 15, 16, 17, 18, 19, 84, 85] (by decide +kernel) (by decide +kernel)
set_option maxRecDepth 20000 in
theorem gX5_run_X4_money : GoodIn wsX5_run (wsV RX5 43 RX4 yX4_money wsX4_money) := goodIn_app (goodIn_of _ (by decide +kernel)) ggX5_run_X4_money
set_option maxRecDepth 20000 in
theorem ggX5_run_X5_seek : GoodIn wsX5_run wsX5_seek := goodIn_r _ [24, 3, 25, 26, 27, 28, 29, 30, 31, 32, 33, 34, 35, 36, 37, 38, 39, 40, 41, 23, 42, 43, 44, 45, 46, 47, 48, 2, 1, 49, 5, 50, 51, 52, 53, 54, 55, 56, 57, 58, 59, 6, 7, 8, 9, 10, 11, 12, 13, 14, 15, 16, 17, 18, 19, 20, 21, 22, 60, 61, 62, 63, 4, 64, 65, 66, 67, 68, 69, 70, 71, 72, 73, 74, 75, 76, 77, 78, 79, 80, 81, 82, 83, 86, 87, 88, 89, 90, 91, 84, 85] (by decide +kernel) (by decide +kernel)
set_option maxRecDepth 20000 in
theorem gX5_run_X5_seek : GoodIn wsX5_run (wsV RX5 47 RX5 yX5_seek wsX5_seek) := goodIn_app (goodIn_of _ (by decide +kernel)) ggX5_run_X5_seek
theorem dX5_run_0 : decode cX5_run 0 = .ok (.aload_n 0, 1) := by decide +kernel
theorem dX5_run_1 : decode cX5_run 1 = .ok (.iload_n 2, 1) := by decide +kernel
theorem dX5_run_2 : decode cX5_run 2 = .ok (.putfield 29, 3) := by decide +kernel
theorem dX5_run_5 : decode cX5_run 5 = .ok (.aload_n 0, 1) := by decide +kernel
theorem dX5_run_6 : decode cX5_run 6 = .ok (.iconst 0, 1) := by decide +kernel
theorem dX5_run_7 : decode cX5_run 7 = .ok (.putfield 33, 3) := by decide +kernel
theorem dX5_run_10 : decode cX5_run 10 = .ok (.aload_n 0, 1) := by decide +kernel
theorem dX5_run_11 : decode cX5_run 11 = .ok (.iconst 0, 1) := by decide +kernel
theorem dX5_run_12 : decode cX5_run 12 = .ok (.putfield 36, 3) := by decide +kernel
theorem dX5_run_15 : decode cX5_run 15 = .ok (.aload_n 0, 1) := by decide +kernel
theorem dX5_run_16 : decode cX5_run 16 = .ok (.iconst (-1), 1) := by decide +kernel
theorem dX5_run_17 : decode cX5_run 17 = .ok (.putfield 40, 3) := by decide +kernel
theorem dX5_run_20 : decode cX5_run 20 = .ok (.aload_n 0, 1) := by decide +kernel
theorem dX5_run_21 : decode cX5_run 21 = .ok (.aload_n 1, 1) := by decide +kernel
theorem dX5_run_22 : decode cX5_run 22 = .ok (.iconst 1, 1) := by decide +kernel
theorem dX5_run_23 : decode cX5_run 23 = .ok (.iload_n 3, 1) := by decide +kernel
theorem dX5_run_24 : decode cX5_run 24 = .ok (.iconst 0, 1) := by decide +kernel
theorem dX5_run_25 : decode cX5_run 25 = .ok (.aload_n 0, 1) := by decide +kernel
theorem dX5_run_26 : decode cX5_run 26 = .ok (.getfield 12, 3) := by decide +kernel
theorem dX5_run_29 : decode cX5_run 29 = .ok (.iconst 1, 1) := by decide +kernel
theorem dX5_run_30 : decode cX5_run 30 = .ok (.iconst 0, 1) := by decide +kernel
theorem dX5_run_31 : decode cX5_run 31 = .ok (.invokevirtual 43, 3) := by decide +kernel
theorem dX5_run_34 : decode cX5_run 34 = .ok (.invokevirtual 47, 3) := by decide +kernel
theorem dX5_run_37 : decode cX5_run 37 = .ok (.return_, 1) := by decide +kernel
set_option maxRecDepth 20000 in
theorem ggX5_seek_X3_all : GoodIn wsX5_seek wsX3_all := goodIn_r _ [6, 7, 83, 84, 85, 86, 87, 88] (by decide +kernel) (by decide +kernel)
set_option maxRecDepth 20000 in
theorem gX5_seek_X3_all : GoodIn wsX5_seek (wsV RX5 51 RX3 yX3_all wsX3_all) := goodIn_app (goodIn_of _ (by decide +kernel)) ggX5_seek_X3_all
set_option maxRecDepth 20000 in
theorem ggX5_seek_X3_priceOf : GoodIn wsX5_seek wsX3_priceOf := goodIn_r _ [11, 12, 13, 14, 5, 15, 83, 84, 85, 86, 87, 88] (by decide +kernel) (by decide +kernel)
set_option maxRecDepth 20000 in
theorem gX5_seek_X3_priceOf : GoodIn wsX5_seek (wsV RX5 57 RX3 yX3_priceOf wsX3_priceOf) := goodIn_app (goodIn_of _ (by decide +kernel)) ggX5_seek_X3_priceOf
set_option maxRecDepth 20000 in
theorem ggX5_seek_X5_look : GoodIn wsX5_seek wsX5_look := goodIn_r _ [26, 27, 28, 1, 29, 30, 31, 32, 33, 34, 35, 36, 5, 37, 38, 39, 40, 41, 42, 43, 44, 45, 46, 47, 48, 49, 50, 51, 52, 53, 54, 55, 56, 57, 19, 58, 59, 60, 61, 62, 63, 64, 65, 66, 67, 68, 69, 3, 4, 6, 7, 70, 71, 72, 73, 74, 13, 14, 15, 0, 2, 8, 9, 10, 11, 12, 16, 17, 18, 20, 21, 22, 23, 24, 25, 75, 76, 77, 78, 79, 80, 81, 82, 83, 84, 85, 86, 87, 88, 89, 90] (by decide +kernel) (by decide +kernel)
set_option maxRecDepth 20000 in
theorem gX5_seek_X5_look : GoodIn wsX5_seek (wsV RX5 61 RX5 yX5_look wsX5_look) := goodIn_app (goodIn_of _ (by decide +kernel)) ggX5_seek_X5_look
set_option maxRecDepth 20000 in
theorem ggX5_seek_X5_lastAbove : GoodIn wsX5_seek wsX5_lastAbove := goodIn_r _ [22] (by decide +kernel) (by decide +kernel)
set_option maxRecDepth 20000 in
theorem gX5_seek_X5_lastAbove : GoodIn wsX5_seek (va_wsS RX5 65 yX5_lastAbove wsX5_lastAbove) := goodIn_app (goodIn_of _ (by decide +kernel)) ggX5_seek_X5_lastAbove
set_option maxRecDepth 20000 in
theorem ggX5_seek_X5_nextWithin : GoodIn wsX5_seek wsX5_nextWithin := goodIn_r _ [25] (by decide +kernel) (by decide +kernel)
set_option maxRecDepth 20000 in
theorem gX5_seek_X5_nextWithin : GoodIn wsX5_seek (va_wsS RX5 68 yX5_nextWithin wsX5_nextWithin) := goodIn_app (goodIn_of _ (by decide +kernel)) ggX5_seek_X5_nextWithin
theorem dX5_seek_0 : decode cX5_seek 0 = .ok (.aload_n 1, 1) := by decide +kernel
theorem dX5_seek_1 : decode cX5_seek 1 = .ok (.invokevirtual 51, 3) := by decide +kernel
theorem dX5_seek_4 : decode cX5_seek 4 = .ok (.iload_n 3, 1) := by decide +kernel
theorem dX5_seek_5 : decode cX5_seek 5 = .ok (.iconst (-1), 1) := by decide +kernel
theorem dX5_seek_6 : decode cX5_seek 6 = .ok (.ixor, 1) := by decide +kernel
theorem dX5_seek_7 : decode cX5_seek 7 = .ok (.iand, 1) := by decide +kernel
theorem dX5_seek_8 : decode cX5_seek 8 = .ok (.iload 4, 2) := by decide +kernel
theorem dX5_seek_10 : decode cX5_seek 10 = .ok (.iconst (-1), 1) := by decide +kernel
theorem dX5_seek_11 : decode cX5_seek 11 = .ok (.ixor, 1) := by decide +kernel
theorem dX5_seek_12 : decode cX5_seek 12 = .ok (.iand, 1) := by decide +kernel
theorem dX5_seek_13 : decode cX5_seek 13 = .ok (.istore 6, 2) := by decide +kernel
theorem dX5_seek_15 : decode cX5_seek 15 = .ok (.iconst 0, 1) := by decide +kernel
theorem dX5_seek_16 : decode cX5_seek 16 = .ok (.istore 7, 2) := by decide +kernel
theorem dX5_seek_18 : decode cX5_seek 18 = .ok (.iconst 0, 1) := by decide +kernel
theorem dX5_seek_19 : decode cX5_seek 19 = .ok (.istore 8, 2) := by decide +kernel
theorem dX5_seek_21 : decode cX5_seek 21 = .ok (.iload 8, 2) := by decide +kernel
theorem dX5_seek_23 : decode cX5_seek 23 = .ok (.sipush 1023, 3) := by decide +kernel
theorem dX5_seek_26 : decode cX5_seek 26 = .ok (.if_icmp .gt 73, 3) := by decide +kernel
theorem dX5_seek_29 : decode cX5_seek 29 = .ok (.aload_n 0, 1) := by decide +kernel
theorem dX5_seek_30 : decode cX5_seek 30 = .ok (.getfield 36, 3) := by decide +kernel
theorem dX5_seek_33 : decode cX5_seek 33 = .ok (.ifCond .ne 66, 3) := by decide +kernel
theorem dX5_seek_36 : decode cX5_seek 36 = .ok (.iload 5, 2) := by decide +kernel
theorem dX5_seek_38 : decode cX5_seek 38 = .ok (.aload_n 1, 1) := by decide +kernel
theorem dX5_seek_39 : decode cX5_seek 39 = .ok (.iload 7, 2) := by decide +kernel
theorem dX5_seek_41 : decode cX5_seek 41 = .ok (.invokevirtual 57, 3) := by decide +kernel
theorem dX5_seek_44 : decode cX5_seek 44 = .ok (.isub, 1) := by decide +kernel
theorem dX5_seek_45 : decode cX5_seek 45 = .ok (.istore 9, 2) := by decide +kernel
theorem dX5_seek_47 : decode cX5_seek 47 = .ok (.iload 9, 2) := by decide +kernel
theorem dX5_seek_49 : decode cX5_seek 49 = .ok (.ifCond .lt 16, 3) := by decide +kernel
theorem dX5_seek_52 : decode cX5_seek 52 = .ok (.aload_n 0, 1) := by decide +kernel
theorem dX5_seek_53 : decode cX5_seek 53 = .ok (.aload_n 1, 1) := by decide +kernel
theorem dX5_seek_54 : decode cX5_seek 54 = .ok (.iload_n 2, 1) := by decide +kernel
theorem dX5_seek_55 : decode cX5_seek 55 = .ok (.iload_n 3, 1) := by decide +kernel
theorem dX5_seek_56 : decode cX5_seek 56 = .ok (.iload 4, 2) := by decide +kernel
theorem dX5_seek_58 : decode cX5_seek 58 = .ok (.iload 7, 2) := by decide +kernel
theorem dX5_seek_60 : decode cX5_seek 60 = .ok (.iload 9, 2) := by decide +kernel
theorem dX5_seek_62 : decode cX5_seek 62 = .ok (.invokevirtual 61, 3) := by decide +kernel
theorem dX5_seek_65 : decode cX5_seek 65 = .ok (.iload 6, 2) := by decide +kernel
theorem dX5_seek_67 : decode cX5_seek 67 = .ok (.iload 9, 2) := by decide +kernel
theorem dX5_seek_69 : decode cX5_seek 69 = .ok (.ifCond .lt 8, 3) := by decide +kernel
theorem dX5_seek_72 : decode cX5_seek 72 = .ok (.iload 7, 2) := by decide +kernel
theorem dX5_seek_74 : decode cX5_seek 74 = .ok (.goto 8, 3) := by decide +kernel
theorem dX5_seek_77 : decode cX5_seek 77 = .ok (.iload 7, 2) := by decide +kernel
theorem dX5_seek_79 : decode cX5_seek 79 = .ok (.invokestatic 65, 3) := by decide +kernel
theorem dX5_seek_82 : decode cX5_seek 82 = .ok (.invokestatic 68, 3) := by decide +kernel
theorem dX5_seek_85 : decode cX5_seek 85 = .ok (.istore 7, 2) := by decide +kernel
theorem dX5_seek_87 : decode cX5_seek 87 = .ok (.iload 7, 2) := by decide +kernel
theorem dX5_seek_89 : decode cX5_seek 89 = .ok (.ifCond .ne 4, 3) := by decide +kernel
theorem dX5_seek_92 : decode cX5_seek 92 = .ok (.return_, 1) := by decide +kernel
theorem dX5_seek_93 : decode cX5_seek 93 = .ok (.iinc 8 1, 3) := by decide +kernel
theorem dX5_seek_96 : decode cX5_seek 96 = .ok (.goto (-75), 3) := by decide +kernel
theorem dX5_seek_99 : decode cX5_seek 99 = .ok (.return_, 1) := by decide +kernel
theorem dX5_nextWithin_0 : decode cX5_nextWithin 0 = .ok (.iload_n 1, 1) := by decide +kernel
theorem dX5_nextWithin_1 : decode cX5_nextWithin 1 = .ok (.iload_n 0, 1) := by decide +kernel
theorem dX5_nextWithin_2 : decode cX5_nextWithin 2 = .ok (.iconst (-1), 1) := by decide +kernel
theorem dX5_nextWithin_3 : decode cX5_nextWithin 3 = .ok (.ixor, 1) := by decide +kernel
theorem dX5_nextWithin_4 : decode cX5_nextWithin 4 = .ok (.ior, 1) := by decide +kernel
theorem dX5_nextWithin_5 : decode cX5_nextWithin 5 = .ok (.iconst 1, 1) := by decide +kernel
theorem dX5_nextWithin_6 : decode cX5_nextWithin 6 = .ok (.iadd, 1) := by decide +kernel
theorem dX5_nextWithin_7 : decode cX5_nextWithin 7 = .ok (.iload_n 0, 1) := by decide +kernel
theorem dX5_nextWithin_8 : decode cX5_nextWithin 8 = .ok (.iand, 1) := by decide +kernel
theorem dX5_nextWithin_9 : decode cX5_nextWithin 9 = .ok (.ireturn, 1) := by decide +kernel
theorem dX5_lastAbove_0 : decode cX5_lastAbove 0 = .ok (.iload_n 0, 1) := by decide +kernel
theorem dX5_lastAbove_1 : decode cX5_lastAbove 1 = .ok (.iload_n 0, 1) := by decide +kernel
theorem dX5_lastAbove_2 : decode cX5_lastAbove 2 = .ok (.iload_n 0, 1) := by decide +kernel
theorem dX5_lastAbove_3 : decode cX5_lastAbove 3 = .ok (.ineg, 1) := by decide +kernel
theorem dX5_lastAbove_4 : decode cX5_lastAbove 4 = .ok (.iand, 1) := by decide +kernel
theorem dX5_lastAbove_5 : decode cX5_lastAbove 5 = .ok (.iconst 1, 1) := by decide +kernel
theorem dX5_lastAbove_6 : decode cX5_lastAbove 6 = .ok (.isub, 1) := by decide +kernel
theorem dX5_lastAbove_7 : decode cX5_lastAbove 7 = .ok (.ior, 1) := by decide +kernel
theorem dX5_lastAbove_8 : decode cX5_lastAbove 8 = .ok (.ireturn, 1) := by decide +kernel
set_option maxRecDepth 20000 in
theorem ggX5_look_X6_within : GoodIn wsX5_look wsX6_within := goodIn_r _ [8] (by decide +kernel) (by decide +kernel)
set_option maxRecDepth 20000 in
theorem gX5_look_X6_within_n25 : GoodIn wsX5_look (wsX6_within) := ggX5_look_X6_within
set_option maxRecDepth 20000 in
theorem ggX5_look_X3_threatened : GoodIn wsX5_look wsX3_threatened := goodIn_r _ [13, 14, 15, 7, 16, 83, 84, 85, 86, 87, 88] (by decide +kernel) (by decide +kernel)
set_option maxRecDepth 20000 in
theorem gX5_look_X3_threatened : GoodIn wsX5_look (wsV RX5 71 RX3 yX3_threatened wsX3_threatened) := goodIn_app (goodIn_of _ (by decide +kernel)) ggX5_look_X3_threatened
set_option maxRecDepth 20000 in
theorem ggX5_look_X4_money : GoodIn wsX5_look wsX4_money := goodIn_r _ [21, 22, 23, 24, 25, 26, 27, 28, 29, 30, 89, 90] (by decide +kernel) (by decide +kernel)
set_option maxRecDepth 20000 in
theorem gX5_look_X4_money : GoodIn wsX5_look (wsV RX5 43 RX4 yX4_money wsX4_money) := goodIn_app (goodIn_of _ (by decide +kernel)) ggX5_look_X4_money
set_option maxRecDepth 20000 in
theorem ggX5_look_X5_seek : GoodIn wsX5_look wsX5_seek := goodIn_r _ [59, 3, 60, 47, 48, 12, 49, 50, 61, 62, 63, 64, 65, 56, 57, 58, 66, 67, 68, 34, 69, 70, 71, 72, 73, 74, 0, 1, 2, 4, 5, 6, 7, 8, 9, 10, 11, 13, 14, 15, 16, 17, 18, 19, 20, 21, 22, 23, 24, 25, 26, 27, 28, 29, 30, 31, 32, 33, 35, 36, 37, 38, 39, 40, 41, 42, 43, 44, 45, 46, 51, 52, 53, 54, 55, 75, 76, 77, 78, 79, 80, 81, 82, 83, 84, 85, 86, 87, 88, 89, 90] (by decide +kernel) (by decide +kernel)
set_option maxRecDepth 20000 in
theorem gX5_look_X5_seek : GoodIn wsX5_look (wsV RX5 47 RX5 yX5_seek wsX5_seek) := goodIn_app (goodIn_of _ (by decide +kernel)) ggX5_look_X5_seek
set_option maxRecDepth 20000 in
theorem ggX5_look_X5_judge : GoodIn wsX5_look wsX5_judge := goodIn_r _ [38, 39, 40, 41, 4, 9, 10, 11, 12, 13, 14, 15, 7, 16, 42, 43, 44, 45, 46, 47, 48, 49, 50, 51, 52, 53, 54, 55, 56, 57, 58, 75, 76, 77, 78, 79, 80, 81, 82, 83, 84, 85, 86, 87, 88] (by decide +kernel) (by decide +kernel)
set_option maxRecDepth 20000 in
theorem gX5_look_X5_judge : GoodIn wsX5_look (wsV RX5 74 RX5 yX5_judge wsX5_judge) := goodIn_app (goodIn_of _ (by decide +kernel)) ggX5_look_X5_judge
theorem dX5_look_0 : decode cX5_look 0 = .ok (.aload_n 0, 1) := by decide +kernel
theorem dX5_look_1 : decode cX5_look 1 = .ok (.getfield 33, 3) := by decide +kernel
theorem dX5_look_4 : decode cX5_look 4 = .ok (.aload_n 0, 1) := by decide +kernel
theorem dX5_look_5 : decode cX5_look 5 = .ok (.getfield 29, 3) := by decide +kernel
theorem dX5_look_8 : decode cX5_look 8 = .ok (.if_icmp .lt 9, 3) := by decide +kernel
theorem dX5_look_11 : decode cX5_look 11 = .ok (.aload_n 0, 1) := by decide +kernel
theorem dX5_look_12 : decode cX5_look 12 = .ok (.iconst 1, 1) := by decide +kernel
theorem dX5_look_13 : decode cX5_look 13 = .ok (.putfield 36, 3) := by decide +kernel
theorem dX5_look_16 : decode cX5_look 16 = .ok (.return_, 1) := by decide +kernel
theorem dX5_look_17 : decode cX5_look 17 = .ok (.aload_n 0, 1) := by decide +kernel
theorem dX5_look_18 : decode cX5_look 18 = .ok (.dup, 1) := by decide +kernel
theorem dX5_look_19 : decode cX5_look 19 = .ok (.getfield 33, 3) := by decide +kernel
theorem dX5_look_22 : decode cX5_look 22 = .ok (.iconst 1, 1) := by decide +kernel
theorem dX5_look_23 : decode cX5_look 23 = .ok (.iadd, 1) := by decide +kernel
theorem dX5_look_24 : decode cX5_look 24 = .ok (.putfield 33, 3) := by decide +kernel
theorem dX5_look_27 : decode cX5_look 27 = .ok (.iload_n 2, 1) := by decide +kernel
theorem dX5_look_28 : decode cX5_look 28 = .ok (.iconst 1, 1) := by decide +kernel
theorem dX5_look_29 : decode cX5_look 29 = .ok (.bipush 8, 2) := by decide +kernel
theorem dX5_look_31 : decode cX5_look 31 = .ok (.invokestatic 25, 3) := by decide +kernel
theorem dX5_look_34 : decode cX5_look 34 = .ok (.ifCond .ne 4, 3) := by decide +kernel
theorem dX5_look_37 : decode cX5_look 37 = .ok (.return_, 1) := by decide +kernel
theorem dX5_look_38 : decode cX5_look 38 = .ok (.aload_n 0, 1) := by decide +kernel
theorem dX5_look_39 : decode cX5_look 39 = .ok (.getfield 18, 3) := by decide +kernel
theorem dX5_look_42 : decode cX5_look 42 = .ok (.iload_n 2, 1) := by decide +kernel
theorem dX5_look_43 : decode cX5_look 43 = .ok (.iconst 1, 1) := by decide +kernel
theorem dX5_look_44 : decode cX5_look 44 = .ok (.isub, 1) := by decide +kernel
theorem dX5_look_45 : decode cX5_look 45 = .ok (.iload 5, 2) := by decide +kernel
theorem dX5_look_47 : decode cX5_look 47 = .ok (.iastore, 1) := by decide +kernel
theorem dX5_look_48 : decode cX5_look 48 = .ok (.iload 4, 2) := by decide +kernel
theorem dX5_look_50 : decode cX5_look 50 = .ok (.iload 5, 2) := by decide +kernel
theorem dX5_look_52 : decode cX5_look 52 = .ok (.ior, 1) := by decide +kernel
theorem dX5_look_53 : decode cX5_look 53 = .ok (.istore 7, 2) := by decide +kernel
theorem dX5_look_55 : decode cX5_look 55 = .ok (.aload_n 1, 1) := by decide +kernel
theorem dX5_look_56 : decode cX5_look 56 = .ok (.iload_n 3, 1) := by decide +kernel
theorem dX5_look_57 : decode cX5_look 57 = .ok (.iload 7, 2) := by decide +kernel
theorem dX5_look_59 : decode cX5_look 59 = .ok (.invokevirtual 71, 3) := by decide +kernel
theorem dX5_look_62 : decode cX5_look 62 = .ok (.istore 8, 2) := by decide +kernel
theorem dX5_look_64 : decode cX5_look 64 = .ok (.iload 8, 2) := by decide +kernel
theorem dX5_look_66 : decode cX5_look 66 = .ok (.ifCond .eq 38, 3) := by decide +kernel
theorem dX5_look_69 : decode cX5_look 69 = .ok (.iload_n 2, 1) := by decide +kernel
theorem dX5_look_70 : decode cX5_look 70 = .ok (.bipush 8, 2) := by decide +kernel
theorem dX5_look_72 : decode cX5_look 72 = .ok (.if_icmp .ge 32, 3) := by decide +kernel
theorem dX5_look_75 : decode cX5_look 75 = .ok (.aload_n 0, 1) := by decide +kernel
theorem dX5_look_76 : decode cX5_look 76 = .ok (.aload_n 1, 1) := by decide +kernel
theorem dX5_look_77 : decode cX5_look 77 = .ok (.iload_n 2, 1) := by decide +kernel
theorem dX5_look_78 : decode cX5_look 78 = .ok (.iconst 1, 1) := by decide +kernel
theorem dX5_look_79 : decode cX5_look 79 = .ok (.iadd, 1) := by decide +kernel
theorem dX5_look_80 : decode cX5_look 80 = .ok (.iload_n 3, 1) := by decide +kernel
theorem dX5_look_81 : decode cX5_look 81 = .ok (.iload 8, 2) := by decide +kernel
theorem dX5_look_83 : decode cX5_look 83 = .ok (.ior, 1) := by decide +kernel
theorem dX5_look_84 : decode cX5_look 84 = .ok (.iload 7, 2) := by decide +kernel
theorem dX5_look_86 : decode cX5_look 86 = .ok (.aload_n 0, 1) := by decide +kernel
theorem dX5_look_87 : decode cX5_look 87 = .ok (.getfield 12, 3) := by decide +kernel
theorem dX5_look_90 : decode cX5_look 90 = .ok (.iload_n 2, 1) := by decide +kernel
theorem dX5_look_91 : decode cX5_look 91 = .ok (.iconst 1, 1) := by decide +kernel
theorem dX5_look_92 : decode cX5_look 92 = .ok (.iadd, 1) := by decide +kernel
theorem dX5_look_93 : decode cX5_look 93 = .ok (.iload 6, 2) := by decide +kernel
theorem dX5_look_95 : decode cX5_look 95 = .ok (.invokevirtual 43, 3) := by decide +kernel
theorem dX5_look_98 : decode cX5_look 98 = .ok (.invokevirtual 47, 3) := by decide +kernel
theorem dX5_look_101 : decode cX5_look 101 = .ok (.goto 12, 3) := by decide +kernel
theorem dX5_look_104 : decode cX5_look 104 = .ok (.aload_n 0, 1) := by decide +kernel
theorem dX5_look_105 : decode cX5_look 105 = .ok (.aload_n 1, 1) := by decide +kernel
theorem dX5_look_106 : decode cX5_look 106 = .ok (.iload_n 2, 1) := by decide +kernel
theorem dX5_look_107 : decode cX5_look 107 = .ok (.iload_n 3, 1) := by decide +kernel
theorem dX5_look_108 : decode cX5_look 108 = .ok (.iload 7, 2) := by decide +kernel
theorem dX5_look_110 : decode cX5_look 110 = .ok (.invokevirtual 74, 3) := by decide +kernel
theorem dX5_look_113 : decode cX5_look 113 = .ok (.return_, 1) := by decide +kernel
set_option maxRecDepth 20000 in
theorem ggX5_judge_X3_threatened : GoodIn wsX5_judge wsX3_threatened := goodIn_r _ [9, 10, 11, 12, 13, 39, 40, 41, 42, 43, 44] (by decide +kernel) (by decide +kernel)
set_option maxRecDepth 20000 in
theorem gX5_judge_X3_threatened : GoodIn wsX5_judge (wsV RX5 71 RX3 yX3_threatened wsX3_threatened) := goodIn_app (goodIn_of _ (by decide +kernel)) ggX5_judge_X3_threatened
set_option maxRecDepth 20000 in
theorem ggX5_judge_X3_savedFrom : GoodIn wsX5_judge wsX3_savedFrom := goodIn_r _ [17, 18, 19, 20, 8, 21, 22, 23, 24, 25, 26, 27, 28, 29, 30, 39, 40, 41, 42, 43, 44] (by decide +kernel) (by decide +kernel)
set_option maxRecDepth 20000 in
theorem gX5_judge_X3_savedFrom : GoodIn wsX5_judge (wsV RX5 78 RX3 yX3_savedFrom wsX3_savedFrom) := goodIn_app (goodIn_of _ (by decide +kernel)) ggX5_judge_X3_savedFrom
theorem dX5_judge_0 : decode cX5_judge 0 = .ok (.iload_n 2, 1) := by decide +kernel
theorem dX5_judge_1 : decode cX5_judge 1 = .ok (.istore 5, 2) := by decide +kernel
theorem dX5_judge_3 : decode cX5_judge 3 = .ok (.iload_n 3, 1) := by decide +kernel
theorem dX5_judge_4 : decode cX5_judge 4 = .ok (.istore 6, 2) := by decide +kernel
theorem dX5_judge_6 : decode cX5_judge 6 = .ok (.aload_n 1, 1) := by decide +kernel
theorem dX5_judge_7 : decode cX5_judge 7 = .ok (.iload 6, 2) := by decide +kernel
theorem dX5_judge_9 : decode cX5_judge 9 = .ok (.iload 4, 2) := by decide +kernel
theorem dX5_judge_11 : decode cX5_judge 11 = .ok (.invokevirtual 71, 3) := by decide +kernel
theorem dX5_judge_14 : decode cX5_judge 14 = .ok (.istore 7, 2) := by decide +kernel
theorem dX5_judge_16 : decode cX5_judge 16 = .ok (.iload 5, 2) := by decide +kernel
theorem dX5_judge_18 : decode cX5_judge 18 = .ok (.bipush 20, 2) := by decide +kernel
theorem dX5_judge_20 : decode cX5_judge 20 = .ok (.if_icmp .ge 31, 3) := by decide +kernel
theorem dX5_judge_23 : decode cX5_judge 23 = .ok (.iload 7, 2) := by decide +kernel
theorem dX5_judge_25 : decode cX5_judge 25 = .ok (.ifCond .eq 26, 3) := by decide +kernel
theorem dX5_judge_28 : decode cX5_judge 28 = .ok (.iload 6, 2) := by decide +kernel
theorem dX5_judge_30 : decode cX5_judge 30 = .ok (.iload 7, 2) := by decide +kernel
theorem dX5_judge_32 : decode cX5_judge 32 = .ok (.ior, 1) := by decide +kernel
theorem dX5_judge_33 : decode cX5_judge 33 = .ok (.istore 6, 2) := by decide +kernel
theorem dX5_judge_35 : decode cX5_judge 35 = .ok (.aload_n 1, 1) := by decide +kernel
theorem dX5_judge_36 : decode cX5_judge 36 = .ok (.iload 6, 2) := by decide +kernel
theorem dX5_judge_38 : decode cX5_judge 38 = .ok (.iload 4, 2) := by decide +kernel
theorem dX5_judge_40 : decode cX5_judge 40 = .ok (.invokevirtual 71, 3) := by decide +kernel
theorem dX5_judge_43 : decode cX5_judge 43 = .ok (.istore 7, 2) := by decide +kernel
theorem dX5_judge_45 : decode cX5_judge 45 = .ok (.iinc 5 1, 3) := by decide +kernel
theorem dX5_judge_48 : decode cX5_judge 48 = .ok (.goto (-32), 3) := by decide +kernel
theorem dX5_judge_51 : decode cX5_judge 51 = .ok (.aload_n 1, 1) := by decide +kernel
theorem dX5_judge_52 : decode cX5_judge 52 = .ok (.iload 6, 2) := by decide +kernel
theorem dX5_judge_54 : decode cX5_judge 54 = .ok (.invokevirtual 78, 3) := by decide +kernel
theorem dX5_judge_57 : decode cX5_judge 57 = .ok (.istore 8, 2) := by decide +kernel
theorem dX5_judge_59 : decode cX5_judge 59 = .ok (.iload 8, 2) := by decide +kernel
theorem dX5_judge_61 : decode cX5_judge 61 = .ok (.aload_n 0, 1) := by decide +kernel
theorem dX5_judge_62 : decode cX5_judge 62 = .ok (.getfield 40, 3) := by decide +kernel
theorem dX5_judge_65 : decode cX5_judge 65 = .ok (.if_icmp .gt 4, 3) := by decide +kernel
theorem dX5_judge_68 : decode cX5_judge 68 = .ok (.return_, 1) := by decide +kernel
theorem dX5_judge_69 : decode cX5_judge 69 = .ok (.aload_n 0, 1) := by decide +kernel
theorem dX5_judge_70 : decode cX5_judge 70 = .ok (.iload 8, 2) := by decide +kernel
theorem dX5_judge_72 : decode cX5_judge 72 = .ok (.putfield 40, 3) := by decide +kernel
theorem dX5_judge_75 : decode cX5_judge 75 = .ok (.aload_n 0, 1) := by decide +kernel
theorem dX5_judge_76 : decode cX5_judge 76 = .ok (.iload 5, 2) := by decide +kernel
theorem dX5_judge_78 : decode cX5_judge 78 = .ok (.putfield 81, 3) := by decide +kernel
theorem dX5_judge_81 : decode cX5_judge 81 = .ok (.iconst 0, 1) := by decide +kernel
theorem dX5_judge_82 : decode cX5_judge 82 = .ok (.istore 9, 2) := by decide +kernel
theorem dX5_judge_84 : decode cX5_judge 84 = .ok (.iload 9, 2) := by decide +kernel
theorem dX5_judge_86 : decode cX5_judge 86 = .ok (.bipush 8, 2) := by decide +kernel
theorem dX5_judge_88 : decode cX5_judge 88 = .ok (.if_icmp .ge 33, 3) := by decide +kernel
theorem dX5_judge_91 : decode cX5_judge 91 = .ok (.aload_n 0, 1) := by decide +kernel
theorem dX5_judge_92 : decode cX5_judge 92 = .ok (.getfield 22, 3) := by decide +kernel
theorem dX5_judge_95 : decode cX5_judge 95 = .ok (.iload 9, 2) := by decide +kernel
theorem dX5_judge_97 : decode cX5_judge 97 = .ok (.iload 9, 2) := by decide +kernel
theorem dX5_judge_99 : decode cX5_judge 99 = .ok (.iload_n 2, 1) := by decide +kernel
theorem dX5_judge_100 : decode cX5_judge 100 = .ok (.if_icmp .ge 13, 3) := by decide +kernel
theorem dX5_judge_103 : decode cX5_judge 103 = .ok (.aload_n 0, 1) := by decide +kernel
theorem dX5_judge_104 : decode cX5_judge 104 = .ok (.getfield 18, 3) := by decide +kernel
theorem dX5_judge_107 : decode cX5_judge 107 = .ok (.iload 9, 2) := by decide +kernel
theorem dX5_judge_109 : decode cX5_judge 109 = .ok (.iaload, 1) := by decide +kernel
theorem dX5_judge_110 : decode cX5_judge 110 = .ok (.goto 4, 3) := by decide +kernel
theorem dX5_judge_113 : decode cX5_judge 113 = .ok (.iconst 0, 1) := by decide +kernel
theorem dX5_judge_114 : decode cX5_judge 114 = .ok (.iastore, 1) := by decide +kernel
theorem dX5_judge_115 : decode cX5_judge 115 = .ok (.iinc 9 1, 3) := by decide +kernel
theorem dX5_judge_118 : decode cX5_judge 118 = .ok (.goto (-34), 3) := by decide +kernel
theorem dX5_judge_121 : decode cX5_judge 121 = .ok (.return_, 1) := by decide +kernel
set_option maxRecDepth 20000 in
theorem ggX6_init_X3_init : GoodIn wsX6_init wsX3_init := goodIn_r _ [33, 34, 2, 3, 12, 35, 36, 37, 38, 39, 40, 41, 6, 42, 43, 44, 45, 46, 47, 48, 83, 84, 85, 86, 87, 88] (by decide +kernel) (by decide +kernel)
set_option maxRecDepth 20000 in
theorem gX6_init_X3_init : GoodIn wsX6_init (wsX3_init) := ggX6_init_X3_init
set_option maxRecDepth 20000 in
theorem ggX6_init_X4_init : GoodIn wsX6_init wsX4_init := goodIn_r _ [51, 52, 2, 3, 12, 53, 54, 46, 47, 48, 97, 98] (by decide +kernel) (by decide +kernel)
set_option maxRecDepth 20000 in
theorem gX6_init_X4_init : GoodIn wsX6_init (wsX4_init) := ggX6_init_X4_init
set_option maxRecDepth 20000 in
theorem ggX6_init_X2_init : GoodIn wsX6_init wsX2_init := goodIn_r _ [56, 57, 2, 3] (by decide +kernel) (by decide +kernel)
set_option maxRecDepth 20000 in
theorem gX6_init_X2_init_n29 : GoodIn wsX6_init (wsX2_init) := ggX6_init_X2_init
set_option maxRecDepth 20000 in
theorem ggX6_init_X5_init : GoodIn wsX6_init wsX5_init := goodIn_r _ [60, 61, 2, 3, 62, 9, 10, 63, 12, 64, 65, 66, 50, 51, 52, 53, 54, 46, 47, 48, 97, 98, 106, 107, 108, 109, 110, 111, 112, 113] (by decide +kernel) (by decide +kernel)
set_option maxRecDepth 20000 in
theorem gX6_init_X5_init : GoodIn wsX6_init (wsX5_init) := ggX6_init_X5_init
set_option maxRecDepth 20000 in
theorem ggX6_init_X1_init : GoodIn wsX6_init wsX1_init := goodIn_r _ [69, 70, 2, 3, 12, 71, 114, 115, 116, 117, 118] (by decide +kernel) (by decide +kernel)
set_option maxRecDepth 20000 in
theorem gX6_init_X1_init : GoodIn wsX6_init (wsX1_init) := ggX6_init_X1_init
set_option maxRecDepth 20000 in
theorem ggX6_init_X0_init : GoodIn wsX6_init wsX0_init := goodIn_r _ [74, 75, 2, 3, 12, 76, 77, 78, 79, 80, 81, 82, 119, 120, 121, 122, 123, 124, 125, 126, 127] (by decide +kernel) (by decide +kernel)
set_option maxRecDepth 20000 in
theorem gX6_init_X0_init : GoodIn wsX6_init (wsX0_init) := ggX6_init_X0_init
end
section
theorem dX6_init_0 : decode cX6_init 0 = .ok (.aload_n 0, 1) := by decide +kernel
theorem dX6_init_1 : decode cX6_init 1 = .ok (.invokespecial 1, 3) := by decide +kernel
theorem dX6_init_4 : decode cX6_init 4 = .ok (.aload_n 0, 1) := by decide +kernel
theorem dX6_init_5 : decode cX6_init 5 = .ok (.new 7, 3) := by decide +kernel
theorem dX6_init_8 : decode cX6_init 8 = .ok (.dup, 1) := by decide +kernel
theorem dX6_init_9 : decode cX6_init 9 = .ok (.invokespecial 9, 3) := by decide +kernel
theorem dX6_init_12 : decode cX6_init 12 = .ok (.putfield 10, 3) := by decide +kernel
theorem dX6_init_15 : decode cX6_init 15 = .ok (.aload_n 0, 1) := by decide +kernel
theorem dX6_init_16 : decode cX6_init 16 = .ok (.new 16, 3) := by decide +kernel
theorem dX6_init_19 : decode cX6_init 19 = .ok (.dup, 1) := by decide +kernel
theorem dX6_init_20 : decode cX6_init 20 = .ok (.invokespecial 18, 3) := by decide +kernel
theorem dX6_init_23 : decode cX6_init 23 = .ok (.putfield 19, 3) := by decide +kernel
theorem dX6_init_26 : decode cX6_init 26 = .ok (.aload_n 0, 1) := by decide +kernel
theorem dX6_init_27 : decode cX6_init 27 = .ok (.bipush 8, 2) := by decide +kernel
theorem dX6_init_29 : decode cX6_init 29 = .ok (.newarray .int, 2) := by decide +kernel
theorem dX6_init_31 : decode cX6_init 31 = .ok (.putfield 23, 3) := by decide +kernel
theorem dX6_init_34 : decode cX6_init 34 = .ok (.aload_n 0, 1) := by decide +kernel
theorem dX6_init_35 : decode cX6_init 35 = .ok (.new 27, 3) := by decide +kernel
theorem dX6_init_38 : decode cX6_init 38 = .ok (.dup, 1) := by decide +kernel
theorem dX6_init_39 : decode cX6_init 39 = .ok (.invokespecial 29, 3) := by decide +kernel
theorem dX6_init_42 : decode cX6_init 42 = .ok (.putfield 30, 3) := by decide +kernel
theorem dX6_init_45 : decode cX6_init 45 = .ok (.aload_n 0, 1) := by decide +kernel
theorem dX6_init_46 : decode cX6_init 46 = .ok (.new 34, 3) := by decide +kernel
theorem dX6_init_49 : decode cX6_init 49 = .ok (.dup, 1) := by decide +kernel
theorem dX6_init_50 : decode cX6_init 50 = .ok (.invokespecial 36, 3) := by decide +kernel
theorem dX6_init_53 : decode cX6_init 53 = .ok (.putfield 37, 3) := by decide +kernel
theorem dX6_init_56 : decode cX6_init 56 = .ok (.aload_n 0, 1) := by decide +kernel
theorem dX6_init_57 : decode cX6_init 57 = .ok (.new 41, 3) := by decide +kernel
theorem dX6_init_60 : decode cX6_init 60 = .ok (.dup, 1) := by decide +kernel
theorem dX6_init_61 : decode cX6_init 61 = .ok (.invokespecial 43, 3) := by decide +kernel
theorem dX6_init_64 : decode cX6_init 64 = .ok (.putfield 44, 3) := by decide +kernel
theorem dX6_init_67 : decode cX6_init 67 = .ok (.aload_n 0, 1) := by decide +kernel
theorem dX6_init_68 : decode cX6_init 68 = .ok (.new 48, 3) := by decide +kernel
theorem dX6_init_71 : decode cX6_init 71 = .ok (.dup, 1) := by decide +kernel
theorem dX6_init_72 : decode cX6_init 72 = .ok (.invokespecial 50, 3) := by decide +kernel
theorem dX6_init_75 : decode cX6_init 75 = .ok (.putfield 51, 3) := by decide +kernel
theorem dX6_init_78 : decode cX6_init 78 = .ok (.aload_n 0, 1) := by decide +kernel
theorem dX6_init_79 : decode cX6_init 79 = .ok (.sipush 500, 3) := by decide +kernel
theorem dX6_init_82 : decode cX6_init 82 = .ok (.putfield 55, 3) := by decide +kernel
theorem dX6_init_85 : decode cX6_init 85 = .ok (.return_, 1) := by decide +kernel
set_option maxRecDepth 20000 in
theorem ggX6_net_X6_within : GoodIn wsX6_net wsX6_within := goodIn_r _ [6] (by decide +kernel) (by decide +kernel)
set_option maxRecDepth 20000 in
theorem gX6_net_X6_within : GoodIn wsX6_net (va_wsS RX6 59 yX6_within wsX6_within) := goodIn_app (goodIn_of _ (by decide +kernel)) ggX6_net_X6_within
set_option maxRecDepth 20000 in
theorem ggX6_net_X3_renew : GoodIn wsX6_net wsX3_renew := goodIn_r _ [11, 12, 13, 14, 15, 16, 17, 18, 19, 20, 30, 31, 32, 33, 34, 35] (by decide +kernel) (by decide +kernel)
set_option maxRecDepth 20000 in
theorem gX6_net_X3_renew : GoodIn wsX6_net (wsV RX6 63 RX3 yX3_renew wsX3_renew) := goodIn_app (goodIn_of _ (by decide +kernel)) ggX6_net_X3_renew
set_option maxRecDepth 20000 in
theorem ggX6_net_J7_fill_53178 : GoodIn wsX6_net wsJ7_fill_53178 := goodIn_r _ [20] (by decide +kernel) (by decide +kernel)
set_option maxRecDepth 20000 in
theorem gX6_net_J7_fill_53178 : GoodIn wsX6_net (va_wsS RX6 67 yJ7_fill_53178 wsJ7_fill_53178) := goodIn_app (goodIn_of _ (by decide +kernel)) ggX6_net_J7_fill_53178
theorem dX6_net_0 : decode cX6_net 0 = .ok (.iload_n 1, 1) := by decide +kernel
theorem dX6_net_1 : decode cX6_net 1 = .ok (.iconst 1, 1) := by decide +kernel
theorem dX6_net_2 : decode cX6_net 2 = .ok (.bipush 10, 2) := by decide +kernel
theorem dX6_net_4 : decode cX6_net 4 = .ok (.invokestatic 59, 3) := by decide +kernel
theorem dX6_net_7 : decode cX6_net 7 = .ok (.ifCond .ne 7, 3) := by decide +kernel
theorem dX6_net_10 : decode cX6_net 10 = .ok (.sipush (-1002), 3) := by decide +kernel
theorem dX6_net_13 : decode cX6_net 13 = .ok (.ireturn, 1) := by decide +kernel
theorem dX6_net_14 : decode cX6_net 14 = .ok (.aload_n 0, 1) := by decide +kernel
theorem dX6_net_15 : decode cX6_net 15 = .ok (.getfield 10, 3) := by decide +kernel
theorem dX6_net_18 : decode cX6_net 18 = .ok (.iload_n 1, 1) := by decide +kernel
theorem dX6_net_19 : decode cX6_net 19 = .ok (.invokevirtual 63, 3) := by decide +kernel
theorem dX6_net_22 : decode cX6_net 22 = .ok (.aload_n 0, 1) := by decide +kernel
theorem dX6_net_23 : decode cX6_net 23 = .ok (.getfield 23, 3) := by decide +kernel
theorem dX6_net_26 : decode cX6_net 26 = .ok (.iconst 0, 1) := by decide +kernel
theorem dX6_net_27 : decode cX6_net 27 = .ok (.invokestatic 67, 3) := by decide +kernel
theorem dX6_net_30 : decode cX6_net 30 = .ok (.iconst 1, 1) := by decide +kernel
theorem dX6_net_31 : decode cX6_net 31 = .ok (.ireturn, 1) := by decide +kernel
set_option maxRecDepth 20000 in
theorem ggX6_line_X3_has : GoodIn wsX6_line wsX3_has := goodIn_r _ [7, 8, 9, 10, 11, 38, 39, 40, 41, 42, 43] (by decide +kernel) (by decide +kernel)
set_option maxRecDepth 20000 in
theorem gX6_line_X3_has : GoodIn wsX6_line (wsV RX6 73 RX3 yX3_has wsX3_has) := goodIn_app (goodIn_of _ (by decide +kernel)) ggX6_line_X3_has
set_option maxRecDepth 20000 in
theorem ggX6_line_X3_joined : GoodIn wsX6_line wsX3_joined := goodIn_r _ [15, 16, 17, 18, 6, 19, 20, 21, 10, 22, 38, 39, 40, 41, 42, 43] (by decide +kernel) (by decide +kernel)
set_option maxRecDepth 20000 in
theorem gX6_line_X3_joined : GoodIn wsX6_line (wsV RX6 77 RX3 yX3_joined wsX3_joined) := goodIn_app (goodIn_of _ (by decide +kernel)) ggX6_line_X3_joined
set_option maxRecDepth 20000 in
theorem ggX6_line_X3_join : GoodIn wsX6_line wsX3_join := goodIn_r _ [26, 27, 20, 28, 29, 4, 5, 6, 7, 8, 9, 10, 11, 38, 39, 40, 41, 42, 43] (by decide +kernel) (by decide +kernel)
set_option maxRecDepth 20000 in
theorem gX6_line_X3_join : GoodIn wsX6_line (wsV RX6 84 RX3 yX3_join wsX3_join) := goodIn_app (goodIn_of _ (by decide +kernel)) ggX6_line_X3_join
theorem dX6_line_0 : decode cX6_line 0 = .ok (.aload_n 0, 1) := by decide +kernel
theorem dX6_line_1 : decode cX6_line 1 = .ok (.getfield 10, 3) := by decide +kernel
theorem dX6_line_4 : decode cX6_line 4 = .ok (.iload_n 1, 1) := by decide +kernel
theorem dX6_line_5 : decode cX6_line 5 = .ok (.invokevirtual 73, 3) := by decide +kernel
theorem dX6_line_8 : decode cX6_line 8 = .ok (.ifCond .eq 14, 3) := by decide +kernel
theorem dX6_line_11 : decode cX6_line 11 = .ok (.aload_n 0, 1) := by decide +kernel
theorem dX6_line_12 : decode cX6_line 12 = .ok (.getfield 10, 3) := by decide +kernel
theorem dX6_line_15 : decode cX6_line 15 = .ok (.iload_n 2, 1) := by decide +kernel
theorem dX6_line_16 : decode cX6_line 16 = .ok (.invokevirtual 73, 3) := by decide +kernel
theorem dX6_line_19 : decode cX6_line 19 = .ok (.ifCond .ne 7, 3) := by decide +kernel
theorem dX6_line_22 : decode cX6_line 22 = .ok (.sipush (-1001), 3) := by decide +kernel
theorem dX6_line_25 : decode cX6_line 25 = .ok (.ireturn, 1) := by decide +kernel
theorem dX6_line_26 : decode cX6_line 26 = .ok (.iload_n 1, 1) := by decide +kernel
theorem dX6_line_27 : decode cX6_line 27 = .ok (.iload_n 2, 1) := by decide +kernel
theorem dX6_line_28 : decode cX6_line 28 = .ok (.if_icmp .ne 7, 3) := by decide +kernel
theorem dX6_line_31 : decode cX6_line 31 = .ok (.sipush (-1002), 3) := by decide +kernel
theorem dX6_line_34 : decode cX6_line 34 = .ok (.ireturn, 1) := by decide +kernel
theorem dX6_line_35 : decode cX6_line 35 = .ok (.aload_n 0, 1) := by decide +kernel
theorem dX6_line_36 : decode cX6_line 36 = .ok (.getfield 10, 3) := by decide +kernel
theorem dX6_line_39 : decode cX6_line 39 = .ok (.iload_n 1, 1) := by decide +kernel
theorem dX6_line_40 : decode cX6_line 40 = .ok (.iload_n 2, 1) := by decide +kernel
theorem dX6_line_41 : decode cX6_line 41 = .ok (.invokevirtual 77, 3) := by decide +kernel
theorem dX6_line_44 : decode cX6_line 44 = .ok (.ifCond .eq 7, 3) := by decide +kernel
theorem dX6_line_47 : decode cX6_line 47 = .ok (.sipush (-1003), 3) := by decide +kernel
theorem dX6_line_50 : decode cX6_line 50 = .ok (.ireturn, 1) := by decide +kernel
theorem dX6_line_51 : decode cX6_line 51 = .ok (.aload_n 0, 1) := by decide +kernel
theorem dX6_line_52 : decode cX6_line 52 = .ok (.getfield 10, 3) := by decide +kernel
theorem dX6_line_55 : decode cX6_line 55 = .ok (.getfield 81, 3) := by decide +kernel
theorem dX6_line_58 : decode cX6_line 58 = .ok (.bipush 24, 2) := by decide +kernel
theorem dX6_line_60 : decode cX6_line 60 = .ok (.if_icmp .lt 7, 3) := by decide +kernel
theorem dX6_line_63 : decode cX6_line 63 = .ok (.sipush (-1004), 3) := by decide +kernel
theorem dX6_line_66 : decode cX6_line 66 = .ok (.ireturn, 1) := by decide +kernel
theorem dX6_line_67 : decode cX6_line 67 = .ok (.aload_n 0, 1) := by decide +kernel
theorem dX6_line_68 : decode cX6_line 68 = .ok (.getfield 10, 3) := by decide +kernel
theorem dX6_line_71 : decode cX6_line 71 = .ok (.iload_n 1, 1) := by decide +kernel
theorem dX6_line_72 : decode cX6_line 72 = .ok (.iload_n 2, 1) := by decide +kernel
theorem dX6_line_73 : decode cX6_line 73 = .ok (.invokevirtual 84, 3) := by decide +kernel
theorem dX6_line_76 : decode cX6_line 76 = .ok (.ireturn, 1) := by decide +kernel
set_option maxRecDepth 20000 in
theorem ggX6_node_X3_has : GoodIn wsX6_node wsX3_has := goodIn_r _ [8, 9, 10, 11, 12, 25, 26, 27, 28, 29, 30] (by decide +kernel) (by decide +kernel)
set_option maxRecDepth 20000 in
theorem gX6_node_X3_has : GoodIn wsX6_node (wsV RX6 73 RX3 yX3_has wsX3_has) := goodIn_app (goodIn_of _ (by decide +kernel)) ggX6_node_X3_has
set_option maxRecDepth 20000 in
theorem ggX6_node_X6_within : GoodIn wsX6_node wsX6_within := goodIn_r _ [12] (by decide +kernel) (by decide +kernel)
set_option maxRecDepth 20000 in
theorem gX6_node_X6_within : GoodIn wsX6_node (va_wsS RX6 59 yX6_within wsX6_within) := goodIn_app (goodIn_of _ (by decide +kernel)) ggX6_node_X6_within
set_option maxRecDepth 20000 in
theorem ggX6_node_X6_swap : GoodIn wsX6_node wsX6_swap := goodIn_r _ [16] (by decide +kernel) (by decide +kernel)
set_option maxRecDepth 20000 in
theorem gX6_node_X6_swap : GoodIn wsX6_node (va_wsS RX6 91 yX6_swap wsX6_swap) := goodIn_app (goodIn_of _ (by decide +kernel)) ggX6_node_X6_swap
theorem dX6_node_0 : decode cX6_node 0 = .ok (.aload_n 0, 1) := by decide +kernel
theorem dX6_node_1 : decode cX6_node 1 = .ok (.getfield 10, 3) := by decide +kernel
theorem dX6_node_4 : decode cX6_node 4 = .ok (.iload_n 1, 1) := by decide +kernel
theorem dX6_node_5 : decode cX6_node 5 = .ok (.invokevirtual 73, 3) := by decide +kernel
theorem dX6_node_8 : decode cX6_node 8 = .ok (.ifCond .ne 7, 3) := by decide +kernel
theorem dX6_node_11 : decode cX6_node 11 = .ok (.sipush (-1001), 3) := by decide +kernel
theorem dX6_node_14 : decode cX6_node 14 = .ok (.ireturn, 1) := by decide +kernel
theorem dX6_node_15 : decode cX6_node 15 = .ok (.iload_n 2, 1) := by decide +kernel
theorem dX6_node_16 : decode cX6_node 16 = .ok (.ifCond .ne 26, 3) := by decide +kernel
theorem dX6_node_19 : decode cX6_node 19 = .ok (.iload_n 3, 1) := by decide +kernel
theorem dX6_node_20 : decode cX6_node 20 = .ok (.iconst 0, 1) := by decide +kernel
theorem dX6_node_21 : decode cX6_node 21 = .ok (.bipush 9, 2) := by decide +kernel
theorem dX6_node_23 : decode cX6_node 23 = .ok (.invokestatic 59, 3) := by decide +kernel
theorem dX6_node_26 : decode cX6_node 26 = .ok (.ifCond .eq 16, 3) := by decide +kernel
theorem dX6_node_29 : decode cX6_node 29 = .ok (.aload_n 0, 1) := by decide +kernel
theorem dX6_node_30 : decode cX6_node 30 = .ok (.getfield 10, 3) := by decide +kernel
theorem dX6_node_33 : decode cX6_node 33 = .ok (.getfield 88, 3) := by decide +kernel
theorem dX6_node_36 : decode cX6_node 36 = .ok (.iload_n 1, 1) := by decide +kernel
theorem dX6_node_37 : decode cX6_node 37 = .ok (.iload_n 3, 1) := by decide +kernel
theorem dX6_node_38 : decode cX6_node 38 = .ok (.invokestatic 91, 3) := by decide +kernel
theorem dX6_node_41 : decode cX6_node 41 = .ok (.ireturn, 1) := by decide +kernel
theorem dX6_node_42 : decode cX6_node 42 = .ok (.iload_n 2, 1) := by decide +kernel
theorem dX6_node_43 : decode cX6_node 43 = .ok (.iconst 1, 1) := by decide +kernel
theorem dX6_node_44 : decode cX6_node 44 = .ok (.if_icmp .ne 26, 3) := by decide +kernel
theorem dX6_node_47 : decode cX6_node 47 = .ok (.iload_n 3, 1) := by decide +kernel
theorem dX6_node_48 : decode cX6_node 48 = .ok (.iconst 1, 1) := by decide +kernel
theorem dX6_node_49 : decode cX6_node 49 = .ok (.bipush 9, 2) := by decide +kernel
theorem dX6_node_51 : decode cX6_node 51 = .ok (.invokestatic 59, 3) := by decide +kernel
theorem dX6_node_54 : decode cX6_node 54 = .ok (.ifCond .eq 16, 3) := by decide +kernel
theorem dX6_node_57 : decode cX6_node 57 = .ok (.aload_n 0, 1) := by decide +kernel
theorem dX6_node_58 : decode cX6_node 58 = .ok (.getfield 10, 3) := by decide +kernel
theorem dX6_node_61 : decode cX6_node 61 = .ok (.getfield 95, 3) := by decide +kernel
theorem dX6_node_64 : decode cX6_node 64 = .ok (.iload_n 1, 1) := by decide +kernel
theorem dX6_node_65 : decode cX6_node 65 = .ok (.iload_n 3, 1) := by decide +kernel
theorem dX6_node_66 : decode cX6_node 66 = .ok (.invokestatic 91, 3) := by decide +kernel
theorem dX6_node_69 : decode cX6_node 69 = .ok (.ireturn, 1) := by decide +kernel
theorem dX6_node_70 : decode cX6_node 70 = .ok (.sipush (-1002), 3) := by decide +kernel
theorem dX6_node_73 : decode cX6_node 73 = .ok (.ireturn, 1) := by decide +kernel
set_option maxRecDepth 20000 in
theorem ggX6_purse_X6_within : GoodIn wsX6_purse wsX6_within := goodIn_r _ [6] (by decide +kernel) (by decide +kernel)
set_option maxRecDepth 20000 in
theorem gX6_purse_X6_within : GoodIn wsX6_purse (va_wsS RX6 59 yX6_within wsX6_within) := goodIn_app (goodIn_of _ (by decide +kernel)) ggX6_purse_X6_within
set_option maxRecDepth 20000 in
theorem ggX6_purse_X6_swap : GoodIn wsX6_purse wsX6_swap := goodIn_r _ [9] (by decide +kernel) (by decide +kernel)
set_option maxRecDepth 20000 in
theorem gX6_purse_X6_swap : GoodIn wsX6_purse (va_wsS RX6 91 yX6_swap wsX6_swap) := goodIn_app (goodIn_of _ (by decide +kernel)) ggX6_purse_X6_swap
theorem dX6_purse_0 : decode cX6_purse 0 = .ok (.iload_n 1, 1) := by decide +kernel
theorem dX6_purse_1 : decode cX6_purse 1 = .ok (.iconst 1, 1) := by decide +kernel
theorem dX6_purse_2 : decode cX6_purse 2 = .ok (.bipush 8, 2) := by decide +kernel
theorem dX6_purse_4 : decode cX6_purse 4 = .ok (.invokestatic 59, 3) := by decide +kernel
theorem dX6_purse_7 : decode cX6_purse 7 = .ok (.ifCond .eq 13, 3) := by decide +kernel
theorem dX6_purse_10 : decode cX6_purse 10 = .ok (.iload_n 2, 1) := by decide +kernel
theorem dX6_purse_11 : decode cX6_purse 11 = .ok (.iconst 0, 1) := by decide +kernel
theorem dX6_purse_12 : decode cX6_purse 12 = .ok (.bipush 20, 2) := by decide +kernel
theorem dX6_purse_14 : decode cX6_purse 14 = .ok (.invokestatic 59, 3) := by decide +kernel
theorem dX6_purse_17 : decode cX6_purse 17 = .ok (.ifCond .ne 7, 3) := by decide +kernel
theorem dX6_purse_20 : decode cX6_purse 20 = .ok (.sipush (-1002), 3) := by decide +kernel
theorem dX6_purse_23 : decode cX6_purse 23 = .ok (.ireturn, 1) := by decide +kernel
theorem dX6_purse_24 : decode cX6_purse 24 = .ok (.aload_n 0, 1) := by decide +kernel
theorem dX6_purse_25 : decode cX6_purse 25 = .ok (.getfield 19, 3) := by decide +kernel
theorem dX6_purse_28 : decode cX6_purse 28 = .ok (.getfield 98, 3) := by decide +kernel
theorem dX6_purse_31 : decode cX6_purse 31 = .ok (.iload_n 1, 1) := by decide +kernel
theorem dX6_purse_32 : decode cX6_purse 32 = .ok (.iconst 1, 1) := by decide +kernel
theorem dX6_purse_33 : decode cX6_purse 33 = .ok (.isub, 1) := by decide +kernel
theorem dX6_purse_34 : decode cX6_purse 34 = .ok (.iload_n 2, 1) := by decide +kernel
theorem dX6_purse_35 : decode cX6_purse 35 = .ok (.invokestatic 91, 3) := by decide +kernel
theorem dX6_purse_38 : decode cX6_purse 38 = .ok (.ireturn, 1) := by decide +kernel
set_option maxRecDepth 20000 in
theorem ggX6_rule_X6_within : GoodIn wsX6_rule wsX6_within := goodIn_r _ [7] (by decide +kernel) (by decide +kernel)
set_option maxRecDepth 20000 in
theorem gX6_rule_X6_within : GoodIn wsX6_rule (va_wsS RX6 59 yX6_within wsX6_within) := goodIn_app (goodIn_of _ (by decide +kernel)) ggX6_rule_X6_within
theorem dX6_rule_0 : decode cX6_rule 0 = .ok (.iload_n 1, 1) := by decide +kernel
theorem dX6_rule_1 : decode cX6_rule 1 = .ok (.ifCond .ne 30, 3) := by decide +kernel
theorem dX6_rule_4 : decode cX6_rule 4 = .ok (.iload_n 2, 1) := by decide +kernel
theorem dX6_rule_5 : decode cX6_rule 5 = .ok (.iconst 0, 1) := by decide +kernel
theorem dX6_rule_6 : decode cX6_rule 6 = .ok (.iconst 1, 1) := by decide +kernel
theorem dX6_rule_7 : decode cX6_rule 7 = .ok (.invokestatic 59, 3) := by decide +kernel
theorem dX6_rule_10 : decode cX6_rule 10 = .ok (.ifCond .eq 21, 3) := by decide +kernel
theorem dX6_rule_13 : decode cX6_rule 13 = .ok (.aload_n 0, 1) := by decide +kernel
theorem dX6_rule_14 : decode cX6_rule 14 = .ok (.getfield 19, 3) := by decide +kernel
theorem dX6_rule_17 : decode cX6_rule 17 = .ok (.getfield 101, 3) := by decide +kernel
theorem dX6_rule_20 : decode cX6_rule 20 = .ok (.istore_n 3, 1) := by decide +kernel
theorem dX6_rule_21 : decode cX6_rule 21 = .ok (.aload_n 0, 1) := by decide +kernel
theorem dX6_rule_22 : decode cX6_rule 22 = .ok (.getfield 19, 3) := by decide +kernel
theorem dX6_rule_25 : decode cX6_rule 25 = .ok (.iload_n 2, 1) := by decide +kernel
theorem dX6_rule_26 : decode cX6_rule 26 = .ok (.putfield 101, 3) := by decide +kernel
theorem dX6_rule_29 : decode cX6_rule 29 = .ok (.iload_n 3, 1) := by decide +kernel
theorem dX6_rule_30 : decode cX6_rule 30 = .ok (.ireturn, 1) := by decide +kernel
theorem dX6_rule_31 : decode cX6_rule 31 = .ok (.iload_n 1, 1) := by decide +kernel
theorem dX6_rule_32 : decode cX6_rule 32 = .ok (.iconst 1, 1) := by decide +kernel
theorem dX6_rule_33 : decode cX6_rule 33 = .ok (.if_icmp .ne 27, 3) := by decide +kernel
theorem dX6_rule_36 : decode cX6_rule 36 = .ok (.iload_n 2, 1) := by decide +kernel
theorem dX6_rule_37 : decode cX6_rule 37 = .ok (.bipush 50, 2) := by decide +kernel
theorem dX6_rule_39 : decode cX6_rule 39 = .ok (.sipush 1000, 3) := by decide +kernel
theorem dX6_rule_42 : decode cX6_rule 42 = .ok (.invokestatic 59, 3) := by decide +kernel
theorem dX6_rule_45 : decode cX6_rule 45 = .ok (.ifCond .eq 15, 3) := by decide +kernel
theorem dX6_rule_48 : decode cX6_rule 48 = .ok (.aload_n 0, 1) := by decide +kernel
theorem dX6_rule_49 : decode cX6_rule 49 = .ok (.getfield 55, 3) := by decide +kernel
theorem dX6_rule_52 : decode cX6_rule 52 = .ok (.istore_n 3, 1) := by decide +kernel
theorem dX6_rule_53 : decode cX6_rule 53 = .ok (.aload_n 0, 1) := by decide +kernel
theorem dX6_rule_54 : decode cX6_rule 54 = .ok (.iload_n 2, 1) := by decide +kernel
theorem dX6_rule_55 : decode cX6_rule 55 = .ok (.putfield 55, 3) := by decide +kernel
theorem dX6_rule_58 : decode cX6_rule 58 = .ok (.iload_n 3, 1) := by decide +kernel
theorem dX6_rule_59 : decode cX6_rule 59 = .ok (.ireturn, 1) := by decide +kernel
theorem dX6_rule_60 : decode cX6_rule 60 = .ok (.sipush (-1002), 3) := by decide +kernel
theorem dX6_rule_63 : decode cX6_rule 63 = .ok (.ireturn, 1) := by decide +kernel
set_option maxRecDepth 20000 in
theorem ggX6_count_X3_all : GoodIn wsX6_count wsX3_all := goodIn_r _ [10, 11, 39, 40, 41, 42, 43, 44] (by decide +kernel) (by decide +kernel)
set_option maxRecDepth 20000 in
theorem gX6_count_X3_all : GoodIn wsX6_count (wsV RX6 107 RX3 yX3_all wsX3_all) := goodIn_app (goodIn_of _ (by decide +kernel)) ggX6_count_X3_all
set_option maxRecDepth 20000 in
theorem ggX6_count_X3_worthOf : GoodIn wsX6_count wsX3_worthOf := goodIn_r _ [15, 16, 17, 18, 9, 19, 39, 40, 41, 42, 43, 44] (by decide +kernel) (by decide +kernel)
set_option maxRecDepth 20000 in
theorem gX6_count_X3_worthOf : GoodIn wsX6_count (wsV RX6 111 RX3 yX3_worthOf wsX3_worthOf) := goodIn_app (goodIn_of _ (by decide +kernel)) ggX6_count_X3_worthOf
set_option maxRecDepth 20000 in
theorem ggX6_count_X0_needed : GoodIn wsX6_count wsX0_needed := goodIn_r _ [24, 25, 26, 27, 28, 29, 30, 45, 46, 47, 48, 49, 50, 51, 52, 53] (by decide +kernel) (by decide +kernel)
set_option maxRecDepth 20000 in
theorem gX6_count_X0_needed : GoodIn wsX6_count (wsV RX6 118 RX0 yX0_needed wsX0_needed) := goodIn_app (goodIn_of _ (by decide +kernel)) ggX6_count_X0_needed
theorem dX6_count_0 : decode cX6_count 0 = .ok (.iload_n 1, 1) := by decide +kernel
theorem dX6_count_1 : decode cX6_count 1 = .ok (.tableswitch 82 0 4 #[35, 43, 51, 66, 74], 35) := by decide +kernel
theorem dX6_count_36 : decode cX6_count 36 = .ok (.aload_n 0, 1) := by decide +kernel
theorem dX6_count_37 : decode cX6_count 37 = .ok (.getfield 10, 3) := by decide +kernel
theorem dX6_count_40 : decode cX6_count 40 = .ok (.getfield 104, 3) := by decide +kernel
theorem dX6_count_43 : decode cX6_count 43 = .ok (.ireturn, 1) := by decide +kernel
theorem dX6_count_44 : decode cX6_count 44 = .ok (.aload_n 0, 1) := by decide +kernel
theorem dX6_count_45 : decode cX6_count 45 = .ok (.getfield 10, 3) := by decide +kernel
theorem dX6_count_48 : decode cX6_count 48 = .ok (.getfield 81, 3) := by decide +kernel
theorem dX6_count_51 : decode cX6_count 51 = .ok (.ireturn, 1) := by decide +kernel
theorem dX6_count_52 : decode cX6_count 52 = .ok (.aload_n 0, 1) := by decide +kernel
theorem dX6_count_53 : decode cX6_count 53 = .ok (.getfield 10, 3) := by decide +kernel
theorem dX6_count_56 : decode cX6_count 56 = .ok (.aload_n 0, 1) := by decide +kernel
theorem dX6_count_57 : decode cX6_count 57 = .ok (.getfield 10, 3) := by decide +kernel
theorem dX6_count_60 : decode cX6_count 60 = .ok (.invokevirtual 107, 3) := by decide +kernel
theorem dX6_count_63 : decode cX6_count 63 = .ok (.invokevirtual 111, 3) := by decide +kernel
theorem dX6_count_66 : decode cX6_count 66 = .ok (.ireturn, 1) := by decide +kernel
theorem dX6_count_67 : decode cX6_count 67 = .ok (.aload_n 0, 1) := by decide +kernel
theorem dX6_count_68 : decode cX6_count 68 = .ok (.getfield 51, 3) := by decide +kernel
theorem dX6_count_71 : decode cX6_count 71 = .ok (.getfield 115, 3) := by decide +kernel
theorem dX6_count_74 : decode cX6_count 74 = .ok (.ireturn, 1) := by decide +kernel
theorem dX6_count_75 : decode cX6_count 75 = .ok (.aload_n 0, 1) := by decide +kernel
theorem dX6_count_76 : decode cX6_count 76 = .ok (.getfield 51, 3) := by decide +kernel
theorem dX6_count_79 : decode cX6_count 79 = .ok (.invokevirtual 118, 3) := by decide +kernel
theorem dX6_count_82 : decode cX6_count 82 = .ok (.ireturn, 1) := by decide +kernel
theorem dX6_count_83 : decode cX6_count 83 = .ok (.sipush (-1002), 3) := by decide +kernel
theorem dX6_count_86 : decode cX6_count 86 = .ok (.ireturn, 1) := by decide +kernel
set_option maxRecDepth 20000 in
theorem ggX6_plan_X6_within : GoodIn wsX6_plan wsX6_within := goodIn_r _ [5] (by decide +kernel) (by decide +kernel)
set_option maxRecDepth 20000 in
theorem gX6_plan_X6_within : GoodIn wsX6_plan (va_wsS RX6 59 yX6_within wsX6_within) := goodIn_app (goodIn_of _ (by decide +kernel)) ggX6_plan_X6_within
set_option maxRecDepth 20000 in
theorem ggX6_plan_X6_swap : GoodIn wsX6_plan wsX6_swap := goodIn_r _ [8] (by decide +kernel) (by decide +kernel)
set_option maxRecDepth 20000 in
theorem gX6_plan_X6_swap : GoodIn wsX6_plan (va_wsS RX6 91 yX6_swap wsX6_swap) := goodIn_app (goodIn_of _ (by decide +kernel)) ggX6_plan_X6_swap
theorem dX6_plan_0 : decode cX6_plan 0 = .ok (.iload_n 1, 1) := by decide +kernel
theorem dX6_plan_1 : decode cX6_plan 1 = .ok (.iconst 1, 1) := by decide +kernel
theorem dX6_plan_2 : decode cX6_plan 2 = .ok (.bipush 8, 2) := by decide +kernel
theorem dX6_plan_4 : decode cX6_plan 4 = .ok (.invokestatic 59, 3) := by decide +kernel
theorem dX6_plan_7 : decode cX6_plan 7 = .ok (.ifCond .eq 14, 3) := by decide +kernel
theorem dX6_plan_10 : decode cX6_plan 10 = .ok (.iload_n 2, 1) := by decide +kernel
theorem dX6_plan_11 : decode cX6_plan 11 = .ok (.iconst 0, 1) := by decide +kernel
theorem dX6_plan_12 : decode cX6_plan 12 = .ok (.sipush 1023, 3) := by decide +kernel
theorem dX6_plan_15 : decode cX6_plan 15 = .ok (.invokestatic 59, 3) := by decide +kernel
theorem dX6_plan_18 : decode cX6_plan 18 = .ok (.ifCond .ne 7, 3) := by decide +kernel
theorem dX6_plan_21 : decode cX6_plan 21 = .ok (.sipush (-1002), 3) := by decide +kernel
theorem dX6_plan_24 : decode cX6_plan 24 = .ok (.ireturn, 1) := by decide +kernel
theorem dX6_plan_25 : decode cX6_plan 25 = .ok (.aload_n 0, 1) := by decide +kernel
theorem dX6_plan_26 : decode cX6_plan 26 = .ok (.getfield 23, 3) := by decide +kernel
theorem dX6_plan_29 : decode cX6_plan 29 = .ok (.iload_n 1, 1) := by decide +kernel
theorem dX6_plan_30 : decode cX6_plan 30 = .ok (.iconst 1, 1) := by decide +kernel
theorem dX6_plan_31 : decode cX6_plan 31 = .ok (.isub, 1) := by decide +kernel
theorem dX6_plan_32 : decode cX6_plan 32 = .ok (.iload_n 2, 1) := by decide +kernel
theorem dX6_plan_33 : decode cX6_plan 33 = .ok (.invokestatic 91, 3) := by decide +kernel
theorem dX6_plan_36 : decode cX6_plan 36 = .ok (.ireturn, 1) := by decide +kernel
set_option maxRecDepth 20000 in
theorem ggX6_play_X3_isStart : GoodIn wsX6_play wsX3_isStart := goodIn_r _ [12, 13, 14, 15, 11, 16, 17, 18, 19, 20, 118, 119, 120, 121, 122, 123] (by decide +kernel) (by decide +kernel)
set_option maxRecDepth 20000 in
theorem gX6_play_X3_isStart : GoodIn wsX6_play (wsV RX6 121 RX3 yX3_isStart wsX3_isStart) := goodIn_app (goodIn_of _ (by decide +kernel)) ggX6_play_X3_isStart
set_option maxRecDepth 20000 in
theorem ggX6_play_X6_within : GoodIn wsX6_play wsX6_within := goodIn_r _ [20] (by decide +kernel) (by decide +kernel)
set_option maxRecDepth 20000 in
theorem gX6_play_X6_within : GoodIn wsX6_play (va_wsS RX6 59 yX6_within wsX6_within) := goodIn_app (goodIn_of _ (by decide +kernel)) ggX6_play_X6_within
set_option maxRecDepth 20000 in
theorem ggX6_play_X6_runPlan : GoodIn wsX6_play wsX6_runPlan := goodIn_r _ [25, 2, 26, 1, 27, 28, 29, 30, 31, 32, 33, 34, 35, 36, 37, 38, 39, 40, 41, 42, 43, 44, 45, 46, 47, 48, 49, 50, 51, 52, 53, 54, 55, 56, 57, 58, 59, 60, 61, 62, 63, 64, 65, 66, 67, 68, 11, 69, 13, 14, 15, 16, 17, 70, 71, 72, 73, 74, 75, 76, 77, 78, 79, 80, 81, 82, 83, 84, 85, 86, 87, 88, 89, 90, 91, 92, 19, 93, 103, 104, 105, 106, 107, 108, 109, 110, 111, 112, 113, 114, 115, 116, 117, 124, 125, 118, 119, 120, 121, 122, 123] (by decide +kernel) (by decide +kernel)
set_option maxRecDepth 20000 in
theorem gX6_play_X6_runPlan : GoodIn wsX6_play (wsV RX6 124 RX6 yX6_runPlan wsX6_runPlan) := goodIn_app (goodIn_of _ (by decide +kernel)) ggX6_play_X6_runPlan
set_option maxRecDepth 20000 in
theorem ggX6_play_X3_savedFrom : GoodIn wsX6_play wsX3_savedFrom := goodIn_r _ [97, 13, 14, 15, 11, 16, 17, 98, 99, 100, 101, 102, 75, 76, 77, 118, 119, 120, 121, 122, 123] (by decide +kernel) (by decide +kernel)
set_option maxRecDepth 20000 in
theorem gX6_play_X3_savedFrom : GoodIn wsX6_play (wsV RX6 135 RX3 yX3_savedFrom wsX3_savedFrom) := goodIn_app (goodIn_of _ (by decide +kernel)) ggX6_play_X3_savedFrom
theorem dX6_play_0 : decode cX6_play 0 = .ok (.aload_n 0, 1) := by decide +kernel
theorem dX6_play_1 : decode cX6_play 1 = .ok (.getfield 10, 3) := by decide +kernel
theorem dX6_play_4 : decode cX6_play 4 = .ok (.iload_n 1, 1) := by decide +kernel
theorem dX6_play_5 : decode cX6_play 5 = .ok (.invokevirtual 121, 3) := by decide +kernel
theorem dX6_play_8 : decode cX6_play 8 = .ok (.ifCond .eq 12, 3) := by decide +kernel
theorem dX6_play_11 : decode cX6_play 11 = .ok (.iload_n 2, 1) := by decide +kernel
theorem dX6_play_12 : decode cX6_play 12 = .ok (.iconst 0, 1) := by decide +kernel
theorem dX6_play_13 : decode cX6_play 13 = .ok (.iconst 4, 1) := by decide +kernel
theorem dX6_play_14 : decode cX6_play 14 = .ok (.invokestatic 59, 3) := by decide +kernel
theorem dX6_play_17 : decode cX6_play 17 = .ok (.ifCond .ne 7, 3) := by decide +kernel
theorem dX6_play_20 : decode cX6_play 20 = .ok (.sipush (-1002), 3) := by decide +kernel
theorem dX6_play_23 : decode cX6_play 23 = .ok (.ireturn, 1) := by decide +kernel
theorem dX6_play_24 : decode cX6_play 24 = .ok (.aload_n 0, 1) := by decide +kernel
theorem dX6_play_25 : decode cX6_play 25 = .ok (.iload_n 1, 1) := by decide +kernel
theorem dX6_play_26 : decode cX6_play 26 = .ok (.bipush 20, 2) := by decide +kernel
theorem dX6_play_28 : decode cX6_play 28 = .ok (.invokevirtual 124, 3) := by decide +kernel
theorem dX6_play_31 : decode cX6_play 31 = .ok (.iload_n 2, 1) := by decide +kernel
theorem dX6_play_32 : decode cX6_play 32 = .ok (.tableswitch 85 0 3 #[32, 61, 69, 77], 32) := by decide +kernel
theorem dX6_play_64 : decode cX6_play 64 = .ok (.aload_n 0, 1) := by decide +kernel
theorem dX6_play_65 : decode cX6_play 65 = .ok (.getfield 30, 3) := by decide +kernel
theorem dX6_play_68 : decode cX6_play 68 = .ok (.getfield 128, 3) := by decide +kernel
theorem dX6_play_71 : decode cX6_play 71 = .ok (.ifCond .eq 7, 3) := by decide +kernel
theorem dX6_play_74 : decode cX6_play 74 = .ok (.iconst (-1), 1) := by decide +kernel
theorem dX6_play_75 : decode cX6_play 75 = .ok (.goto 17, 3) := by decide +kernel
theorem dX6_play_78 : decode cX6_play 78 = .ok (.aload_n 0, 1) := by decide +kernel
theorem dX6_play_79 : decode cX6_play 79 = .ok (.getfield 10, 3) := by decide +kernel
theorem dX6_play_82 : decode cX6_play 82 = .ok (.aload_n 0, 1) := by decide +kernel
theorem dX6_play_83 : decode cX6_play 83 = .ok (.getfield 30, 3) := by decide +kernel
theorem dX6_play_86 : decode cX6_play 86 = .ok (.getfield 132, 3) := by decide +kernel
theorem dX6_play_89 : decode cX6_play 89 = .ok (.invokevirtual 135, 3) := by decide +kernel
theorem dX6_play_92 : decode cX6_play 92 = .ok (.ireturn, 1) := by decide +kernel
theorem dX6_play_93 : decode cX6_play 93 = .ok (.aload_n 0, 1) := by decide +kernel
theorem dX6_play_94 : decode cX6_play 94 = .ok (.getfield 30, 3) := by decide +kernel
theorem dX6_play_97 : decode cX6_play 97 = .ok (.getfield 132, 3) := by decide +kernel
theorem dX6_play_100 : decode cX6_play 100 = .ok (.ireturn, 1) := by decide +kernel
theorem dX6_play_101 : decode cX6_play 101 = .ok (.aload_n 0, 1) := by decide +kernel
theorem dX6_play_102 : decode cX6_play 102 = .ok (.getfield 30, 3) := by decide +kernel
theorem dX6_play_105 : decode cX6_play 105 = .ok (.getfield 138, 3) := by decide +kernel
theorem dX6_play_108 : decode cX6_play 108 = .ok (.ireturn, 1) := by decide +kernel
theorem dX6_play_109 : decode cX6_play 109 = .ok (.aload_n 0, 1) := by decide +kernel
theorem dX6_play_110 : decode cX6_play 110 = .ok (.getfield 30, 3) := by decide +kernel
theorem dX6_play_113 : decode cX6_play 113 = .ok (.getfield 141, 3) := by decide +kernel
theorem dX6_play_116 : decode cX6_play 116 = .ok (.ireturn, 1) := by decide +kernel
theorem dX6_play_117 : decode cX6_play 117 = .ok (.aload_n 0, 1) := by decide +kernel
theorem dX6_play_118 : decode cX6_play 118 = .ok (.getfield 30, 3) := by decide +kernel
theorem dX6_play_121 : decode cX6_play 121 = .ok (.getfield 144, 3) := by decide +kernel
theorem dX6_play_124 : decode cX6_play 124 = .ok (.ireturn, 1) := by decide +kernel
set_option maxRecDepth 20000 in
theorem ggX6_burns_X3_isStart : GoodIn wsX6_burns wsX3_isStart := goodIn_r _ [8, 9, 10, 11, 7, 12, 13, 14, 15, 16, 105, 106, 107, 108, 109, 110] (by decide +kernel) (by decide +kernel)
set_option maxRecDepth 20000 in
theorem gX6_burns_X3_isStart : GoodIn wsX6_burns (wsV RX6 121 RX3 yX3_isStart wsX3_isStart) := goodIn_app (goodIn_of _ (by decide +kernel)) ggX6_burns_X3_isStart
set_option maxRecDepth 20000 in
theorem ggX6_burns_X6_within : GoodIn wsX6_burns wsX6_within := goodIn_r _ [16] (by decide +kernel) (by decide +kernel)
set_option maxRecDepth 20000 in
theorem gX6_burns_X6_within : GoodIn wsX6_burns (va_wsS RX6 59 yX6_within wsX6_within) := goodIn_app (goodIn_of _ (by decide +kernel)) ggX6_burns_X6_within
set_option maxRecDepth 20000 in
theorem ggX6_burns_X6_runPlan : GoodIn wsX6_burns wsX6_runPlan := goodIn_r _ [21, 2, 22, 1, 23, 24, 25, 26, 27, 28, 29, 30, 31, 32, 33, 34, 35, 36, 37, 38, 39, 40, 41, 42, 43, 44, 45, 46, 47, 48, 49, 50, 51, 52, 53, 54, 55, 56, 57, 58, 59, 60, 61, 62, 63, 64, 7, 65, 9, 10, 11, 12, 13, 66, 67, 68, 69, 70, 71, 72, 73, 74, 75, 76, 77, 78, 79, 80, 81, 82, 83, 84, 85, 86, 87, 88, 15, 89, 90, 91, 92, 93, 94, 95, 96, 97, 98, 99, 100, 101, 102, 103, 104, 111, 112, 105, 106, 107, 108, 109, 110] (by decide +kernel) (by decide +kernel)
set_option maxRecDepth 20000 in
theorem gX6_burns_X6_runPlan : GoodIn wsX6_burns (wsV RX6 124 RX6 yX6_runPlan wsX6_runPlan) := goodIn_app (goodIn_of _ (by decide +kernel)) ggX6_burns_X6_runPlan
theorem dX6_burns_0 : decode cX6_burns 0 = .ok (.aload_n 0, 1) := by decide +kernel
theorem dX6_burns_1 : decode cX6_burns 1 = .ok (.getfield 10, 3) := by decide +kernel
theorem dX6_burns_4 : decode cX6_burns 4 = .ok (.iload_n 1, 1) := by decide +kernel
theorem dX6_burns_5 : decode cX6_burns 5 = .ok (.invokevirtual 121, 3) := by decide +kernel
theorem dX6_burns_8 : decode cX6_burns 8 = .ok (.ifCond .eq 13, 3) := by decide +kernel
theorem dX6_burns_11 : decode cX6_burns 11 = .ok (.iload_n 2, 1) := by decide +kernel
theorem dX6_burns_12 : decode cX6_burns 12 = .ok (.iconst 0, 1) := by decide +kernel
theorem dX6_burns_13 : decode cX6_burns 13 = .ok (.bipush 20, 2) := by decide +kernel
theorem dX6_burns_15 : decode cX6_burns 15 = .ok (.invokestatic 59, 3) := by decide +kernel
theorem dX6_burns_18 : decode cX6_burns 18 = .ok (.ifCond .ne 7, 3) := by decide +kernel
theorem dX6_burns_21 : decode cX6_burns 21 = .ok (.sipush (-1002), 3) := by decide +kernel
theorem dX6_burns_24 : decode cX6_burns 24 = .ok (.ireturn, 1) := by decide +kernel
theorem dX6_burns_25 : decode cX6_burns 25 = .ok (.aload_n 0, 1) := by decide +kernel
theorem dX6_burns_26 : decode cX6_burns 26 = .ok (.iload_n 1, 1) := by decide +kernel
theorem dX6_burns_27 : decode cX6_burns 27 = .ok (.iload_n 2, 1) := by decide +kernel
theorem dX6_burns_28 : decode cX6_burns 28 = .ok (.invokevirtual 124, 3) := by decide +kernel
theorem dX6_burns_31 : decode cX6_burns 31 = .ok (.aload_n 0, 1) := by decide +kernel
theorem dX6_burns_32 : decode cX6_burns 32 = .ok (.getfield 30, 3) := by decide +kernel
theorem dX6_burns_35 : decode cX6_burns 35 = .ok (.getfield 132, 3) := by decide +kernel
theorem dX6_burns_38 : decode cX6_burns 38 = .ok (.ireturn, 1) := by decide +kernel
set_option maxRecDepth 20000 in
theorem ggX6_best_X3_isStart : GoodIn wsX6_best wsX3_isStart := goodIn_r _ [11, 12, 13, 14, 10, 15, 16, 17, 18, 19, 126, 127, 128, 129, 130, 131] (by decide +kernel) (by decide +kernel)
set_option maxRecDepth 20000 in
theorem gX6_best_X3_isStart : GoodIn wsX6_best (wsV RX6 121 RX3 yX3_isStart wsX3_isStart) := goodIn_app (goodIn_of _ (by decide +kernel)) ggX6_best_X3_isStart
set_option maxRecDepth 20000 in
theorem ggX6_best_X6_within : GoodIn wsX6_best wsX6_within := goodIn_r _ [19] (by decide +kernel) (by decide +kernel)
set_option maxRecDepth 20000 in
theorem gX6_best_X6_within : GoodIn wsX6_best (va_wsS RX6 59 yX6_within wsX6_within) := goodIn_app (goodIn_of _ (by decide +kernel)) ggX6_best_X6_within
set_option maxRecDepth 20000 in
theorem ggX6_best_X6_seekBest : GoodIn wsX6_best wsX6_seekBest := goodIn_r _ [24, 2, 25, 26, 1, 27, 28, 29, 30, 31, 32, 33, 34, 35, 36, 37, 38, 39, 40, 41, 42, 43, 44, 45, 46, 47, 48, 49, 50, 51, 52, 53, 54, 55, 56, 57, 58, 59, 60, 61, 62, 63, 64, 13, 14, 10, 15, 16, 65, 66, 67, 68, 69, 70, 71, 72, 73, 74, 75, 76, 77, 78, 79, 80, 81, 82, 83, 17, 18, 19, 84, 85, 86, 87, 88, 89, 90, 91, 92, 93, 94, 95, 96, 97, 98, 99, 100, 12, 101, 102, 103, 104, 105, 110, 111, 112, 113, 114, 115, 116, 117, 118, 119, 120, 121, 122, 123, 124, 125, 132, 133, 126, 127, 128, 129, 130, 131] (by decide +kernel) (by decide +kernel)
set_option maxRecDepth 20000 in
theorem gX6_best_X6_seekBest : GoodIn wsX6_best (wsV RX6 147 RX6 yX6_seekBest wsX6_seekBest) := goodIn_app (goodIn_of _ (by decide +kernel)) ggX6_best_X6_seekBest
set_option maxRecDepth 20000 in
theorem ggX6_best_X5_chosen : GoodIn wsX6_best wsX5_chosen := goodIn_r _ [109, 96, 17, 18, 19, 118, 119, 120, 121, 122, 123, 124, 125] (by decide +kernel) (by decide +kernel)
set_option maxRecDepth 20000 in
theorem gX6_best_X5_chosen : GoodIn wsX6_best (wsV RX6 162 RX5 yX5_chosen wsX5_chosen) := goodIn_app (goodIn_of _ (by decide +kernel)) ggX6_best_X5_chosen
theorem dX6_best_0 : decode cX6_best 0 = .ok (.aload_n 0, 1) := by decide +kernel
theorem dX6_best_1 : decode cX6_best 1 = .ok (.getfield 10, 3) := by decide +kernel
theorem dX6_best_4 : decode cX6_best 4 = .ok (.iload_n 1, 1) := by decide +kernel
theorem dX6_best_5 : decode cX6_best 5 = .ok (.invokevirtual 121, 3) := by decide +kernel
theorem dX6_best_8 : decode cX6_best 8 = .ok (.ifCond .eq 13, 3) := by decide +kernel
theorem dX6_best_11 : decode cX6_best 11 = .ok (.iload_n 2, 1) := by decide +kernel
theorem dX6_best_12 : decode cX6_best 12 = .ok (.iconst 0, 1) := by decide +kernel
theorem dX6_best_13 : decode cX6_best 13 = .ok (.bipush 11, 2) := by decide +kernel
theorem dX6_best_15 : decode cX6_best 15 = .ok (.invokestatic 59, 3) := by decide +kernel
theorem dX6_best_18 : decode cX6_best 18 = .ok (.ifCond .ne 7, 3) := by decide +kernel
theorem dX6_best_21 : decode cX6_best 21 = .ok (.sipush (-1002), 3) := by decide +kernel
theorem dX6_best_24 : decode cX6_best 24 = .ok (.ireturn, 1) := by decide +kernel
theorem dX6_best_25 : decode cX6_best 25 = .ok (.aload_n 0, 1) := by decide +kernel
theorem dX6_best_26 : decode cX6_best 26 = .ok (.iload_n 1, 1) := by decide +kernel
theorem dX6_best_27 : decode cX6_best 27 = .ok (.invokevirtual 147, 3) := by decide +kernel
theorem dX6_best_30 : decode cX6_best 30 = .ok (.iload_n 2, 1) := by decide +kernel
theorem dX6_best_31 : decode cX6_best 31 = .ok (.tableswitch 69 0 3 #[29, 37, 45, 61], 29) := by decide +kernel
theorem dX6_best_60 : decode cX6_best 60 = .ok (.aload_n 0, 1) := by decide +kernel
theorem dX6_best_61 : decode cX6_best 61 = .ok (.getfield 37, 3) := by decide +kernel
theorem dX6_best_64 : decode cX6_best 64 = .ok (.getfield 150, 3) := by decide +kernel
theorem dX6_best_67 : decode cX6_best 67 = .ok (.ireturn, 1) := by decide +kernel
theorem dX6_best_68 : decode cX6_best 68 = .ok (.aload_n 0, 1) := by decide +kernel
theorem dX6_best_69 : decode cX6_best 69 = .ok (.getfield 37, 3) := by decide +kernel
theorem dX6_best_72 : decode cX6_best 72 = .ok (.getfield 153, 3) := by decide +kernel
theorem dX6_best_75 : decode cX6_best 75 = .ok (.ireturn, 1) := by decide +kernel
theorem dX6_best_76 : decode cX6_best 76 = .ok (.aload_n 0, 1) := by decide +kernel
theorem dX6_best_77 : decode cX6_best 77 = .ok (.getfield 37, 3) := by decide +kernel
theorem dX6_best_80 : decode cX6_best 80 = .ok (.getfield 156, 3) := by decide +kernel
theorem dX6_best_83 : decode cX6_best 83 = .ok (.ifCond .eq 7, 3) := by decide +kernel
theorem dX6_best_86 : decode cX6_best 86 = .ok (.iconst 1, 1) := by decide +kernel
theorem dX6_best_87 : decode cX6_best 87 = .ok (.goto 4, 3) := by decide +kernel
theorem dX6_best_90 : decode cX6_best 90 = .ok (.iconst 0, 1) := by decide +kernel
theorem dX6_best_91 : decode cX6_best 91 = .ok (.ireturn, 1) := by decide +kernel
theorem dX6_best_92 : decode cX6_best 92 = .ok (.aload_n 0, 1) := by decide +kernel
theorem dX6_best_93 : decode cX6_best 93 = .ok (.getfield 37, 3) := by decide +kernel
theorem dX6_best_96 : decode cX6_best 96 = .ok (.getfield 159, 3) := by decide +kernel
theorem dX6_best_99 : decode cX6_best 99 = .ok (.ireturn, 1) := by decide +kernel
theorem dX6_best_100 : decode cX6_best 100 = .ok (.aload_n 0, 1) := by decide +kernel
theorem dX6_best_101 : decode cX6_best 101 = .ok (.getfield 37, 3) := by decide +kernel
theorem dX6_best_104 : decode cX6_best 104 = .ok (.iload_n 2, 1) := by decide +kernel
theorem dX6_best_105 : decode cX6_best 105 = .ok (.iconst 3, 1) := by decide +kernel
theorem dX6_best_106 : decode cX6_best 106 = .ok (.isub, 1) := by decide +kernel
theorem dX6_best_107 : decode cX6_best 107 = .ok (.invokevirtual 162, 3) := by decide +kernel
theorem dX6_best_110 : decode cX6_best 110 = .ok (.ireturn, 1) := by decide +kernel
set_option maxRecDepth 20000 in
theorem ggX6_take_X3_isStart : GoodIn wsX6_take wsX3_isStart := goodIn_r _ [9, 10, 11, 12, 8, 13, 14, 15, 16, 17, 123, 124, 125, 126, 127, 128] (by decide +kernel) (by decide +kernel)
set_option maxRecDepth 20000 in
theorem gX6_take_X3_isStart : GoodIn wsX6_take (wsV RX6 121 RX3 yX3_isStart wsX3_isStart) := goodIn_app (goodIn_of _ (by decide +kernel)) ggX6_take_X3_isStart
set_option maxRecDepth 20000 in
theorem ggX6_take_X6_seekBest : GoodIn wsX6_take wsX6_seekBest := goodIn_r _ [21, 3, 22, 23, 1, 24, 25, 26, 27, 28, 29, 30, 31, 32, 33, 34, 35, 36, 37, 38, 39, 40, 41, 42, 43, 44, 45, 46, 47, 48, 49, 50, 51, 52, 53, 54, 55, 56, 57, 58, 59, 60, 61, 11, 12, 8, 13, 14, 62, 63, 64, 65, 66, 67, 68, 69, 70, 71, 72, 73, 74, 75, 76, 77, 78, 79, 80, 15, 16, 17, 81, 82, 83, 84, 85, 86, 87, 88, 89, 90, 91, 92, 93, 94, 95, 96, 97, 10, 98, 99, 100, 101, 102, 107, 108, 109, 110, 111, 112, 113, 114, 115, 116, 117, 118, 119, 120, 121, 122, 129, 130, 123, 124, 125, 126, 127, 128] (by decide +kernel) (by decide +kernel)
set_option maxRecDepth 20000 in
theorem gX6_take_X6_seekBest : GoodIn wsX6_take (wsV RX6 147 RX6 yX6_seekBest wsX6_seekBest) := goodIn_app (goodIn_of _ (by decide +kernel)) ggX6_take_X6_seekBest
set_option maxRecDepth 20000 in
theorem ggX6_take_X5_chosen : GoodIn wsX6_take wsX5_chosen := goodIn_r _ [106, 93, 15, 16, 17, 115, 116, 117, 118, 119, 120, 121, 122] (by decide +kernel) (by decide +kernel)
set_option maxRecDepth 20000 in
theorem gX6_take_X5_chosen : GoodIn wsX6_take (wsV RX6 162 RX5 yX5_chosen wsX5_chosen) := goodIn_app (goodIn_of _ (by decide +kernel)) ggX6_take_X5_chosen
theorem dX6_take_0 : decode cX6_take 0 = .ok (.aload_n 0, 1) := by decide +kernel
theorem dX6_take_1 : decode cX6_take 1 = .ok (.getfield 10, 3) := by decide +kernel
theorem dX6_take_4 : decode cX6_take 4 = .ok (.iload_n 1, 1) := by decide +kernel
theorem dX6_take_5 : decode cX6_take 5 = .ok (.invokevirtual 121, 3) := by decide +kernel
theorem dX6_take_8 : decode cX6_take 8 = .ok (.ifCond .ne 7, 3) := by decide +kernel
theorem dX6_take_11 : decode cX6_take 11 = .ok (.sipush (-1002), 3) := by decide +kernel
theorem dX6_take_14 : decode cX6_take 14 = .ok (.ireturn, 1) := by decide +kernel
theorem dX6_take_15 : decode cX6_take 15 = .ok (.aload_n 0, 1) := by decide +kernel
theorem dX6_take_16 : decode cX6_take 16 = .ok (.iload_n 1, 1) := by decide +kernel
theorem dX6_take_17 : decode cX6_take 17 = .ok (.invokevirtual 147, 3) := by decide +kernel
theorem dX6_take_20 : decode cX6_take 20 = .ok (.iconst 0, 1) := by decide +kernel
theorem dX6_take_21 : decode cX6_take 21 = .ok (.istore_n 2, 1) := by decide +kernel
theorem dX6_take_22 : decode cX6_take 22 = .ok (.iload_n 2, 1) := by decide +kernel
theorem dX6_take_23 : decode cX6_take 23 = .ok (.bipush 8, 2) := by decide +kernel
theorem dX6_take_25 : decode cX6_take 25 = .ok (.if_icmp .ge 25, 3) := by decide +kernel
theorem dX6_take_28 : decode cX6_take 28 = .ok (.aload_n 0, 1) := by decide +kernel
theorem dX6_take_29 : decode cX6_take 29 = .ok (.getfield 23, 3) := by decide +kernel
theorem dX6_take_32 : decode cX6_take 32 = .ok (.iload_n 2, 1) := by decide +kernel
theorem dX6_take_33 : decode cX6_take 33 = .ok (.aload_n 0, 1) := by decide +kernel
theorem dX6_take_34 : decode cX6_take 34 = .ok (.getfield 37, 3) := by decide +kernel
theorem dX6_take_37 : decode cX6_take 37 = .ok (.iload_n 2, 1) := by decide +kernel
theorem dX6_take_38 : decode cX6_take 38 = .ok (.iconst 1, 1) := by decide +kernel
theorem dX6_take_39 : decode cX6_take 39 = .ok (.iadd, 1) := by decide +kernel
theorem dX6_take_40 : decode cX6_take 40 = .ok (.invokevirtual 162, 3) := by decide +kernel
theorem dX6_take_43 : decode cX6_take 43 = .ok (.iastore, 1) := by decide +kernel
theorem dX6_take_44 : decode cX6_take 44 = .ok (.iinc 2 1, 3) := by decide +kernel
theorem dX6_take_47 : decode cX6_take 47 = .ok (.goto (-25), 3) := by decide +kernel
theorem dX6_take_50 : decode cX6_take 50 = .ok (.aload_n 0, 1) := by decide +kernel
theorem dX6_take_51 : decode cX6_take 51 = .ok (.getfield 37, 3) := by decide +kernel
theorem dX6_take_54 : decode cX6_take 54 = .ok (.getfield 150, 3) := by decide +kernel
theorem dX6_take_57 : decode cX6_take 57 = .ok (.ireturn, 1) := by decide +kernel
set_option maxRecDepth 20000 in
theorem ggX6_least_X3_isStart : GoodIn wsX6_least wsX3_isStart := goodIn_r _ [13, 14, 15, 16, 12, 17, 18, 19, 20, 21, 115, 116, 117, 118, 119, 120] (by decide +kernel) (by decide +kernel)
set_option maxRecDepth 20000 in
theorem gX6_least_X3_isStart : GoodIn wsX6_least (wsV RX6 121 RX3 yX3_isStart wsX3_isStart) := goodIn_app (goodIn_of _ (by decide +kernel)) ggX6_least_X3_isStart
set_option maxRecDepth 20000 in
theorem ggX6_least_X6_within : GoodIn wsX6_least wsX6_within := goodIn_r _ [21] (by decide +kernel) (by decide +kernel)
set_option maxRecDepth 20000 in
theorem gX6_least_X6_within : GoodIn wsX6_least (va_wsS RX6 59 yX6_within wsX6_within) := goodIn_app (goodIn_of _ (by decide +kernel)) ggX6_least_X6_within
set_option maxRecDepth 20000 in
theorem ggX6_least_J7_fill_53178 : GoodIn wsX6_least wsJ7_fill_53178 := goodIn_r _ [26] (by decide +kernel) (by decide +kernel)
set_option maxRecDepth 20000 in
theorem gX6_least_J7_fill_53178 : GoodIn wsX6_least (va_wsS RX6 67 yJ7_fill_53178 wsJ7_fill_53178) := goodIn_app (goodIn_of _ (by decide +kernel)) ggX6_least_J7_fill_53178
set_option maxRecDepth 20000 in
theorem ggX6_least_X5_run : GoodIn wsX6_least wsX5_run := goodIn_r _ [31, 32, 33, 34, 35, 36, 37, 38, 39, 40, 41, 42, 43, 44, 45, 46, 47, 48, 49, 50, 51, 52, 53, 30, 54, 55, 15, 16, 12, 17, 18, 56, 57, 58, 59, 60, 61, 62, 63, 64, 65, 66, 67, 68, 69, 70, 71, 72, 73, 74, 19, 20, 21, 75, 76, 77, 78, 79, 80, 81, 82, 83, 84, 85, 86, 87, 88, 89, 90, 91, 14, 92, 93, 94, 95, 96, 105, 106, 107, 108, 109, 110, 111, 112, 113, 114, 115, 116, 117, 118, 119, 120] (by decide +kernel) (by decide +kernel)
set_option maxRecDepth 20000 in
theorem gX6_least_X5_run : GoodIn wsX6_least (wsV RX6 168 RX5 yX5_run wsX5_run) := goodIn_app (goodIn_of _ (by decide +kernel)) ggX6_least_X5_run
theorem dX6_least_0 : decode cX6_least 0 = .ok (.aload_n 0, 1) := by decide +kernel
theorem dX6_least_1 : decode cX6_least 1 = .ok (.getfield 10, 3) := by decide +kernel
theorem dX6_least_4 : decode cX6_least 4 = .ok (.iload_n 1, 1) := by decide +kernel
theorem dX6_least_5 : decode cX6_least 5 = .ok (.invokevirtual 121, 3) := by decide +kernel
theorem dX6_least_8 : decode cX6_least 8 = .ok (.ifCond .eq 13, 3) := by decide +kernel
theorem dX6_least_11 : decode cX6_least 11 = .ok (.iload_n 2, 1) := by decide +kernel
theorem dX6_least_12 : decode cX6_least 12 = .ok (.iconst 0, 1) := by decide +kernel
theorem dX6_least_13 : decode cX6_least 13 = .ok (.bipush 90, 2) := by decide +kernel
theorem dX6_least_15 : decode cX6_least 15 = .ok (.invokestatic 59, 3) := by decide +kernel
theorem dX6_least_18 : decode cX6_least 18 = .ok (.ifCond .ne 7, 3) := by decide +kernel
theorem dX6_least_21 : decode cX6_least 21 = .ok (.sipush (-1002), 3) := by decide +kernel
theorem dX6_least_24 : decode cX6_least 24 = .ok (.ireturn, 1) := by decide +kernel
theorem dX6_least_25 : decode cX6_least 25 = .ok (.aload_n 0, 1) := by decide +kernel
theorem dX6_least_26 : decode cX6_least 26 = .ok (.getfield 37, 3) := by decide +kernel
theorem dX6_least_29 : decode cX6_least 29 = .ok (.getfield 165, 3) := by decide +kernel
theorem dX6_least_32 : decode cX6_least 32 = .ok (.aload_n 0, 1) := by decide +kernel
theorem dX6_least_33 : decode cX6_least 33 = .ok (.getfield 19, 3) := by decide +kernel
theorem dX6_least_36 : decode cX6_least 36 = .ok (.getfield 101, 3) := by decide +kernel
theorem dX6_least_39 : decode cX6_least 39 = .ok (.putfield 101, 3) := by decide +kernel
theorem dX6_least_42 : decode cX6_least 42 = .ok (.iconst 0, 1) := by decide +kernel
theorem dX6_least_43 : decode cX6_least 43 = .ok (.istore_n 3, 1) := by decide +kernel
theorem dX6_least_44 : decode cX6_least 44 = .ok (.iload_n 3, 1) := by decide +kernel
theorem dX6_least_45 : decode cX6_least 45 = .ok (.bipush 20, 2) := by decide +kernel
theorem dX6_least_47 : decode cX6_least 47 = .ok (.if_icmp .gt 52, 3) := by decide +kernel
theorem dX6_least_50 : decode cX6_least 50 = .ok (.aload_n 0, 1) := by decide +kernel
theorem dX6_least_51 : decode cX6_least 51 = .ok (.getfield 37, 3) := by decide +kernel
theorem dX6_least_54 : decode cX6_least 54 = .ok (.getfield 165, 3) := by decide +kernel
theorem dX6_least_57 : decode cX6_least 57 = .ok (.getfield 98, 3) := by decide +kernel
theorem dX6_least_60 : decode cX6_least 60 = .ok (.iload_n 3, 1) := by decide +kernel
theorem dX6_least_61 : decode cX6_least 61 = .ok (.invokestatic 67, 3) := by decide +kernel
theorem dX6_least_64 : decode cX6_least 64 = .ok (.aload_n 0, 1) := by decide +kernel
theorem dX6_least_65 : decode cX6_least 65 = .ok (.getfield 37, 3) := by decide +kernel
theorem dX6_least_68 : decode cX6_least 68 = .ok (.aload_n 0, 1) := by decide +kernel
theorem dX6_least_69 : decode cX6_least 69 = .ok (.getfield 10, 3) := by decide +kernel
theorem dX6_least_72 : decode cX6_least 72 = .ok (.aload_n 0, 1) := by decide +kernel
theorem dX6_least_73 : decode cX6_least 73 = .ok (.getfield 55, 3) := by decide +kernel
theorem dX6_least_76 : decode cX6_least 76 = .ok (.iload_n 1, 1) := by decide +kernel
theorem dX6_least_77 : decode cX6_least 77 = .ok (.invokevirtual 168, 3) := by decide +kernel
theorem dX6_least_80 : decode cX6_least 80 = .ok (.aload_n 0, 1) := by decide +kernel
theorem dX6_least_81 : decode cX6_least 81 = .ok (.getfield 37, 3) := by decide +kernel
theorem dX6_least_84 : decode cX6_least 84 = .ok (.getfield 150, 3) := by decide +kernel
theorem dX6_least_87 : decode cX6_least 87 = .ok (.iload_n 2, 1) := by decide +kernel
theorem dX6_least_88 : decode cX6_least 88 = .ok (.if_icmp .lt 5, 3) := by decide +kernel
theorem dX6_least_91 : decode cX6_least 91 = .ok (.iload_n 3, 1) := by decide +kernel
theorem dX6_least_92 : decode cX6_least 92 = .ok (.ireturn, 1) := by decide +kernel
theorem dX6_least_93 : decode cX6_least 93 = .ok (.iinc 3 1, 3) := by decide +kernel
theorem dX6_least_96 : decode cX6_least 96 = .ok (.goto (-52), 3) := by decide +kernel
theorem dX6_least_99 : decode cX6_least 99 = .ok (.iconst (-1), 1) := by decide +kernel
theorem dX6_least_100 : decode cX6_least 100 = .ok (.ireturn, 1) := by decide +kernel
set_option maxRecDepth 20000 in
theorem ggX6_live_X6_isRule : GoodIn wsX6_live wsX6_isRule := goodIn_r _ [9, 10, 11, 8, 12] (by decide +kernel) (by decide +kernel)
set_option maxRecDepth 20000 in
theorem gX6_live_X6_isRule : GoodIn wsX6_live (va_wsS RX6 172 yX6_isRule wsX6_isRule) := goodIn_app (goodIn_of _ (by decide +kernel)) ggX6_live_X6_isRule
set_option maxRecDepth 20000 in
theorem ggX6_live_X3_isStart : GoodIn wsX6_live wsX3_isStart := goodIn_r _ [17, 18, 19, 20, 16, 21, 22, 11, 8, 12, 129, 130, 131, 132, 133, 134] (by decide +kernel) (by decide +kernel)
set_option maxRecDepth 20000 in
theorem gX6_live_X3_isStart : GoodIn wsX6_live (wsV RX6 121 RX3 yX3_isStart wsX3_isStart) := goodIn_app (goodIn_of _ (by decide +kernel)) ggX6_live_X3_isStart
set_option maxRecDepth 20000 in
theorem ggX6_live_X6_within : GoodIn wsX6_live wsX6_within := goodIn_r _ [12] (by decide +kernel) (by decide +kernel)
set_option maxRecDepth 20000 in
theorem gX6_live_X6_within : GoodIn wsX6_live (va_wsS RX6 59 yX6_within wsX6_within) := goodIn_app (goodIn_of _ (by decide +kernel)) ggX6_live_X6_within
set_option maxRecDepth 20000 in
theorem ggX6_live_X6_runRule : GoodIn wsX6_live wsX6_runRule := goodIn_r _ [26, 2, 27, 1, 28, 29, 30, 31, 32, 33, 34, 35, 36, 37, 38, 39, 40, 41, 42, 43, 44, 45, 46, 47, 48, 49, 50, 51, 52, 53, 54, 55, 56, 57, 58, 59, 60, 61, 62, 63, 64, 65, 66, 67, 68, 16, 69, 70, 71, 72, 73, 74, 75, 76, 8, 77, 78, 79, 80, 81, 82, 83, 84, 85, 86, 87, 88, 89, 90, 91, 92, 93, 94, 95, 96, 97, 98, 99, 100, 101, 102, 103, 104, 105, 114, 115, 116, 117, 118, 119, 120, 121, 122, 123, 124, 125, 126, 127, 128, 135, 136, 129, 130, 131, 132, 133, 134] (by decide +kernel) (by decide +kernel)
set_option maxRecDepth 20000 in
theorem gX6_live_X6_runRule : GoodIn wsX6_live (wsV RX6 175 RX6 yX6_runRule wsX6_runRule) := goodIn_app (goodIn_of _ (by decide +kernel)) ggX6_live_X6_runRule
set_option maxRecDepth 20000 in
theorem ggX6_live_X3_savedFrom : GoodIn wsX6_live wsX3_savedFrom := goodIn_r _ [109, 18, 19, 20, 16, 21, 22, 110, 111, 112, 113, 82, 94, 95, 96, 129, 130, 131, 132, 133, 134] (by decide +kernel) (by decide +kernel)
set_option maxRecDepth 20000 in
theorem gX6_live_X3_savedFrom : GoodIn wsX6_live (wsV RX6 135 RX3 yX3_savedFrom wsX3_savedFrom) := goodIn_app (goodIn_of _ (by decide +kernel)) ggX6_live_X3_savedFrom
theorem dX6_live_0 : decode cX6_live 0 = .ok (.iload_n 1, 1) := by decide +kernel
theorem dX6_live_1 : decode cX6_live 1 = .ok (.invokestatic 172, 3) := by decide +kernel
theorem dX6_live_4 : decode cX6_live 4 = .ok (.ifCond .eq 23, 3) := by decide +kernel
theorem dX6_live_7 : decode cX6_live 7 = .ok (.aload_n 0, 1) := by decide +kernel
theorem dX6_live_8 : decode cX6_live 8 = .ok (.getfield 10, 3) := by decide +kernel
theorem dX6_live_11 : decode cX6_live 11 = .ok (.iload_n 2, 1) := by decide +kernel
theorem dX6_live_12 : decode cX6_live 12 = .ok (.invokevirtual 121, 3) := by decide +kernel
theorem dX6_live_15 : decode cX6_live 15 = .ok (.ifCond .eq 12, 3) := by decide +kernel
theorem dX6_live_18 : decode cX6_live 18 = .ok (.iload_n 3, 1) := by decide +kernel
theorem dX6_live_19 : decode cX6_live 19 = .ok (.iconst 0, 1) := by decide +kernel
theorem dX6_live_20 : decode cX6_live 20 = .ok (.iconst 2, 1) := by decide +kernel
theorem dX6_live_21 : decode cX6_live 21 = .ok (.invokestatic 59, 3) := by decide +kernel
theorem dX6_live_24 : decode cX6_live 24 = .ok (.ifCond .ne 7, 3) := by decide +kernel
theorem dX6_live_27 : decode cX6_live 27 = .ok (.sipush (-1002), 3) := by decide +kernel
theorem dX6_live_30 : decode cX6_live 30 = .ok (.ireturn, 1) := by decide +kernel
theorem dX6_live_31 : decode cX6_live 31 = .ok (.aload_n 0, 1) := by decide +kernel
theorem dX6_live_32 : decode cX6_live 32 = .ok (.iload_n 1, 1) := by decide +kernel
theorem dX6_live_33 : decode cX6_live 33 = .ok (.iload_n 2, 1) := by decide +kernel
theorem dX6_live_34 : decode cX6_live 34 = .ok (.invokevirtual 175, 3) := by decide +kernel
theorem dX6_live_37 : decode cX6_live 37 = .ok (.iload_n 3, 1) := by decide +kernel
theorem dX6_live_38 : decode cX6_live 38 = .ok (.lookupswitch 49 #[(0, 26), (1, 41)], 26) := by decide +kernel
theorem dX6_live_64 : decode cX6_live 64 = .ok (.aload_n 0, 1) := by decide +kernel
theorem dX6_live_65 : decode cX6_live 65 = .ok (.getfield 10, 3) := by decide +kernel
theorem dX6_live_68 : decode cX6_live 68 = .ok (.aload_n 0, 1) := by decide +kernel
theorem dX6_live_69 : decode cX6_live 69 = .ok (.getfield 30, 3) := by decide +kernel
theorem dX6_live_72 : decode cX6_live 72 = .ok (.getfield 132, 3) := by decide +kernel
theorem dX6_live_75 : decode cX6_live 75 = .ok (.invokevirtual 135, 3) := by decide +kernel
theorem dX6_live_78 : decode cX6_live 78 = .ok (.ireturn, 1) := by decide +kernel
theorem dX6_live_79 : decode cX6_live 79 = .ok (.aload_n 0, 1) := by decide +kernel
theorem dX6_live_80 : decode cX6_live 80 = .ok (.getfield 30, 3) := by decide +kernel
theorem dX6_live_83 : decode cX6_live 83 = .ok (.getfield 138, 3) := by decide +kernel
theorem dX6_live_86 : decode cX6_live 86 = .ok (.ireturn, 1) := by decide +kernel
theorem dX6_live_87 : decode cX6_live 87 = .ok (.aload_n 0, 1) := by decide +kernel
theorem dX6_live_88 : decode cX6_live 88 = .ok (.getfield 30, 3) := by decide +kernel
theorem dX6_live_91 : decode cX6_live 91 = .ok (.getfield 141, 3) := by decide +kernel
theorem dX6_live_94 : decode cX6_live 94 = .ok (.ireturn, 1) := by decide +kernel
set_option maxRecDepth 20000 in
theorem ggX6_share_X6_isRule : GoodIn wsX6_share wsX6_isRule := goodIn_r _ [7, 8, 9, 6, 10] (by decide +kernel) (by decide +kernel)
set_option maxRecDepth 20000 in
theorem gX6_share_X6_isRule : GoodIn wsX6_share (va_wsS RX6 172 yX6_isRule wsX6_isRule) := goodIn_app (goodIn_of _ (by decide +kernel)) ggX6_share_X6_isRule
set_option maxRecDepth 20000 in
theorem ggX6_share_X3_isStart : GoodIn wsX6_share wsX3_isStart := goodIn_r _ [15, 16, 17, 18, 14, 19, 20, 9, 6, 10, 190, 191, 192, 193, 194, 195] (by decide +kernel) (by decide +kernel)
set_option maxRecDepth 20000 in
theorem gX6_share_X3_isStart : GoodIn wsX6_share (wsV RX6 121 RX3 yX3_isStart wsX3_isStart) := goodIn_app (goodIn_of _ (by decide +kernel)) ggX6_share_X3_isStart
set_option maxRecDepth 20000 in
theorem ggX6_share_X6_within : GoodIn wsX6_share wsX6_within := goodIn_r _ [10] (by decide +kernel) (by decide +kernel)
set_option maxRecDepth 20000 in
theorem gX6_share_X6_within : GoodIn wsX6_share (va_wsS RX6 59 yX6_within wsX6_within) := goodIn_app (goodIn_of _ (by decide +kernel)) ggX6_share_X6_within
set_option maxRecDepth 20000 in
theorem ggX6_share_X6_savedByRule : GoodIn wsX6_share wsX6_savedByRule := goodIn_r _ [24, 1, 25, 26, 27, 28, 29, 6, 30, 31, 32, 33, 34, 35, 36, 37, 38, 39, 40, 41, 42, 43, 44, 45, 46, 47, 48, 49, 50, 51, 52, 53, 54, 55, 56, 57, 58, 59, 60, 61, 62, 63, 64, 65, 66, 67, 68, 69, 70, 71, 72, 14, 73, 74, 75, 76, 77, 78, 79, 80, 81, 82, 83, 84, 85, 86, 87, 88, 89, 90, 91, 92, 93, 94, 95, 96, 97, 98, 99, 100, 101, 102, 103, 104, 105, 106, 107, 108, 109, 110, 111, 112, 113, 16, 17, 18, 19, 20, 114, 115, 116, 117, 174, 175, 176, 177, 178, 179, 180, 181, 196, 197, 198, 199, 200, 201, 202, 203, 204, 190, 191, 192, 193, 194, 195] (by decide +kernel) (by decide +kernel)
set_option maxRecDepth 20000 in
theorem gX6_share_X6_savedByRule : GoodIn wsX6_share (wsV RX6 178 RX6 yX6_savedByRule wsX6_savedByRule) := goodIn_app (goodIn_of _ (by decide +kernel)) ggX6_share_X6_savedByRule
set_option maxRecDepth 20000 in
theorem ggX6_share_X6_seekBest : GoodIn wsX6_share wsX6_seekBest := goodIn_r _ [121, 2, 122, 31, 1, 123, 124, 125, 126, 55, 127, 64, 128, 129, 130, 131, 65, 132, 133, 134, 135, 136, 137, 138, 139, 140, 141, 142, 53, 54, 56, 57, 58, 59, 60, 61, 62, 63, 143, 144, 145, 146, 147, 17, 18, 14, 19, 20, 148, 95, 96, 97, 74, 98, 99, 100, 149, 150, 151, 152, 153, 154, 155, 156, 157, 158, 159, 9, 6, 10, 160, 76, 77, 78, 79, 80, 81, 161, 162, 163, 164, 165, 166, 167, 111, 112, 113, 16, 114, 115, 116, 117, 86, 174, 175, 176, 177, 178, 179, 180, 181, 182, 183, 184, 185, 186, 187, 188, 189, 203, 204, 190, 191, 192, 193, 194, 195] (by decide +kernel) (by decide +kernel)
set_option maxRecDepth 20000 in
theorem gX6_share_X6_seekBest : GoodIn wsX6_share (wsV RX6 147 RX6 yX6_seekBest wsX6_seekBest) := goodIn_app (goodIn_of _ (by decide +kernel)) ggX6_share_X6_seekBest
set_option maxRecDepth 20000 in
theorem ggX6_share_X6_fractionPart : GoodIn wsX6_share wsX6_fractionPart := goodIn_r _ [170, 171, 172, 6, 173] (by decide +kernel) (by decide +kernel)
set_option maxRecDepth 20000 in
theorem gX6_share_X6_fractionPart : GoodIn wsX6_share (va_wsS RX6 181 yX6_fractionPart wsX6_fractionPart) := goodIn_app (goodIn_of _ (by decide +kernel)) ggX6_share_X6_fractionPart
theorem dX6_share_0 : decode cX6_share 0 = .ok (.iload_n 1, 1) := by decide +kernel
theorem dX6_share_1 : decode cX6_share 1 = .ok (.invokestatic 172, 3) := by decide +kernel
theorem dX6_share_4 : decode cX6_share 4 = .ok (.ifCond .eq 23, 3) := by decide +kernel
theorem dX6_share_7 : decode cX6_share 7 = .ok (.aload_n 0, 1) := by decide +kernel
theorem dX6_share_8 : decode cX6_share 8 = .ok (.getfield 10, 3) := by decide +kernel
theorem dX6_share_11 : decode cX6_share 11 = .ok (.iload_n 2, 1) := by decide +kernel
theorem dX6_share_12 : decode cX6_share 12 = .ok (.invokevirtual 121, 3) := by decide +kernel
theorem dX6_share_15 : decode cX6_share 15 = .ok (.ifCond .eq 12, 3) := by decide +kernel
theorem dX6_share_18 : decode cX6_share 18 = .ok (.iload_n 3, 1) := by decide +kernel
theorem dX6_share_19 : decode cX6_share 19 = .ok (.iconst 0, 1) := by decide +kernel
theorem dX6_share_20 : decode cX6_share 20 = .ok (.iconst 1, 1) := by decide +kernel
theorem dX6_share_21 : decode cX6_share 21 = .ok (.invokestatic 59, 3) := by decide +kernel
theorem dX6_share_24 : decode cX6_share 24 = .ok (.ifCond .ne 7, 3) := by decide +kernel
theorem dX6_share_27 : decode cX6_share 27 = .ok (.sipush (-1002), 3) := by decide +kernel
theorem dX6_share_30 : decode cX6_share 30 = .ok (.ireturn, 1) := by decide +kernel
theorem dX6_share_31 : decode cX6_share 31 = .ok (.aload_n 0, 1) := by decide +kernel
theorem dX6_share_32 : decode cX6_share 32 = .ok (.iload_n 1, 1) := by decide +kernel
theorem dX6_share_33 : decode cX6_share 33 = .ok (.iload_n 2, 1) := by decide +kernel
theorem dX6_share_34 : decode cX6_share 34 = .ok (.invokevirtual 178, 3) := by decide +kernel
theorem dX6_share_37 : decode cX6_share 37 = .ok (.istore 4, 2) := by decide +kernel
theorem dX6_share_39 : decode cX6_share 39 = .ok (.aload_n 0, 1) := by decide +kernel
theorem dX6_share_40 : decode cX6_share 40 = .ok (.iload_n 2, 1) := by decide +kernel
theorem dX6_share_41 : decode cX6_share 41 = .ok (.invokevirtual 147, 3) := by decide +kernel
theorem dX6_share_44 : decode cX6_share 44 = .ok (.aload_n 0, 1) := by decide +kernel
theorem dX6_share_45 : decode cX6_share 45 = .ok (.getfield 37, 3) := by decide +kernel
theorem dX6_share_48 : decode cX6_share 48 = .ok (.getfield 150, 3) := by decide +kernel
theorem dX6_share_51 : decode cX6_share 51 = .ok (.ifCond .gt 5, 3) := by decide +kernel
theorem dX6_share_54 : decode cX6_share 54 = .ok (.iconst 1, 1) := by decide +kernel
theorem dX6_share_55 : decode cX6_share 55 = .ok (.ireturn, 1) := by decide +kernel
theorem dX6_share_56 : decode cX6_share 56 = .ok (.iload 4, 2) := by decide +kernel
theorem dX6_share_58 : decode cX6_share 58 = .ok (.i2l, 1) := by decide +kernel
theorem dX6_share_59 : decode cX6_share 59 = .ok (.aload_n 0, 1) := by decide +kernel
theorem dX6_share_60 : decode cX6_share 60 = .ok (.getfield 37, 3) := by decide +kernel
theorem dX6_share_63 : decode cX6_share 63 = .ok (.getfield 150, 3) := by decide +kernel
theorem dX6_share_66 : decode cX6_share 66 = .ok (.i2l, 1) := by decide +kernel
theorem dX6_share_67 : decode cX6_share 67 = .ok (.iload_n 3, 1) := by decide +kernel
theorem dX6_share_68 : decode cX6_share 68 = .ok (.invokestatic 181, 3) := by decide +kernel
theorem dX6_share_71 : decode cX6_share 71 = .ok (.l2i, 1) := by decide +kernel
theorem dX6_share_72 : decode cX6_share 72 = .ok (.ireturn, 1) := by decide +kernel
set_option maxRecDepth 20000 in
theorem ggX6_worst_X6_isRule : GoodIn wsX6_worst wsX6_isRule := goodIn_r _ [8, 9, 10, 7, 11] (by decide +kernel) (by decide +kernel)
set_option maxRecDepth 20000 in
theorem gX6_worst_X6_isRule : GoodIn wsX6_worst (va_wsS RX6 172 yX6_isRule wsX6_isRule) := goodIn_app (goodIn_of _ (by decide +kernel)) ggX6_worst_X6_isRule
set_option maxRecDepth 20000 in
theorem ggX6_worst_X6_savedByRule : GoodIn wsX6_worst wsX6_savedByRule := goodIn_r _ [15, 1, 16, 17, 18, 19, 20, 7, 21, 22, 23, 24, 25, 26, 27, 28, 29, 30, 31, 32, 33, 34, 35, 36, 37, 38, 39, 40, 41, 42, 43, 44, 45, 46, 47, 48, 49, 50, 51, 52, 53, 54, 55, 56, 57, 58, 59, 60, 61, 62, 63, 64, 65, 66, 67, 68, 69, 70, 71, 72, 73, 74, 75, 76, 77, 78, 79, 80, 81, 82, 83, 84, 85, 86, 87, 88, 89, 90, 91, 92, 93, 94, 95, 96, 97, 98, 99, 100, 101, 102, 103, 104, 105, 106, 107, 108, 109, 110, 111, 112, 113, 114, 165, 166, 167, 168, 169, 170, 171, 172, 187, 188, 189, 190, 191, 192, 193, 194, 195, 173, 174, 175, 176, 177, 178] (by decide +kernel) (by decide +kernel)
set_option maxRecDepth 20000 in
theorem gX6_worst_X6_savedByRule : GoodIn wsX6_worst (wsV RX6 178 RX6 yX6_savedByRule wsX6_savedByRule) := goodIn_app (goodIn_of _ (by decide +kernel)) ggX6_worst_X6_savedByRule
set_option maxRecDepth 20000 in
theorem ggX6_worst_X6_seekBest : GoodIn wsX6_worst wsX6_seekBest := goodIn_r _ [118, 3, 119, 22, 1, 120, 121, 122, 123, 46, 124, 55, 125, 126, 127, 128, 56, 129, 130, 131, 132, 133, 134, 135, 136, 137, 138, 139, 44, 45, 47, 48, 49, 50, 51, 52, 53, 54, 140, 141, 142, 143, 144, 107, 108, 64, 109, 110, 145, 87, 88, 89, 66, 90, 91, 92, 146, 147, 148, 149, 150, 151, 152, 153, 154, 155, 156, 10, 7, 11, 157, 68, 69, 70, 71, 72, 73, 158, 159, 160, 161, 162, 163, 164, 103, 104, 105, 106, 111, 112, 113, 114, 78, 165, 166, 167, 168, 169, 170, 171, 172, 179, 180, 181, 182, 183, 184, 185, 186, 194, 195, 173, 174, 175, 176, 177, 178] (by decide +kernel) (by decide +kernel)
set_option maxRecDepth 20000 in
theorem gX6_worst_X6_seekBest : GoodIn wsX6_worst (wsV RX6 147 RX6 yX6_seekBest wsX6_seekBest) := goodIn_app (goodIn_of _ (by decide +kernel)) ggX6_worst_X6_seekBest
theorem dX6_worst_0 : decode cX6_worst 0 = .ok (.iload_n 1, 1) := by decide +kernel
theorem dX6_worst_1 : decode cX6_worst 1 = .ok (.invokestatic 172, 3) := by decide +kernel
theorem dX6_worst_4 : decode cX6_worst 4 = .ok (.ifCond .ne 7, 3) := by decide +kernel
theorem dX6_worst_7 : decode cX6_worst 7 = .ok (.sipush (-1002), 3) := by decide +kernel
theorem dX6_worst_10 : decode cX6_worst 10 = .ok (.ireturn, 1) := by decide +kernel
theorem dX6_worst_11 : decode cX6_worst 11 = .ok (.iconst 0, 1) := by decide +kernel
theorem dX6_worst_12 : decode cX6_worst 12 = .ok (.istore_n 2, 1) := by decide +kernel
theorem dX6_worst_13 : decode cX6_worst 13 = .ok (.iconst 0, 1) := by decide +kernel
theorem dX6_worst_14 : decode cX6_worst 14 = .ok (.istore_n 3, 1) := by decide +kernel
theorem dX6_worst_15 : decode cX6_worst 15 = .ok (.iconst 0, 1) := by decide +kernel
theorem dX6_worst_16 : decode cX6_worst 16 = .ok (.istore 4, 2) := by decide +kernel
theorem dX6_worst_18 : decode cX6_worst 18 = .ok (.iconst 0, 1) := by decide +kernel
theorem dX6_worst_19 : decode cX6_worst 19 = .ok (.istore 5, 2) := by decide +kernel
theorem dX6_worst_21 : decode cX6_worst 21 = .ok (.iload 5, 2) := by decide +kernel
theorem dX6_worst_23 : decode cX6_worst 23 = .ok (.aload_n 0, 1) := by decide +kernel
theorem dX6_worst_24 : decode cX6_worst 24 = .ok (.getfield 10, 3) := by decide +kernel
theorem dX6_worst_27 : decode cX6_worst 27 = .ok (.getfield 104, 3) := by decide +kernel
theorem dX6_worst_30 : decode cX6_worst 30 = .ok (.if_icmp .ge 75, 3) := by decide +kernel
theorem dX6_worst_33 : decode cX6_worst 33 = .ok (.aload_n 0, 1) := by decide +kernel
theorem dX6_worst_34 : decode cX6_worst 34 = .ok (.iload_n 1, 1) := by decide +kernel
theorem dX6_worst_35 : decode cX6_worst 35 = .ok (.iconst 1, 1) := by decide +kernel
theorem dX6_worst_36 : decode cX6_worst 36 = .ok (.iload 5, 2) := by decide +kernel
theorem dX6_worst_38 : decode cX6_worst 38 = .ok (.ishl, 1) := by decide +kernel
theorem dX6_worst_39 : decode cX6_worst 39 = .ok (.invokevirtual 178, 3) := by decide +kernel
theorem dX6_worst_42 : decode cX6_worst 42 = .ok (.istore 6, 2) := by decide +kernel
theorem dX6_worst_44 : decode cX6_worst 44 = .ok (.aload_n 0, 1) := by decide +kernel
theorem dX6_worst_45 : decode cX6_worst 45 = .ok (.iconst 1, 1) := by decide +kernel
theorem dX6_worst_46 : decode cX6_worst 46 = .ok (.iload 5, 2) := by decide +kernel
theorem dX6_worst_48 : decode cX6_worst 48 = .ok (.ishl, 1) := by decide +kernel
theorem dX6_worst_49 : decode cX6_worst 49 = .ok (.invokevirtual 147, 3) := by decide +kernel
theorem dX6_worst_52 : decode cX6_worst 52 = .ok (.aload_n 0, 1) := by decide +kernel
theorem dX6_worst_53 : decode cX6_worst 53 = .ok (.getfield 37, 3) := by decide +kernel
theorem dX6_worst_56 : decode cX6_worst 56 = .ok (.getfield 150, 3) := by decide +kernel
theorem dX6_worst_59 : decode cX6_worst 59 = .ok (.istore 7, 2) := by decide +kernel
theorem dX6_worst_61 : decode cX6_worst 61 = .ok (.iload 7, 2) := by decide +kernel
theorem dX6_worst_63 : decode cX6_worst 63 = .ok (.ifCond .gt 9, 3) := by decide +kernel
theorem dX6_worst_66 : decode cX6_worst 66 = .ok (.iconst 1, 1) := by decide +kernel
theorem dX6_worst_67 : decode cX6_worst 67 = .ok (.istore 6, 2) := by decide +kernel
theorem dX6_worst_69 : decode cX6_worst 69 = .ok (.iconst 1, 1) := by decide +kernel
theorem dX6_worst_70 : decode cX6_worst 70 = .ok (.istore 7, 2) := by decide +kernel
theorem dX6_worst_72 : decode cX6_worst 72 = .ok (.iload 5, 2) := by decide +kernel
theorem dX6_worst_74 : decode cX6_worst 74 = .ok (.ifCond .eq 15, 3) := by decide +kernel
theorem dX6_worst_77 : decode cX6_worst 77 = .ok (.iload 6, 2) := by decide +kernel
theorem dX6_worst_79 : decode cX6_worst 79 = .ok (.iload 4, 2) := by decide +kernel
theorem dX6_worst_81 : decode cX6_worst 81 = .ok (.imul, 1) := by decide +kernel
theorem dX6_worst_82 : decode cX6_worst 82 = .ok (.iload_n 3, 1) := by decide +kernel
theorem dX6_worst_83 : decode cX6_worst 83 = .ok (.iload 7, 2) := by decide +kernel
theorem dX6_worst_85 : decode cX6_worst 85 = .ok (.imul, 1) := by decide +kernel
theorem dX6_worst_86 : decode cX6_worst 86 = .ok (.if_icmp .ge 13, 3) := by decide +kernel
theorem dX6_worst_89 : decode cX6_worst 89 = .ok (.iload 5, 2) := by decide +kernel
theorem dX6_worst_91 : decode cX6_worst 91 = .ok (.istore_n 2, 1) := by decide +kernel
theorem dX6_worst_92 : decode cX6_worst 92 = .ok (.iload 6, 2) := by decide +kernel
theorem dX6_worst_94 : decode cX6_worst 94 = .ok (.istore_n 3, 1) := by decide +kernel
theorem dX6_worst_95 : decode cX6_worst 95 = .ok (.iload 7, 2) := by decide +kernel
theorem dX6_worst_97 : decode cX6_worst 97 = .ok (.istore 4, 2) := by decide +kernel
theorem dX6_worst_99 : decode cX6_worst 99 = .ok (.iinc 5 1, 3) := by decide +kernel
theorem dX6_worst_102 : decode cX6_worst 102 = .ok (.goto (-81), 3) := by decide +kernel
theorem dX6_worst_105 : decode cX6_worst 105 = .ok (.iload_n 2, 1) := by decide +kernel
theorem dX6_worst_106 : decode cX6_worst 106 = .ok (.ireturn, 1) := by decide +kernel
set_option maxRecDepth 20000 in
theorem ggX6_mean_X6_isRule : GoodIn wsX6_mean wsX6_isRule := goodIn_r _ [5, 6, 7, 4, 8] (by decide +kernel) (by decide +kernel)
set_option maxRecDepth 20000 in
theorem gX6_mean_X6_isRule : GoodIn wsX6_mean (va_wsS RX6 172 yX6_isRule wsX6_isRule) := goodIn_app (goodIn_of _ (by decide +kernel)) ggX6_mean_X6_isRule
set_option maxRecDepth 20000 in
theorem ggX6_mean_X3_isStart : GoodIn wsX6_mean wsX3_isStart := goodIn_r _ [13, 14, 15, 16, 12, 17, 18, 7, 4, 8, 132, 133, 134, 135, 136, 137] (by decide +kernel) (by decide +kernel)
set_option maxRecDepth 20000 in
theorem gX6_mean_X3_isStart : GoodIn wsX6_mean (wsV RX6 121 RX3 yX3_isStart wsX3_isStart) := goodIn_app (goodIn_of _ (by decide +kernel)) ggX6_mean_X3_isStart
set_option maxRecDepth 20000 in
theorem ggX6_mean_X6_within : GoodIn wsX6_mean wsX6_within := goodIn_r _ [8] (by decide +kernel) (by decide +kernel)
set_option maxRecDepth 20000 in
theorem gX6_mean_X6_within : GoodIn wsX6_mean (va_wsS RX6 59 yX6_within wsX6_within) := goodIn_app (goodIn_of _ (by decide +kernel)) ggX6_mean_X6_within
set_option maxRecDepth 20000 in
theorem ggX6_mean_X6_holds : GoodIn wsX6_mean wsX6_holds := goodIn_r _ [21] (by decide +kernel) (by decide +kernel)
set_option maxRecDepth 20000 in
theorem gX6_mean_X6_holds : GoodIn wsX6_mean (va_wsS RX6 185 yX6_holds wsX6_holds) := goodIn_app (goodIn_of _ (by decide +kernel)) ggX6_mean_X6_holds
set_option maxRecDepth 20000 in
theorem ggX6_mean_X6_savedByRule : GoodIn wsX6_mean wsX6_savedByRule := goodIn_r _ [25, 1, 26, 27, 28, 29, 30, 4, 31, 32, 33, 34, 35, 36, 37, 38, 39, 40, 41, 42, 43, 44, 45, 46, 47, 48, 49, 50, 51, 52, 53, 54, 55, 56, 57, 58, 59, 60, 61, 62, 63, 64, 65, 66, 67, 68, 69, 70, 71, 72, 73, 12, 74, 75, 76, 77, 78, 79, 80, 20, 21, 81, 82, 83, 84, 85, 86, 87, 88, 89, 90, 91, 92, 93, 94, 95, 96, 97, 98, 99, 100, 101, 102, 103, 104, 105, 106, 107, 108, 109, 110, 111, 112, 14, 15, 16, 17, 18, 113, 114, 115, 116, 124, 125, 126, 127, 128, 129, 130, 131, 138, 139, 140, 141, 142, 143, 144, 145, 146, 132, 133, 134, 135, 136, 137] (by decide +kernel) (by decide +kernel)
set_option maxRecDepth 20000 in
theorem gX6_mean_X6_savedByRule : GoodIn wsX6_mean (wsV RX6 178 RX6 yX6_savedByRule wsX6_savedByRule) := goodIn_app (goodIn_of _ (by decide +kernel)) ggX6_mean_X6_savedByRule
set_option maxRecDepth 20000 in
theorem ggX6_mean_J6_bitCount_0f7a4 : GoodIn wsX6_mean wsJ6_bitCount_0f7a4 := goodIn_r _ [89, 90, 91, 92] (by decide +kernel) (by decide +kernel)
set_option maxRecDepth 20000 in
theorem gX6_mean_J6_bitCount_0f7a4 : GoodIn wsX6_mean (va_wsS RX6 188 yJ6_bitCount_0f7a4 wsJ6_bitCount_0f7a4) := goodIn_app (goodIn_of _ (by decide +kernel)) ggX6_mean_J6_bitCount_0f7a4
set_option maxRecDepth 20000 in
theorem ggX6_mean_X6_fractionPart : GoodIn wsX6_mean wsX6_fractionPart := goodIn_r _ [120, 121, 122, 4, 123] (by decide +kernel) (by decide +kernel)
set_option maxRecDepth 20000 in
theorem gX6_mean_X6_fractionPart : GoodIn wsX6_mean (va_wsS RX6 181 yX6_fractionPart wsX6_fractionPart) := goodIn_app (goodIn_of _ (by decide +kernel)) ggX6_mean_X6_fractionPart
theorem dX6_mean_0 : decode cX6_mean 0 = .ok (.iload_n 1, 1) := by decide +kernel
theorem dX6_mean_1 : decode cX6_mean 1 = .ok (.invokestatic 172, 3) := by decide +kernel
theorem dX6_mean_4 : decode cX6_mean 4 = .ok (.ifCond .eq 23, 3) := by decide +kernel
theorem dX6_mean_7 : decode cX6_mean 7 = .ok (.aload_n 0, 1) := by decide +kernel
theorem dX6_mean_8 : decode cX6_mean 8 = .ok (.getfield 10, 3) := by decide +kernel
theorem dX6_mean_11 : decode cX6_mean 11 = .ok (.iload_n 2, 1) := by decide +kernel
theorem dX6_mean_12 : decode cX6_mean 12 = .ok (.invokevirtual 121, 3) := by decide +kernel
theorem dX6_mean_15 : decode cX6_mean 15 = .ok (.ifCond .eq 12, 3) := by decide +kernel
theorem dX6_mean_18 : decode cX6_mean 18 = .ok (.iload_n 3, 1) := by decide +kernel
theorem dX6_mean_19 : decode cX6_mean 19 = .ok (.iconst 0, 1) := by decide +kernel
theorem dX6_mean_20 : decode cX6_mean 20 = .ok (.iconst 1, 1) := by decide +kernel
theorem dX6_mean_21 : decode cX6_mean 21 = .ok (.invokestatic 59, 3) := by decide +kernel
theorem dX6_mean_24 : decode cX6_mean 24 = .ok (.ifCond .ne 7, 3) := by decide +kernel
theorem dX6_mean_27 : decode cX6_mean 27 = .ok (.sipush (-1002), 3) := by decide +kernel
theorem dX6_mean_30 : decode cX6_mean 30 = .ok (.ireturn, 1) := by decide +kernel
theorem dX6_mean_31 : decode cX6_mean 31 = .ok (.iconst 0, 1) := by decide +kernel
theorem dX6_mean_32 : decode cX6_mean 32 = .ok (.istore 4, 2) := by decide +kernel
theorem dX6_mean_34 : decode cX6_mean 34 = .ok (.iconst 0, 1) := by decide +kernel
theorem dX6_mean_35 : decode cX6_mean 35 = .ok (.istore 5, 2) := by decide +kernel
theorem dX6_mean_37 : decode cX6_mean 37 = .ok (.iload 5, 2) := by decide +kernel
theorem dX6_mean_39 : decode cX6_mean 39 = .ok (.bipush 10, 2) := by decide +kernel
theorem dX6_mean_41 : decode cX6_mean 41 = .ok (.if_icmp .ge 32, 3) := by decide +kernel
theorem dX6_mean_44 : decode cX6_mean 44 = .ok (.iload_n 2, 1) := by decide +kernel
theorem dX6_mean_45 : decode cX6_mean 45 = .ok (.iload 5, 2) := by decide +kernel
theorem dX6_mean_47 : decode cX6_mean 47 = .ok (.invokestatic 185, 3) := by decide +kernel
theorem dX6_mean_50 : decode cX6_mean 50 = .ok (.ifCond .eq 17, 3) := by decide +kernel
theorem dX6_mean_53 : decode cX6_mean 53 = .ok (.iload 4, 2) := by decide +kernel
theorem dX6_mean_55 : decode cX6_mean 55 = .ok (.aload_n 0, 1) := by decide +kernel
theorem dX6_mean_56 : decode cX6_mean 56 = .ok (.iload_n 1, 1) := by decide +kernel
theorem dX6_mean_57 : decode cX6_mean 57 = .ok (.iconst 1, 1) := by decide +kernel
theorem dX6_mean_58 : decode cX6_mean 58 = .ok (.iload 5, 2) := by decide +kernel
theorem dX6_mean_60 : decode cX6_mean 60 = .ok (.ishl, 1) := by decide +kernel
theorem dX6_mean_61 : decode cX6_mean 61 = .ok (.invokevirtual 178, 3) := by decide +kernel
theorem dX6_mean_64 : decode cX6_mean 64 = .ok (.iadd, 1) := by decide +kernel
theorem dX6_mean_65 : decode cX6_mean 65 = .ok (.istore 4, 2) := by decide +kernel
theorem dX6_mean_67 : decode cX6_mean 67 = .ok (.iinc 5 1, 3) := by decide +kernel
theorem dX6_mean_70 : decode cX6_mean 70 = .ok (.goto (-33), 3) := by decide +kernel
theorem dX6_mean_73 : decode cX6_mean 73 = .ok (.iload 4, 2) := by decide +kernel
theorem dX6_mean_75 : decode cX6_mean 75 = .ok (.i2l, 1) := by decide +kernel
theorem dX6_mean_76 : decode cX6_mean 76 = .ok (.iload_n 2, 1) := by decide +kernel
theorem dX6_mean_77 : decode cX6_mean 77 = .ok (.invokestatic 188, 3) := by decide +kernel
theorem dX6_mean_80 : decode cX6_mean 80 = .ok (.i2l, 1) := by decide +kernel
theorem dX6_mean_81 : decode cX6_mean 81 = .ok (.iload_n 3, 1) := by decide +kernel
theorem dX6_mean_82 : decode cX6_mean 82 = .ok (.invokestatic 181, 3) := by decide +kernel
theorem dX6_mean_85 : decode cX6_mean 85 = .ok (.l2i, 1) := by decide +kernel
theorem dX6_mean_86 : decode cX6_mean 86 = .ok (.ireturn, 1) := by decide +kernel
set_option maxRecDepth 20000 in
theorem ggX6_chance_X3_has : GoodIn wsX6_chance wsX3_has := goodIn_r _ [11, 12, 13, 14, 15, 85, 86, 87, 88, 89, 90] (by decide +kernel) (by decide +kernel)
set_option maxRecDepth 20000 in
theorem gX6_chance_X3_has : GoodIn wsX6_chance (wsV RX6 73 RX3 yX3_has wsX3_has) := goodIn_app (goodIn_of _ (by decide +kernel)) ggX6_chance_X3_has
set_option maxRecDepth 20000 in
theorem ggX6_chance_X3_isStart : GoodIn wsX6_chance wsX3_isStart := goodIn_r _ [19, 20, 21, 22, 10, 23, 12, 13, 14, 15, 85, 86, 87, 88, 89, 90] (by decide +kernel) (by decide +kernel)
set_option maxRecDepth 20000 in
theorem gX6_chance_X3_isStart : GoodIn wsX6_chance (wsV RX6 121 RX3 yX3_isStart wsX3_isStart) := goodIn_app (goodIn_of _ (by decide +kernel)) ggX6_chance_X3_isStart
set_option maxRecDepth 20000 in
theorem ggX6_chance_X3_all : GoodIn wsX6_chance wsX3_all := goodIn_r _ [23, 12, 85, 86, 87, 88, 89, 90] (by decide +kernel) (by decide +kernel)
set_option maxRecDepth 20000 in
theorem gX6_chance_X3_all : GoodIn wsX6_chance (wsV RX6 107 RX3 yX3_all wsX3_all) := goodIn_app (goodIn_of _ (by decide +kernel)) ggX6_chance_X3_all
set_option maxRecDepth 20000 in
theorem ggX6_chance_X6_within : GoodIn wsX6_chance wsX6_within := goodIn_r _ [15] (by decide +kernel) (by decide +kernel)
set_option maxRecDepth 20000 in
theorem gX6_chance_X6_within : GoodIn wsX6_chance (va_wsS RX6 59 yX6_within wsX6_within) := goodIn_app (goodIn_of _ (by decide +kernel)) ggX6_chance_X6_within
set_option maxRecDepth 20000 in
theorem ggX6_chance_X1_lay : GoodIn wsX6_chance wsX1_lay := goodIn_r _ [30, 31, 32, 33, 34, 35, 36, 37, 38, 39, 40, 41, 42, 43, 10, 44, 45, 85, 86, 87, 88, 89, 90, 91, 92, 93, 94, 95] (by decide +kernel) (by decide +kernel)
set_option maxRecDepth 20000 in
theorem gX6_chance_X1_lay : GoodIn wsX6_chance (wsV RX6 199 RX1 yX1_lay wsX1_lay) := goodIn_app (goodIn_of _ (by decide +kernel)) ggX6_chance_X1_lay
set_option maxRecDepth 20000 in
theorem ggX6_chance_X1_waysTo : GoodIn wsX6_chance wsX1_waysTo := goodIn_r _ [49, 36, 50, 51, 52, 29, 53, 39, 40, 54, 55, 56, 57, 58, 59, 60, 37, 38, 61, 14, 62, 63, 64, 65, 66, 91, 92, 93, 94, 95] (by decide +kernel) (by decide +kernel)
set_option maxRecDepth 20000 in
theorem gX6_chance_X1_waysTo : GoodIn wsX6_chance (wsV RX6 203 RX1 yX1_waysTo wsX1_waysTo) := goodIn_app (goodIn_of _ (by decide +kernel)) ggX6_chance_X1_waysTo
set_option maxRecDepth 20000 in
theorem ggX6_chance_X1_allWays : GoodIn wsX6_chance wsX1_allWays := goodIn_r _ [70, 39, 40, 36, 54, 55, 29, 56, 91, 92, 93, 94, 95] (by decide +kernel) (by decide +kernel)
set_option maxRecDepth 20000 in
theorem gX6_chance_X1_allWays : GoodIn wsX6_chance (wsV RX6 207 RX1 yX1_allWays wsX1_allWays) := goodIn_app (goodIn_of _ (by decide +kernel)) ggX6_chance_X1_allWays
set_option maxRecDepth 20000 in
theorem ggX6_chance_X6_fractionPart : GoodIn wsX6_chance wsX6_fractionPart := goodIn_r _ [73, 74, 75, 14, 76] (by decide +kernel) (by decide +kernel)
set_option maxRecDepth 20000 in
theorem gX6_chance_X6_fractionPart : GoodIn wsX6_chance (va_wsS RX6 181 yX6_fractionPart wsX6_fractionPart) := goodIn_app (goodIn_of _ (by decide +kernel)) ggX6_chance_X6_fractionPart
theorem dX6_chance_0 : decode cX6_chance 0 = .ok (.aload_n 0, 1) := by decide +kernel
theorem dX6_chance_1 : decode cX6_chance 1 = .ok (.getfield 10, 3) := by decide +kernel
theorem dX6_chance_4 : decode cX6_chance 4 = .ok (.iload_n 1, 1) := by decide +kernel
theorem dX6_chance_5 : decode cX6_chance 5 = .ok (.invokevirtual 73, 3) := by decide +kernel
theorem dX6_chance_8 : decode cX6_chance 8 = .ok (.ifCond .ne 7, 3) := by decide +kernel
theorem dX6_chance_11 : decode cX6_chance 11 = .ok (.ldc2_w 193, 3) := by decide +kernel
theorem dX6_chance_14 : decode cX6_chance 14 = .ok (.lreturn, 1) := by decide +kernel
theorem dX6_chance_15 : decode cX6_chance 15 = .ok (.aload_n 0, 1) := by decide +kernel
theorem dX6_chance_16 : decode cX6_chance 16 = .ok (.getfield 10, 3) := by decide +kernel
theorem dX6_chance_19 : decode cX6_chance 19 = .ok (.iload_n 2, 1) := by decide +kernel
theorem dX6_chance_20 : decode cX6_chance 20 = .ok (.invokevirtual 121, 3) := by decide +kernel
theorem dX6_chance_23 : decode cX6_chance 23 = .ok (.ifCond .eq 18, 3) := by decide +kernel
theorem dX6_chance_26 : decode cX6_chance 26 = .ok (.iload_n 3, 1) := by decide +kernel
theorem dX6_chance_27 : decode cX6_chance 27 = .ok (.iconst 0, 1) := by decide +kernel
theorem dX6_chance_28 : decode cX6_chance 28 = .ok (.aload_n 0, 1) := by decide +kernel
theorem dX6_chance_29 : decode cX6_chance 29 = .ok (.getfield 10, 3) := by decide +kernel
theorem dX6_chance_32 : decode cX6_chance 32 = .ok (.invokevirtual 107, 3) := by decide +kernel
theorem dX6_chance_35 : decode cX6_chance 35 = .ok (.invokestatic 59, 3) := by decide +kernel
theorem dX6_chance_38 : decode cX6_chance 38 = .ok (.ifCond .ne 7, 3) := by decide +kernel
theorem dX6_chance_41 : decode cX6_chance 41 = .ok (.ldc2_w 195, 3) := by decide +kernel
theorem dX6_chance_44 : decode cX6_chance 44 = .ok (.lreturn, 1) := by decide +kernel
theorem dX6_chance_45 : decode cX6_chance 45 = .ok (.iload 5, 2) := by decide +kernel
theorem dX6_chance_47 : decode cX6_chance 47 = .ok (.iconst 1, 1) := by decide +kernel
theorem dX6_chance_48 : decode cX6_chance 48 = .ok (.bipush 6, 2) := by decide +kernel
theorem dX6_chance_50 : decode cX6_chance 50 = .ok (.invokestatic 59, 3) := by decide +kernel
theorem dX6_chance_53 : decode cX6_chance 53 = .ok (.ifCond .eq 24, 3) := by decide +kernel
theorem dX6_chance_56 : decode cX6_chance 56 = .ok (.iload 4, 2) := by decide +kernel
theorem dX6_chance_58 : decode cX6_chance 58 = .ok (.iconst 0, 1) := by decide +kernel
theorem dX6_chance_59 : decode cX6_chance 59 = .ok (.iload 5, 2) := by decide +kernel
theorem dX6_chance_61 : decode cX6_chance 61 = .ok (.invokestatic 59, 3) := by decide +kernel
theorem dX6_chance_64 : decode cX6_chance 64 = .ok (.ifCond .eq 13, 3) := by decide +kernel
theorem dX6_chance_67 : decode cX6_chance 67 = .ok (.iload 6, 2) := by decide +kernel
theorem dX6_chance_69 : decode cX6_chance 69 = .ok (.iconst 0, 1) := by decide +kernel
theorem dX6_chance_70 : decode cX6_chance 70 = .ok (.iconst 1, 1) := by decide +kernel
theorem dX6_chance_71 : decode cX6_chance 71 = .ok (.invokestatic 59, 3) := by decide +kernel
theorem dX6_chance_74 : decode cX6_chance 74 = .ok (.ifCond .ne 7, 3) := by decide +kernel
theorem dX6_chance_77 : decode cX6_chance 77 = .ok (.ldc2_w 195, 3) := by decide +kernel
theorem dX6_chance_80 : decode cX6_chance 80 = .ok (.lreturn, 1) := by decide +kernel
theorem dX6_chance_81 : decode cX6_chance 81 = .ok (.aload_n 0, 1) := by decide +kernel
theorem dX6_chance_82 : decode cX6_chance 82 = .ok (.getfield 10, 3) := by decide +kernel
theorem dX6_chance_85 : decode cX6_chance 85 = .ok (.getfield 81, 3) := by decide +kernel
theorem dX6_chance_88 : decode cX6_chance 88 = .ok (.bipush 12, 2) := by decide +kernel
theorem dX6_chance_90 : decode cX6_chance 90 = .ok (.if_icmp .le 7, 3) := by decide +kernel
theorem dX6_chance_93 : decode cX6_chance 93 = .ok (.ldc2_w 197, 3) := by decide +kernel
theorem dX6_chance_96 : decode cX6_chance 96 = .ok (.lreturn, 1) := by decide +kernel
theorem dX6_chance_97 : decode cX6_chance 97 = .ok (.aload_n 0, 1) := by decide +kernel
theorem dX6_chance_98 : decode cX6_chance 98 = .ok (.getfield 44, 3) := by decide +kernel
theorem dX6_chance_101 : decode cX6_chance 101 = .ok (.aload_n 0, 1) := by decide +kernel
theorem dX6_chance_102 : decode cX6_chance 102 = .ok (.getfield 10, 3) := by decide +kernel
theorem dX6_chance_105 : decode cX6_chance 105 = .ok (.iload_n 3, 1) := by decide +kernel
theorem dX6_chance_106 : decode cX6_chance 106 = .ok (.iload_n 2, 1) := by decide +kernel
theorem dX6_chance_107 : decode cX6_chance 107 = .ok (.iconst (-1), 1) := by decide +kernel
theorem dX6_chance_108 : decode cX6_chance 108 = .ok (.ixor, 1) := by decide +kernel
theorem dX6_chance_109 : decode cX6_chance 109 = .ok (.iand, 1) := by decide +kernel
theorem dX6_chance_110 : decode cX6_chance 110 = .ok (.iload 4, 2) := by decide +kernel
theorem dX6_chance_112 : decode cX6_chance 112 = .ok (.iload 5, 2) := by decide +kernel
theorem dX6_chance_114 : decode cX6_chance 114 = .ok (.invokevirtual 199, 3) := by decide +kernel
theorem dX6_chance_117 : decode cX6_chance 117 = .ok (.aload_n 0, 1) := by decide +kernel
theorem dX6_chance_118 : decode cX6_chance 118 = .ok (.getfield 44, 3) := by decide +kernel
theorem dX6_chance_121 : decode cX6_chance 121 = .ok (.iload_n 1, 1) := by decide +kernel
theorem dX6_chance_122 : decode cX6_chance 122 = .ok (.iload_n 2, 1) := by decide +kernel
theorem dX6_chance_123 : decode cX6_chance 123 = .ok (.invokevirtual 203, 3) := by decide +kernel
theorem dX6_chance_126 : decode cX6_chance 126 = .ok (.aload_n 0, 1) := by decide +kernel
theorem dX6_chance_127 : decode cX6_chance 127 = .ok (.getfield 44, 3) := by decide +kernel
theorem dX6_chance_130 : decode cX6_chance 130 = .ok (.invokevirtual 207, 3) := by decide +kernel
theorem dX6_chance_133 : decode cX6_chance 133 = .ok (.iload 6, 2) := by decide +kernel
theorem dX6_chance_135 : decode cX6_chance 135 = .ok (.invokestatic 181, 3) := by decide +kernel
theorem dX6_chance_138 : decode cX6_chance 138 = .ok (.lreturn, 1) := by decide +kernel
set_option maxRecDepth 20000 in
theorem ggX6_wall_X6_within : GoodIn wsX6_wall wsX6_within := goodIn_r _ [6] (by decide +kernel) (by decide +kernel)
set_option maxRecDepth 20000 in
theorem gX6_wall_X6_within : GoodIn wsX6_wall (va_wsS RX6 59 yX6_within wsX6_within) := goodIn_app (goodIn_of _ (by decide +kernel)) ggX6_wall_X6_within
set_option maxRecDepth 20000 in
theorem ggX6_wall_X0_isWall : GoodIn wsX6_wall wsX0_isWall := goodIn_r _ [11, 12, 13, 14, 28, 29, 30, 31, 32, 33, 34, 35, 36] (by decide +kernel) (by decide +kernel)
set_option maxRecDepth 20000 in
theorem gX6_wall_X0_isWall : GoodIn wsX6_wall (wsV RX6 211 RX0 yX0_isWall wsX0_isWall) := goodIn_app (goodIn_of _ (by decide +kernel)) ggX6_wall_X0_isWall
set_option maxRecDepth 20000 in
theorem ggX6_wall_X0_add : GoodIn wsX6_wall wsX0_add := goodIn_r _ [18, 12, 13, 14, 19, 28, 29, 30, 31, 32, 33, 34, 35, 36] (by decide +kernel) (by decide +kernel)
set_option maxRecDepth 20000 in
theorem gX6_wall_X0_add : GoodIn wsX6_wall (wsV RX6 214 RX0 yX0_add wsX0_add) := goodIn_app (goodIn_of _ (by decide +kernel)) ggX6_wall_X0_add
theorem dX6_wall_0 : decode cX6_wall 0 = .ok (.iload_n 1, 1) := by decide +kernel
theorem dX6_wall_1 : decode cX6_wall 1 = .ok (.bipush (-30), 2) := by decide +kernel
theorem dX6_wall_3 : decode cX6_wall 3 = .ok (.bipush 30, 2) := by decide +kernel
theorem dX6_wall_5 : decode cX6_wall 5 = .ok (.invokestatic 59, 3) := by decide +kernel
theorem dX6_wall_8 : decode cX6_wall 8 = .ok (.ifCond .ne 7, 3) := by decide +kernel
theorem dX6_wall_11 : decode cX6_wall 11 = .ok (.sipush (-1002), 3) := by decide +kernel
theorem dX6_wall_14 : decode cX6_wall 14 = .ok (.ireturn, 1) := by decide +kernel
theorem dX6_wall_15 : decode cX6_wall 15 = .ok (.iload_n 2, 1) := by decide +kernel
theorem dX6_wall_16 : decode cX6_wall 16 = .ok (.bipush (-30), 2) := by decide +kernel
theorem dX6_wall_18 : decode cX6_wall 18 = .ok (.bipush 30, 2) := by decide +kernel
theorem dX6_wall_20 : decode cX6_wall 20 = .ok (.invokestatic 59, 3) := by decide +kernel
theorem dX6_wall_23 : decode cX6_wall 23 = .ok (.ifCond .ne 7, 3) := by decide +kernel
theorem dX6_wall_26 : decode cX6_wall 26 = .ok (.sipush (-1002), 3) := by decide +kernel
theorem dX6_wall_29 : decode cX6_wall 29 = .ok (.ireturn, 1) := by decide +kernel
theorem dX6_wall_30 : decode cX6_wall 30 = .ok (.iload_n 1, 1) := by decide +kernel
theorem dX6_wall_31 : decode cX6_wall 31 = .ok (.ifCond .ne 7, 3) := by decide +kernel
theorem dX6_wall_34 : decode cX6_wall 34 = .ok (.iload_n 2, 1) := by decide +kernel
theorem dX6_wall_35 : decode cX6_wall 35 = .ok (.ifCond .eq 13, 3) := by decide +kernel
theorem dX6_wall_38 : decode cX6_wall 38 = .ok (.iload_n 3, 1) := by decide +kernel
theorem dX6_wall_39 : decode cX6_wall 39 = .ok (.iconst 1, 1) := by decide +kernel
theorem dX6_wall_40 : decode cX6_wall 40 = .ok (.bipush 20, 2) := by decide +kernel
theorem dX6_wall_42 : decode cX6_wall 42 = .ok (.invokestatic 59, 3) := by decide +kernel
theorem dX6_wall_45 : decode cX6_wall 45 = .ok (.ifCond .ne 7, 3) := by decide +kernel
theorem dX6_wall_48 : decode cX6_wall 48 = .ok (.sipush (-1002), 3) := by decide +kernel
theorem dX6_wall_51 : decode cX6_wall 51 = .ok (.ireturn, 1) := by decide +kernel
theorem dX6_wall_52 : decode cX6_wall 52 = .ok (.aload_n 0, 1) := by decide +kernel
theorem dX6_wall_53 : decode cX6_wall 53 = .ok (.getfield 51, 3) := by decide +kernel
theorem dX6_wall_56 : decode cX6_wall 56 = .ok (.iload_n 1, 1) := by decide +kernel
theorem dX6_wall_57 : decode cX6_wall 57 = .ok (.iload_n 2, 1) := by decide +kernel
theorem dX6_wall_58 : decode cX6_wall 58 = .ok (.invokevirtual 211, 3) := by decide +kernel
theorem dX6_wall_61 : decode cX6_wall 61 = .ok (.ifCond .eq 7, 3) := by decide +kernel
theorem dX6_wall_64 : decode cX6_wall 64 = .ok (.sipush (-1003), 3) := by decide +kernel
theorem dX6_wall_67 : decode cX6_wall 67 = .ok (.ireturn, 1) := by decide +kernel
theorem dX6_wall_68 : decode cX6_wall 68 = .ok (.aload_n 0, 1) := by decide +kernel
theorem dX6_wall_69 : decode cX6_wall 69 = .ok (.getfield 51, 3) := by decide +kernel
theorem dX6_wall_72 : decode cX6_wall 72 = .ok (.getfield 115, 3) := by decide +kernel
theorem dX6_wall_75 : decode cX6_wall 75 = .ok (.bipush 40, 2) := by decide +kernel
theorem dX6_wall_77 : decode cX6_wall 77 = .ok (.if_icmp .lt 7, 3) := by decide +kernel
theorem dX6_wall_80 : decode cX6_wall 80 = .ok (.sipush (-1004), 3) := by decide +kernel
theorem dX6_wall_83 : decode cX6_wall 83 = .ok (.ireturn, 1) := by decide +kernel
theorem dX6_wall_84 : decode cX6_wall 84 = .ok (.aload_n 0, 1) := by decide +kernel
theorem dX6_wall_85 : decode cX6_wall 85 = .ok (.getfield 51, 3) := by decide +kernel
theorem dX6_wall_88 : decode cX6_wall 88 = .ok (.iload_n 1, 1) := by decide +kernel
theorem dX6_wall_89 : decode cX6_wall 89 = .ok (.iload_n 2, 1) := by decide +kernel
theorem dX6_wall_90 : decode cX6_wall 90 = .ok (.iload_n 3, 1) := by decide +kernel
theorem dX6_wall_91 : decode cX6_wall 91 = .ok (.invokevirtual 214, 3) := by decide +kernel
theorem dX6_wall_94 : decode cX6_wall 94 = .ok (.ireturn, 1) := by decide +kernel
theorem dX6_raze_0 : decode cX6_raze 0 = .ok (.aload_n 0, 1) := by decide +kernel
theorem dX6_raze_1 : decode cX6_raze 1 = .ok (.getfield 51, 3) := by decide +kernel
theorem dX6_raze_4 : decode cX6_raze 4 = .ok (.getfield 115, 3) := by decide +kernel
theorem dX6_raze_7 : decode cX6_raze 7 = .ok (.istore_n 1, 1) := by decide +kernel
theorem dX6_raze_8 : decode cX6_raze 8 = .ok (.aload_n 0, 1) := by decide +kernel
theorem dX6_raze_9 : decode cX6_raze 9 = .ok (.getfield 51, 3) := by decide +kernel
theorem dX6_raze_12 : decode cX6_raze 12 = .ok (.iconst 0, 1) := by decide +kernel
theorem dX6_raze_13 : decode cX6_raze 13 = .ok (.putfield 115, 3) := by decide +kernel
theorem dX6_raze_16 : decode cX6_raze 16 = .ok (.iload_n 1, 1) := by decide +kernel
theorem dX6_raze_17 : decode cX6_raze 17 = .ok (.ireturn, 1) := by decide +kernel
set_option maxRecDepth 20000 in
theorem ggX6_board_X6_within : GoodIn wsX6_board wsX6_within := goodIn_r _ [7] (by decide +kernel) (by decide +kernel)
set_option maxRecDepth 20000 in
theorem gX6_board_X6_within : GoodIn wsX6_board (va_wsS RX6 59 yX6_within wsX6_within) := goodIn_app (goodIn_of _ (by decide +kernel)) ggX6_board_X6_within
set_option maxRecDepth 20000 in
theorem ggX6_board_X0_burn : GoodIn wsX6_board wsX0_burn := goodIn_r _ [12, 13, 14, 15, 16, 17, 18, 19, 20, 21, 22, 23, 24, 11, 25, 26, 27, 28, 29, 30, 31, 32, 5, 6, 7, 33, 34, 35, 36, 37, 38, 39, 40, 41, 42, 43, 44, 45, 46, 47, 48, 49, 50, 81, 82, 83, 84, 85, 86, 87, 88, 89] (by decide +kernel) (by decide +kernel)
set_option maxRecDepth 20000 in
theorem gX6_board_X0_burn : GoodIn wsX6_board (wsV RX6 218 RX0 yX0_burn wsX0_burn) := goodIn_app (goodIn_of _ (by decide +kernel)) ggX6_board_X0_burn
set_option maxRecDepth 20000 in
theorem ggX6_board_X0_burnt : GoodIn wsX6_board wsX0_burnt := goodIn_r _ [54, 13, 55, 56, 57, 58, 59, 60, 61, 81, 82, 83, 84, 85, 86, 87, 88, 89] (by decide +kernel) (by decide +kernel)
set_option maxRecDepth 20000 in
theorem gX6_board_X0_burnt : GoodIn wsX6_board (wsV RX6 224 RX0 yX0_burnt wsX0_burnt) := goodIn_app (goodIn_of _ (by decide +kernel)) ggX6_board_X0_burnt
set_option maxRecDepth 20000 in
theorem ggX6_board_X0_reach : GoodIn wsX6_board wsX0_reach := goodIn_r _ [65, 13, 66, 67, 68, 69, 70, 71, 72, 81, 82, 83, 84, 85, 86, 87, 88, 89] (by decide +kernel) (by decide +kernel)
set_option maxRecDepth 20000 in
theorem gX6_board_X0_reach : GoodIn wsX6_board (wsV RX6 230 RX0 yX0_reach wsX0_reach) := goodIn_app (goodIn_of _ (by decide +kernel)) ggX6_board_X0_reach
theorem dX6_board_0 : decode cX6_board 0 = .ok (.iload_n 1, 1) := by decide +kernel
theorem dX6_board_1 : decode cX6_board 1 = .ok (.iconst 0, 1) := by decide +kernel
theorem dX6_board_2 : decode cX6_board 2 = .ok (.iconst 3, 1) := by decide +kernel
theorem dX6_board_3 : decode cX6_board 3 = .ok (.invokestatic 59, 3) := by decide +kernel
theorem dX6_board_6 : decode cX6_board 6 = .ok (.ifCond .ne 7, 3) := by decide +kernel
theorem dX6_board_9 : decode cX6_board 9 = .ok (.sipush (-1002), 3) := by decide +kernel
theorem dX6_board_12 : decode cX6_board 12 = .ok (.ireturn, 1) := by decide +kernel
theorem dX6_board_13 : decode cX6_board 13 = .ok (.aload_n 0, 1) := by decide +kernel
theorem dX6_board_14 : decode cX6_board 14 = .ok (.getfield 51, 3) := by decide +kernel
theorem dX6_board_17 : decode cX6_board 17 = .ok (.invokevirtual 218, 3) := by decide +kernel
theorem dX6_board_20 : decode cX6_board 20 = .ok (.iload_n 1, 1) := by decide +kernel
theorem dX6_board_21 : decode cX6_board 21 = .ok (.tableswitch 51 0 2 #[27, 35, 43], 27) := by decide +kernel
theorem dX6_board_48 : decode cX6_board 48 = .ok (.aload_n 0, 1) := by decide +kernel
theorem dX6_board_49 : decode cX6_board 49 = .ok (.getfield 51, 3) := by decide +kernel
theorem dX6_board_52 : decode cX6_board 52 = .ok (.getfield 221, 3) := by decide +kernel
theorem dX6_board_55 : decode cX6_board 55 = .ok (.ireturn, 1) := by decide +kernel
theorem dX6_board_56 : decode cX6_board 56 = .ok (.aload_n 0, 1) := by decide +kernel
theorem dX6_board_57 : decode cX6_board 57 = .ok (.getfield 51, 3) := by decide +kernel
theorem dX6_board_60 : decode cX6_board 60 = .ok (.invokevirtual 224, 3) := by decide +kernel
theorem dX6_board_63 : decode cX6_board 63 = .ok (.ireturn, 1) := by decide +kernel
theorem dX6_board_64 : decode cX6_board 64 = .ok (.aload_n 0, 1) := by decide +kernel
theorem dX6_board_65 : decode cX6_board 65 = .ok (.getfield 51, 3) := by decide +kernel
theorem dX6_board_68 : decode cX6_board 68 = .ok (.getfield 227, 3) := by decide +kernel
theorem dX6_board_71 : decode cX6_board 71 = .ok (.ireturn, 1) := by decide +kernel
theorem dX6_board_72 : decode cX6_board 72 = .ok (.aload_n 0, 1) := by decide +kernel
theorem dX6_board_73 : decode cX6_board 73 = .ok (.getfield 51, 3) := by decide +kernel
theorem dX6_board_76 : decode cX6_board 76 = .ok (.invokevirtual 230, 3) := by decide +kernel
theorem dX6_board_79 : decode cX6_board 79 = .ok (.ireturn, 1) := by decide +kernel
theorem dX6_within_0 : decode cX6_within 0 = .ok (.iload_n 0, 1) := by decide +kernel
theorem dX6_within_1 : decode cX6_within 1 = .ok (.iload_n 1, 1) := by decide +kernel
theorem dX6_within_2 : decode cX6_within 2 = .ok (.if_icmp .lt 12, 3) := by decide +kernel
theorem dX6_within_5 : decode cX6_within 5 = .ok (.iload_n 0, 1) := by decide +kernel
theorem dX6_within_6 : decode cX6_within 6 = .ok (.iload_n 2, 1) := by decide +kernel
theorem dX6_within_7 : decode cX6_within 7 = .ok (.if_icmp .gt 7, 3) := by decide +kernel
theorem dX6_within_10 : decode cX6_within 10 = .ok (.iconst 1, 1) := by decide +kernel
theorem dX6_within_11 : decode cX6_within 11 = .ok (.goto 4, 3) := by decide +kernel
theorem dX6_within_14 : decode cX6_within 14 = .ok (.iconst 0, 1) := by decide +kernel
theorem dX6_within_15 : decode cX6_within 15 = .ok (.ireturn, 1) := by decide +kernel
set_option maxRecDepth 20000 in
theorem ggX6_isRule_X6_within : GoodIn wsX6_isRule wsX6_within := goodIn_r _ [4] (by decide +kernel) (by decide +kernel)
set_option maxRecDepth 20000 in
theorem gX6_isRule_X6_within : GoodIn wsX6_isRule (va_wsS RX6 59 yX6_within wsX6_within) := goodIn_app (goodIn_of _ (by decide +kernel)) ggX6_isRule_X6_within
theorem dX6_isRule_0 : decode cX6_isRule 0 = .ok (.iload_n 0, 1) := by decide +kernel
theorem dX6_isRule_1 : decode cX6_isRule 1 = .ok (.iconst 0, 1) := by decide +kernel
theorem dX6_isRule_2 : decode cX6_isRule 2 = .ok (.iconst 2, 1) := by decide +kernel
theorem dX6_isRule_3 : decode cX6_isRule 3 = .ok (.invokestatic 59, 3) := by decide +kernel
theorem dX6_isRule_6 : decode cX6_isRule 6 = .ok (.ireturn, 1) := by decide +kernel
theorem dX6_holds_0 : decode cX6_holds 0 = .ok (.iload_n 0, 1) := by decide +kernel
theorem dX6_holds_1 : decode cX6_holds 1 = .ok (.iload_n 1, 1) := by decide +kernel
theorem dX6_holds_2 : decode cX6_holds 2 = .ok (.ishr, 1) := by decide +kernel
theorem dX6_holds_3 : decode cX6_holds 3 = .ok (.iconst 1, 1) := by decide +kernel
theorem dX6_holds_4 : decode cX6_holds 4 = .ok (.iand, 1) := by decide +kernel
theorem dX6_holds_5 : decode cX6_holds 5 = .ok (.ifCond .eq 7, 3) := by decide +kernel
theorem dX6_holds_8 : decode cX6_holds 8 = .ok (.iconst 1, 1) := by decide +kernel
theorem dX6_holds_9 : decode cX6_holds 9 = .ok (.goto 4, 3) := by decide +kernel
theorem dX6_holds_12 : decode cX6_holds 12 = .ok (.iconst 0, 1) := by decide +kernel
theorem dX6_holds_13 : decode cX6_holds 13 = .ok (.ireturn, 1) := by decide +kernel
theorem dX6_swap_0 : decode cX6_swap 0 = .ok (.iload_n 1, 1) := by decide +kernel
theorem dX6_swap_1 : decode cX6_swap 1 = .ok (.ifCond .lt 9, 3) := by decide +kernel
theorem dX6_swap_4 : decode cX6_swap 4 = .ok (.iload_n 1, 1) := by decide +kernel
theorem dX6_swap_5 : decode cX6_swap 5 = .ok (.aload_n 0, 1) := by decide +kernel
theorem dX6_swap_6 : decode cX6_swap 6 = .ok (.arraylength, 1) := by decide +kernel
theorem dX6_swap_7 : decode cX6_swap 7 = .ok (.if_icmp .lt 5, 3) := by decide +kernel
theorem dX6_swap_10 : decode cX6_swap 10 = .ok (.iconst (-1), 1) := by decide +kernel
theorem dX6_swap_11 : decode cX6_swap 11 = .ok (.ireturn, 1) := by decide +kernel
theorem dX6_swap_12 : decode cX6_swap 12 = .ok (.aload_n 0, 1) := by decide +kernel
theorem dX6_swap_13 : decode cX6_swap 13 = .ok (.iload_n 1, 1) := by decide +kernel
theorem dX6_swap_14 : decode cX6_swap 14 = .ok (.iaload, 1) := by decide +kernel
theorem dX6_swap_15 : decode cX6_swap 15 = .ok (.istore_n 3, 1) := by decide +kernel
theorem dX6_swap_16 : decode cX6_swap 16 = .ok (.aload_n 0, 1) := by decide +kernel
theorem dX6_swap_17 : decode cX6_swap 17 = .ok (.iload_n 1, 1) := by decide +kernel
theorem dX6_swap_18 : decode cX6_swap 18 = .ok (.iload_n 2, 1) := by decide +kernel
theorem dX6_swap_19 : decode cX6_swap 19 = .ok (.iastore, 1) := by decide +kernel
theorem dX6_swap_20 : decode cX6_swap 20 = .ok (.iload_n 3, 1) := by decide +kernel
theorem dX6_swap_21 : decode cX6_swap 21 = .ok (.ireturn, 1) := by decide +kernel
set_option maxRecDepth 20000 in
theorem ggX6_fractionPart_X6_commonDivisor : GoodIn wsX6_fractionPart wsX6_commonDivisor := goodIn_r _ [4] (by decide +kernel) (by decide +kernel)
set_option maxRecDepth 20000 in
theorem gX6_fractionPart_X6_commonDivisor : GoodIn wsX6_fractionPart (va_wsS RX6 233 yX6_commonDivisor wsX6_commonDivisor) := goodIn_app (goodIn_of _ (by decide +kernel)) ggX6_fractionPart_X6_commonDivisor
theorem dX6_fractionPart_0 : decode cX6_fractionPart 0 = .ok (.iload 4, 2) := by decide +kernel
theorem dX6_fractionPart_2 : decode cX6_fractionPart 2 = .ok (.ifCond .ne 7, 3) := by decide +kernel
theorem dX6_fractionPart_5 : decode cX6_fractionPart 5 = .ok (.lload_n 0, 1) := by decide +kernel
theorem dX6_fractionPart_6 : decode cX6_fractionPart 6 = .ok (.goto 4, 3) := by decide +kernel
theorem dX6_fractionPart_9 : decode cX6_fractionPart 9 = .ok (.lload_n 2, 1) := by decide +kernel
theorem dX6_fractionPart_10 : decode cX6_fractionPart 10 = .ok (.lstore 5, 2) := by decide +kernel
theorem dX6_fractionPart_12 : decode cX6_fractionPart 12 = .ok (.lload_n 0, 1) := by decide +kernel
theorem dX6_fractionPart_13 : decode cX6_fractionPart 13 = .ok (.lload_n 2, 1) := by decide +kernel
theorem dX6_fractionPart_14 : decode cX6_fractionPart 14 = .ok (.invokestatic 233, 3) := by decide +kernel
theorem dX6_fractionPart_17 : decode cX6_fractionPart 17 = .ok (.lstore 7, 2) := by decide +kernel
theorem dX6_fractionPart_19 : decode cX6_fractionPart 19 = .ok (.lload 7, 2) := by decide +kernel
theorem dX6_fractionPart_21 : decode cX6_fractionPart 21 = .ok (.lconst 0, 1) := by decide +kernel
theorem dX6_fractionPart_22 : decode cX6_fractionPart 22 = .ok (.lcmp, 1) := by decide +kernel
theorem dX6_fractionPart_23 : decode cX6_fractionPart 23 = .ok (.ifCond .ne 8, 3) := by decide +kernel
theorem dX6_fractionPart_26 : decode cX6_fractionPart 26 = .ok (.lload 5, 2) := by decide +kernel
theorem dX6_fractionPart_28 : decode cX6_fractionPart 28 = .ok (.goto 8, 3) := by decide +kernel
theorem dX6_fractionPart_31 : decode cX6_fractionPart 31 = .ok (.lload 5, 2) := by decide +kernel
theorem dX6_fractionPart_33 : decode cX6_fractionPart 33 = .ok (.lload 7, 2) := by decide +kernel
theorem dX6_fractionPart_35 : decode cX6_fractionPart 35 = .ok (.ldiv, 1) := by decide +kernel
theorem dX6_fractionPart_36 : decode cX6_fractionPart 36 = .ok (.lreturn, 1) := by decide +kernel
theorem dX6_commonDivisor_0 : decode cX6_commonDivisor 0 = .ok (.lload_n 0, 1) := by decide +kernel
theorem dX6_commonDivisor_1 : decode cX6_commonDivisor 1 = .ok (.lstore 4, 2) := by decide +kernel
theorem dX6_commonDivisor_3 : decode cX6_commonDivisor 3 = .ok (.lload_n 2, 1) := by decide +kernel
theorem dX6_commonDivisor_4 : decode cX6_commonDivisor 4 = .ok (.lstore 6, 2) := by decide +kernel
theorem dX6_commonDivisor_6 : decode cX6_commonDivisor 6 = .ok (.iconst 0, 1) := by decide +kernel
theorem dX6_commonDivisor_7 : decode cX6_commonDivisor 7 = .ok (.istore 8, 2) := by decide +kernel
theorem dX6_commonDivisor_9 : decode cX6_commonDivisor 9 = .ok (.iload 8, 2) := by decide +kernel
theorem dX6_commonDivisor_11 : decode cX6_commonDivisor 11 = .ok (.bipush 100, 2) := by decide +kernel
theorem dX6_commonDivisor_13 : decode cX6_commonDivisor 13 = .ok (.if_icmp .ge 31, 3) := by decide +kernel
theorem dX6_commonDivisor_16 : decode cX6_commonDivisor 16 = .ok (.lload 6, 2) := by decide +kernel
theorem dX6_commonDivisor_18 : decode cX6_commonDivisor 18 = .ok (.lconst 0, 1) := by decide +kernel
theorem dX6_commonDivisor_19 : decode cX6_commonDivisor 19 = .ok (.lcmp, 1) := by decide +kernel
theorem dX6_commonDivisor_20 : decode cX6_commonDivisor 20 = .ok (.ifCond .eq 24, 3) := by decide +kernel
theorem dX6_commonDivisor_23 : decode cX6_commonDivisor 23 = .ok (.lload 4, 2) := by decide +kernel
theorem dX6_commonDivisor_25 : decode cX6_commonDivisor 25 = .ok (.lload 6, 2) := by decide +kernel
theorem dX6_commonDivisor_27 : decode cX6_commonDivisor 27 = .ok (.lrem, 1) := by decide +kernel
theorem dX6_commonDivisor_28 : decode cX6_commonDivisor 28 = .ok (.lstore 9, 2) := by decide +kernel
theorem dX6_commonDivisor_30 : decode cX6_commonDivisor 30 = .ok (.lload 6, 2) := by decide +kernel
theorem dX6_commonDivisor_32 : decode cX6_commonDivisor 32 = .ok (.lstore 4, 2) := by decide +kernel
theorem dX6_commonDivisor_34 : decode cX6_commonDivisor 34 = .ok (.lload 9, 2) := by decide +kernel
theorem dX6_commonDivisor_36 : decode cX6_commonDivisor 36 = .ok (.lstore 6, 2) := by decide +kernel
theorem dX6_commonDivisor_38 : decode cX6_commonDivisor 38 = .ok (.iinc 8 1, 3) := by decide +kernel
theorem dX6_commonDivisor_41 : decode cX6_commonDivisor 41 = .ok (.goto (-32), 3) := by decide +kernel
theorem dX6_commonDivisor_44 : decode cX6_commonDivisor 44 = .ok (.lload 4, 2) := by decide +kernel
theorem dX6_commonDivisor_46 : decode cX6_commonDivisor 46 = .ok (.lreturn, 1) := by decide +kernel
set_option maxRecDepth 20000 in
theorem ggX6_runPlan_X2_begin : GoodIn wsX6_runPlan wsX2_begin := goodIn_r _ [9, 10, 11, 12, 13, 14, 15, 16, 86, 87, 88, 89, 90, 91, 92] (by decide +kernel) (by decide +kernel)
set_option maxRecDepth 20000 in
theorem gX6_runPlan_X2_begin : GoodIn wsX6_runPlan (wsV RX6 237 RX2 yX2_begin wsX2_begin) := goodIn_app (goodIn_of _ (by decide +kernel)) ggX6_runPlan_X2_begin
set_option maxRecDepth 20000 in
theorem ggX6_runPlan_X2_ended : GoodIn wsX6_runPlan wsX2_ended := goodIn_r _ [20, 15, 14, 86, 87, 88, 89, 90, 91, 92] (by decide +kernel) (by decide +kernel)
set_option maxRecDepth 20000 in
theorem gX6_runPlan_X2_ended : GoodIn wsX6_runPlan (wsV RX6 240 RX2 yX2_ended wsX2_ended) := goodIn_app (goodIn_of _ (by decide +kernel)) ggX6_runPlan_X2_ended
set_option maxRecDepth 20000 in
theorem ggX6_runPlan_X2_openTick : GoodIn wsX6_runPlan wsX2_openTick := goodIn_r _ [24, 12, 16, 25, 26, 27, 28, 29, 30, 31, 32, 33, 34, 35, 36, 37, 38, 86, 87, 88, 89, 90, 91, 92, 93, 94] (by decide +kernel) (by decide +kernel)
set_option maxRecDepth 20000 in
theorem gX6_runPlan_X2_openTick : GoodIn wsX6_runPlan (wsV RX6 244 RX2 yX2_openTick wsX2_openTick) := goodIn_app (goodIn_of _ (by decide +kernel)) ggX6_runPlan_X2_openTick
set_option maxRecDepth 20000 in
theorem ggX6_runPlan_X2_putSet : GoodIn wsX6_runPlan wsX2_putSet := goodIn_r _ [42, 10, 11, 16, 14, 43, 44, 45, 46, 47, 48, 49, 50, 51, 52, 53, 54, 55, 56, 57, 58, 59, 60, 61, 62, 63, 64, 8, 65, 13, 86, 87, 88, 89, 90, 91, 92, 95, 96, 97, 98, 99, 100] (by decide +kernel) (by decide +kernel)
set_option maxRecDepth 20000 in
theorem gX6_runPlan_X2_putSet : GoodIn wsX6_runPlan (wsV RX6 248 RX2 yX2_putSet wsX2_putSet) := goodIn_app (goodIn_of _ (by decide +kernel)) ggX6_runPlan_X2_putSet
set_option maxRecDepth 20000 in
theorem ggX6_runPlan_X2_spread : GoodIn wsX6_runPlan wsX2_spread := goodIn_r _ [69, 14, 10, 11, 15, 70, 71, 72, 46, 73, 74, 75, 76, 77, 86, 87, 88, 89, 90, 91, 92, 95, 96, 97, 98, 99, 100] (by decide +kernel) (by decide +kernel)
set_option maxRecDepth 20000 in
theorem gX6_runPlan_X2_spread : GoodIn wsX6_runPlan (wsV RX6 252 RX2 yX2_spread wsX2_spread) := goodIn_app (goodIn_of _ (by decide +kernel)) ggX6_runPlan_X2_spread
theorem dX6_runPlan_0 : decode cX6_runPlan 0 = .ok (.aload_n 0, 1) := by decide +kernel
theorem dX6_runPlan_1 : decode cX6_runPlan 1 = .ok (.getfield 30, 3) := by decide +kernel
theorem dX6_runPlan_4 : decode cX6_runPlan 4 = .ok (.iload_n 1, 1) := by decide +kernel
theorem dX6_runPlan_5 : decode cX6_runPlan 5 = .ok (.invokevirtual 237, 3) := by decide +kernel
theorem dX6_runPlan_8 : decode cX6_runPlan 8 = .ok (.iconst 1, 1) := by decide +kernel
theorem dX6_runPlan_9 : decode cX6_runPlan 9 = .ok (.istore_n 3, 1) := by decide +kernel
theorem dX6_runPlan_10 : decode cX6_runPlan 10 = .ok (.iload_n 3, 1) := by decide +kernel
theorem dX6_runPlan_11 : decode cX6_runPlan 11 = .ok (.iload_n 2, 1) := by decide +kernel
theorem dX6_runPlan_12 : decode cX6_runPlan 12 = .ok (.if_icmp .gt 70, 3) := by decide +kernel
theorem dX6_runPlan_15 : decode cX6_runPlan 15 = .ok (.aload_n 0, 1) := by decide +kernel
theorem dX6_runPlan_16 : decode cX6_runPlan 16 = .ok (.getfield 30, 3) := by decide +kernel
theorem dX6_runPlan_19 : decode cX6_runPlan 19 = .ok (.invokevirtual 240, 3) := by decide +kernel
theorem dX6_runPlan_22 : decode cX6_runPlan 22 = .ok (.ifCond .ne 60, 3) := by decide +kernel
theorem dX6_runPlan_25 : decode cX6_runPlan 25 = .ok (.aload_n 0, 1) := by decide +kernel
theorem dX6_runPlan_26 : decode cX6_runPlan 26 = .ok (.getfield 30, 3) := by decide +kernel
theorem dX6_runPlan_29 : decode cX6_runPlan 29 = .ok (.aload_n 0, 1) := by decide +kernel
theorem dX6_runPlan_30 : decode cX6_runPlan 30 = .ok (.getfield 19, 3) := by decide +kernel
theorem dX6_runPlan_33 : decode cX6_runPlan 33 = .ok (.invokevirtual 244, 3) := by decide +kernel
theorem dX6_runPlan_36 : decode cX6_runPlan 36 = .ok (.aload_n 0, 1) := by decide +kernel
theorem dX6_runPlan_37 : decode cX6_runPlan 37 = .ok (.getfield 30, 3) := by decide +kernel
theorem dX6_runPlan_40 : decode cX6_runPlan 40 = .ok (.aload_n 0, 1) := by decide +kernel
theorem dX6_runPlan_41 : decode cX6_runPlan 41 = .ok (.getfield 10, 3) := by decide +kernel
theorem dX6_runPlan_44 : decode cX6_runPlan 44 = .ok (.iload_n 3, 1) := by decide +kernel
theorem dX6_runPlan_45 : decode cX6_runPlan 45 = .ok (.bipush 8, 2) := by decide +kernel
theorem dX6_runPlan_47 : decode cX6_runPlan 47 = .ok (.if_icmp .gt 14, 3) := by decide +kernel
theorem dX6_runPlan_50 : decode cX6_runPlan 50 = .ok (.aload_n 0, 1) := by decide +kernel
theorem dX6_runPlan_51 : decode cX6_runPlan 51 = .ok (.getfield 23, 3) := by decide +kernel
theorem dX6_runPlan_54 : decode cX6_runPlan 54 = .ok (.iload_n 3, 1) := by decide +kernel
theorem dX6_runPlan_55 : decode cX6_runPlan 55 = .ok (.iconst 1, 1) := by decide +kernel
theorem dX6_runPlan_56 : decode cX6_runPlan 56 = .ok (.isub, 1) := by decide +kernel
theorem dX6_runPlan_57 : decode cX6_runPlan 57 = .ok (.iaload, 1) := by decide +kernel
theorem dX6_runPlan_58 : decode cX6_runPlan 58 = .ok (.goto 4, 3) := by decide +kernel
theorem dX6_runPlan_61 : decode cX6_runPlan 61 = .ok (.iconst 0, 1) := by decide +kernel
theorem dX6_runPlan_62 : decode cX6_runPlan 62 = .ok (.invokevirtual 248, 3) := by decide +kernel
theorem dX6_runPlan_65 : decode cX6_runPlan 65 = .ok (.aload_n 0, 1) := by decide +kernel
theorem dX6_runPlan_66 : decode cX6_runPlan 66 = .ok (.getfield 30, 3) := by decide +kernel
theorem dX6_runPlan_69 : decode cX6_runPlan 69 = .ok (.aload_n 0, 1) := by decide +kernel
theorem dX6_runPlan_70 : decode cX6_runPlan 70 = .ok (.getfield 10, 3) := by decide +kernel
theorem dX6_runPlan_73 : decode cX6_runPlan 73 = .ok (.invokevirtual 252, 3) := by decide +kernel
theorem dX6_runPlan_76 : decode cX6_runPlan 76 = .ok (.iinc 3 1, 3) := by decide +kernel
theorem dX6_runPlan_79 : decode cX6_runPlan 79 = .ok (.goto (-69), 3) := by decide +kernel
theorem dX6_runPlan_82 : decode cX6_runPlan 82 = .ok (.return_, 1) := by decide +kernel
set_option maxRecDepth 20000 in
theorem ggX6_runRule_X2_begin : GoodIn wsX6_runRule wsX2_begin := goodIn_r _ [8, 9, 10, 11, 12, 13, 14, 15, 92, 93, 94, 95, 96, 97, 98] (by decide +kernel) (by decide +kernel)
set_option maxRecDepth 20000 in
theorem gX6_runRule_X2_begin : GoodIn wsX6_runRule (wsV RX6 237 RX2 yX2_begin wsX2_begin) := goodIn_app (goodIn_of _ (by decide +kernel)) ggX6_runRule_X2_begin
set_option maxRecDepth 20000 in
theorem ggX6_runRule_X2_ended : GoodIn wsX6_runRule wsX2_ended := goodIn_r _ [19, 14, 13, 92, 93, 94, 95, 96, 97, 98] (by decide +kernel) (by decide +kernel)
set_option maxRecDepth 20000 in
theorem gX6_runRule_X2_ended : GoodIn wsX6_runRule (wsV RX6 240 RX2 yX2_ended wsX2_ended) := goodIn_app (goodIn_of _ (by decide +kernel)) ggX6_runRule_X2_ended
set_option maxRecDepth 20000 in
theorem ggX6_runRule_X2_openTick : GoodIn wsX6_runRule wsX2_openTick := goodIn_r _ [23, 11, 15, 24, 25, 26, 27, 28, 29, 30, 31, 32, 33, 34, 35, 36, 37, 92, 93, 94, 95, 96, 97, 98, 99, 100] (by decide +kernel) (by decide +kernel)
set_option maxRecDepth 20000 in
theorem gX6_runRule_X2_openTick : GoodIn wsX6_runRule (wsV RX6 244 RX2 yX2_openTick wsX2_openTick) := goodIn_app (goodIn_of _ (by decide +kernel)) ggX6_runRule_X2_openTick
set_option maxRecDepth 20000 in
theorem ggX6_runRule_X2_putByRule : GoodIn wsX6_runRule wsX2_putByRule := goodIn_r _ [41, 9, 10, 15, 42, 43, 44, 45, 46, 47, 48, 49, 50, 51, 52, 53, 54, 55, 56, 57, 58, 59, 60, 61, 62, 63, 64, 65, 66, 67, 68, 69, 70, 71, 72, 73, 74, 75, 76, 77, 7, 78, 12, 92, 93, 94, 95, 96, 97, 98, 101, 102, 103, 104, 105, 106] (by decide +kernel) (by decide +kernel)
set_option maxRecDepth 20000 in
theorem gX6_runRule_X2_putByRule : GoodIn wsX6_runRule (wsV RX6 256 RX2 yX2_putByRule wsX2_putByRule) := goodIn_app (goodIn_of _ (by decide +kernel)) ggX6_runRule_X2_putByRule
set_option maxRecDepth 20000 in
theorem ggX6_runRule_X2_spread : GoodIn wsX6_runRule wsX2_spread := goodIn_r _ [82, 13, 9, 10, 14, 83, 49, 50, 45, 51, 52, 53, 54, 55, 92, 93, 94, 95, 96, 97, 98, 101, 102, 103, 104, 105, 106] (by decide +kernel) (by decide +kernel)
set_option maxRecDepth 20000 in
theorem gX6_runRule_X2_spread : GoodIn wsX6_runRule (wsV RX6 252 RX2 yX2_spread wsX2_spread) := goodIn_app (goodIn_of _ (by decide +kernel)) ggX6_runRule_X2_spread
theorem dX6_runRule_0 : decode cX6_runRule 0 = .ok (.aload_n 0, 1) := by decide +kernel
theorem dX6_runRule_1 : decode cX6_runRule 1 = .ok (.getfield 30, 3) := by decide +kernel
theorem dX6_runRule_4 : decode cX6_runRule 4 = .ok (.iload_n 2, 1) := by decide +kernel
theorem dX6_runRule_5 : decode cX6_runRule 5 = .ok (.invokevirtual 237, 3) := by decide +kernel
theorem dX6_runRule_8 : decode cX6_runRule 8 = .ok (.iconst 1, 1) := by decide +kernel
theorem dX6_runRule_9 : decode cX6_runRule 9 = .ok (.istore_n 3, 1) := by decide +kernel
theorem dX6_runRule_10 : decode cX6_runRule 10 = .ok (.iload_n 3, 1) := by decide +kernel
theorem dX6_runRule_11 : decode cX6_runRule 11 = .ok (.bipush 20, 2) := by decide +kernel
theorem dX6_runRule_13 : decode cX6_runRule 13 = .ok (.if_icmp .gt 53, 3) := by decide +kernel
theorem dX6_runRule_16 : decode cX6_runRule 16 = .ok (.aload_n 0, 1) := by decide +kernel
theorem dX6_runRule_17 : decode cX6_runRule 17 = .ok (.getfield 30, 3) := by decide +kernel
theorem dX6_runRule_20 : decode cX6_runRule 20 = .ok (.invokevirtual 240, 3) := by decide +kernel
theorem dX6_runRule_23 : decode cX6_runRule 23 = .ok (.ifCond .ne 43, 3) := by decide +kernel
theorem dX6_runRule_26 : decode cX6_runRule 26 = .ok (.aload_n 0, 1) := by decide +kernel
theorem dX6_runRule_27 : decode cX6_runRule 27 = .ok (.getfield 30, 3) := by decide +kernel
theorem dX6_runRule_30 : decode cX6_runRule 30 = .ok (.aload_n 0, 1) := by decide +kernel
theorem dX6_runRule_31 : decode cX6_runRule 31 = .ok (.getfield 19, 3) := by decide +kernel
theorem dX6_runRule_34 : decode cX6_runRule 34 = .ok (.invokevirtual 244, 3) := by decide +kernel
theorem dX6_runRule_37 : decode cX6_runRule 37 = .ok (.aload_n 0, 1) := by decide +kernel
theorem dX6_runRule_38 : decode cX6_runRule 38 = .ok (.getfield 30, 3) := by decide +kernel
theorem dX6_runRule_41 : decode cX6_runRule 41 = .ok (.aload_n 0, 1) := by decide +kernel
theorem dX6_runRule_42 : decode cX6_runRule 42 = .ok (.getfield 10, 3) := by decide +kernel
theorem dX6_runRule_45 : decode cX6_runRule 45 = .ok (.iload_n 1, 1) := by decide +kernel
theorem dX6_runRule_46 : decode cX6_runRule 46 = .ok (.invokevirtual 256, 3) := by decide +kernel
theorem dX6_runRule_49 : decode cX6_runRule 49 = .ok (.aload_n 0, 1) := by decide +kernel
theorem dX6_runRule_50 : decode cX6_runRule 50 = .ok (.getfield 30, 3) := by decide +kernel
theorem dX6_runRule_53 : decode cX6_runRule 53 = .ok (.aload_n 0, 1) := by decide +kernel
theorem dX6_runRule_54 : decode cX6_runRule 54 = .ok (.getfield 10, 3) := by decide +kernel
theorem dX6_runRule_57 : decode cX6_runRule 57 = .ok (.invokevirtual 252, 3) := by decide +kernel
theorem dX6_runRule_60 : decode cX6_runRule 60 = .ok (.iinc 3 1, 3) := by decide +kernel
theorem dX6_runRule_63 : decode cX6_runRule 63 = .ok (.goto (-53), 3) := by decide +kernel
theorem dX6_runRule_66 : decode cX6_runRule 66 = .ok (.return_, 1) := by decide +kernel
set_option maxRecDepth 20000 in
theorem ggX6_savedByRule_X6_runRule : GoodIn wsX6_savedByRule wsX6_runRule := goodIn_r _ [8, 2, 9, 1, 10, 11, 12, 13, 14, 15, 16, 17, 18, 19, 20, 21, 22, 23, 24, 25, 26, 27, 28, 29, 30, 31, 32, 33, 34, 35, 36, 37, 38, 39, 40, 41, 42, 43, 44, 45, 46, 47, 48, 49, 50, 51, 52, 53, 54, 55, 56, 57, 58, 59, 7, 60, 61, 62, 63, 64, 65, 66, 67, 68, 69, 70, 71, 72, 73, 74, 75, 76, 77, 78, 79, 80, 81, 82, 83, 84, 85, 86, 87, 88, 102, 103, 104, 105, 106, 107, 108, 109, 110, 111, 112, 113, 114, 115, 116, 117, 118, 119, 120, 121, 122, 123, 124] (by decide +kernel) (by decide +kernel)
set_option maxRecDepth 20000 in
theorem gX6_savedByRule_X6_runRule : GoodIn wsX6_savedByRule (wsV RX6 175 RX6 yX6_runRule wsX6_runRule) := goodIn_app (goodIn_of _ (by decide +kernel)) ggX6_savedByRule_X6_runRule
set_option maxRecDepth 20000 in
theorem ggX6_savedByRule_X3_savedFrom : GoodIn wsX6_savedByRule wsX3_savedFrom := goodIn_r _ [92, 93, 94, 95, 51, 96, 97, 98, 99, 100, 101, 65, 77, 78, 79, 119, 120, 121, 122, 123, 124] (by decide +kernel) (by decide +kernel)
set_option maxRecDepth 20000 in
theorem gX6_savedByRule_X3_savedFrom : GoodIn wsX6_savedByRule (wsV RX6 135 RX3 yX3_savedFrom wsX3_savedFrom) := goodIn_app (goodIn_of _ (by decide +kernel)) ggX6_savedByRule_X3_savedFrom
theorem dX6_savedByRule_0 : decode cX6_savedByRule 0 = .ok (.aload_n 0, 1) := by decide +kernel
theorem dX6_savedByRule_1 : decode cX6_savedByRule 1 = .ok (.iload_n 1, 1) := by decide +kernel
theorem dX6_savedByRule_2 : decode cX6_savedByRule 2 = .ok (.iload_n 2, 1) := by decide +kernel
theorem dX6_savedByRule_3 : decode cX6_savedByRule 3 = .ok (.invokevirtual 175, 3) := by decide +kernel
theorem dX6_savedByRule_6 : decode cX6_savedByRule 6 = .ok (.aload_n 0, 1) := by decide +kernel
theorem dX6_savedByRule_7 : decode cX6_savedByRule 7 = .ok (.getfield 10, 3) := by decide +kernel
theorem dX6_savedByRule_10 : decode cX6_savedByRule 10 = .ok (.aload_n 0, 1) := by decide +kernel
theorem dX6_savedByRule_11 : decode cX6_savedByRule 11 = .ok (.getfield 30, 3) := by decide +kernel
theorem dX6_savedByRule_14 : decode cX6_savedByRule 14 = .ok (.getfield 132, 3) := by decide +kernel
theorem dX6_savedByRule_17 : decode cX6_savedByRule 17 = .ok (.invokevirtual 135, 3) := by decide +kernel
theorem dX6_savedByRule_20 : decode cX6_savedByRule 20 = .ok (.ireturn, 1) := by decide +kernel
set_option maxRecDepth 20000 in
theorem ggX6_seekBest_X4_copy : GoodIn wsX6_seekBest wsX4_copy := goodIn_r _ [10, 11, 12, 13, 14, 15, 16, 109, 110] (by decide +kernel) (by decide +kernel)
set_option maxRecDepth 20000 in
theorem gX6_seekBest_X4_copy : GoodIn wsX6_seekBest (wsV RX6 259 RX4 yX4_copy wsX4_copy) := goodIn_app (goodIn_of _ (by decide +kernel)) ggX6_seekBest_X4_copy
set_option maxRecDepth 20000 in
theorem ggX6_seekBest_X5_run : GoodIn wsX6_seekBest wsX5_run := goodIn_r _ [21, 22, 23, 24, 25, 26, 27, 28, 29, 9, 30, 31, 32, 33, 34, 35, 36, 37, 11, 16, 38, 39, 40, 20, 41, 42, 43, 44, 45, 46, 47, 48, 49, 50, 51, 52, 53, 54, 55, 56, 57, 58, 59, 60, 61, 62, 63, 64, 65, 66, 67, 68, 69, 70, 71, 72, 73, 74, 75, 76, 77, 78, 79, 80, 81, 82, 83, 84, 85, 86, 87, 88, 89, 90, 91, 92, 101, 102, 103, 104, 105, 106, 107, 108, 109, 110, 111, 112, 113, 114, 115, 116] (by decide +kernel) (by decide +kernel)
set_option maxRecDepth 20000 in
theorem gX6_seekBest_X5_run : GoodIn wsX6_seekBest (wsV RX6 168 RX5 yX5_run wsX5_run) := goodIn_app (goodIn_of _ (by decide +kernel)) ggX6_seekBest_X5_run
theorem dX6_seekBest_0 : decode cX6_seekBest 0 = .ok (.aload_n 0, 1) := by decide +kernel
theorem dX6_seekBest_1 : decode cX6_seekBest 1 = .ok (.getfield 37, 3) := by decide +kernel
theorem dX6_seekBest_4 : decode cX6_seekBest 4 = .ok (.getfield 165, 3) := by decide +kernel
theorem dX6_seekBest_7 : decode cX6_seekBest 7 = .ok (.aload_n 0, 1) := by decide +kernel
theorem dX6_seekBest_8 : decode cX6_seekBest 8 = .ok (.getfield 19, 3) := by decide +kernel
theorem dX6_seekBest_11 : decode cX6_seekBest 11 = .ok (.invokevirtual 259, 3) := by decide +kernel
theorem dX6_seekBest_14 : decode cX6_seekBest 14 = .ok (.aload_n 0, 1) := by decide +kernel
theorem dX6_seekBest_15 : decode cX6_seekBest 15 = .ok (.getfield 37, 3) := by decide +kernel
theorem dX6_seekBest_18 : decode cX6_seekBest 18 = .ok (.aload_n 0, 1) := by decide +kernel
theorem dX6_seekBest_19 : decode cX6_seekBest 19 = .ok (.getfield 10, 3) := by decide +kernel
theorem dX6_seekBest_22 : decode cX6_seekBest 22 = .ok (.aload_n 0, 1) := by decide +kernel
theorem dX6_seekBest_23 : decode cX6_seekBest 23 = .ok (.getfield 55, 3) := by decide +kernel
theorem dX6_seekBest_26 : decode cX6_seekBest 26 = .ok (.iload_n 1, 1) := by decide +kernel
theorem dX6_seekBest_27 : decode cX6_seekBest 27 = .ok (.invokevirtual 168, 3) := by decide +kernel
theorem dX6_seekBest_30 : decode cX6_seekBest 30 = .ok (.return_, 1) := by decide +kernel
set_option maxRecDepth 20000 in
theorem ggX7_init_X7_clear : GoodIn wsX7_init wsX7_clear := goodIn_r _ [26, 27, 7, 8, 9, 12, 28, 29, 30, 31, 32, 33, 34, 35, 36, 37, 38, 39, 40, 41, 42, 43, 44, 45, 46, 47, 48, 49, 50, 51, 52, 53, 54, 55, 56, 57, 58, 59, 60, 61] (by decide +kernel) (by decide +kernel)
set_option maxRecDepth 20000 in
theorem gX7_init_X7_clear : GoodIn wsX7_init (wsV RX7 62 RX7 yX7_clear wsX7_clear) := goodIn_app (goodIn_of _ (by decide +kernel)) ggX7_init_X7_clear
end
section
theorem dX7_init_0 : decode cX7_init 0 = .ok (.aload_n 0, 1) := by decide +kernel
theorem dX7_init_1 : decode cX7_init 1 = .ok (.invokespecial 1, 3) := by decide +kernel
theorem dX7_init_4 : decode cX7_init 4 = .ok (.aload_n 0, 1) := by decide +kernel
theorem dX7_init_5 : decode cX7_init 5 = .ok (.iconst 1, 1) := by decide +kernel
theorem dX7_init_6 : decode cX7_init 6 = .ok (.putfield 7, 3) := by decide +kernel
theorem dX7_init_9 : decode cX7_init 9 = .ok (.aload_n 0, 1) := by decide +kernel
theorem dX7_init_10 : decode cX7_init 10 = .ok (.bipush 48, 2) := by decide +kernel
theorem dX7_init_12 : decode cX7_init 12 = .ok (.newarray .int, 2) := by decide +kernel
theorem dX7_init_14 : decode cX7_init 14 = .ok (.putfield 13, 3) := by decide +kernel
theorem dX7_init_17 : decode cX7_init 17 = .ok (.aload_n 0, 1) := by decide +kernel
theorem dX7_init_18 : decode cX7_init 18 = .ok (.bipush 10, 2) := by decide +kernel
theorem dX7_init_20 : decode cX7_init 20 = .ok (.newarray .int, 2) := by decide +kernel
theorem dX7_init_22 : decode cX7_init 22 = .ok (.putfield 17, 3) := by decide +kernel
theorem dX7_init_25 : decode cX7_init 25 = .ok (.aload_n 0, 1) := by decide +kernel
theorem dX7_init_26 : decode cX7_init 26 = .ok (.bipush 10, 2) := by decide +kernel
theorem dX7_init_28 : decode cX7_init 28 = .ok (.newarray .int, 2) := by decide +kernel
theorem dX7_init_30 : decode cX7_init 30 = .ok (.putfield 20, 3) := by decide +kernel
theorem dX7_init_33 : decode cX7_init 33 = .ok (.aload_n 0, 1) := by decide +kernel
theorem dX7_init_34 : decode cX7_init 34 = .ok (.bipush 10, 2) := by decide +kernel
theorem dX7_init_36 : decode cX7_init 36 = .ok (.newarray .int, 2) := by decide +kernel
theorem dX7_init_38 : decode cX7_init 38 = .ok (.putfield 23, 3) := by decide +kernel
theorem dX7_init_41 : decode cX7_init 41 = .ok (.aload_n 0, 1) := by decide +kernel
theorem dX7_init_42 : decode cX7_init 42 = .ok (.bipush 9, 2) := by decide +kernel
theorem dX7_init_44 : decode cX7_init 44 = .ok (.newarray .int, 2) := by decide +kernel
theorem dX7_init_46 : decode cX7_init 46 = .ok (.putfield 26, 3) := by decide +kernel
theorem dX7_init_49 : decode cX7_init 49 = .ok (.aload_n 0, 1) := by decide +kernel
theorem dX7_init_50 : decode cX7_init 50 = .ok (.sipush 500, 3) := by decide +kernel
theorem dX7_init_53 : decode cX7_init 53 = .ok (.putfield 29, 3) := by decide +kernel
theorem dX7_init_56 : decode cX7_init 56 = .ok (.aload_n 0, 1) := by decide +kernel
theorem dX7_init_57 : decode cX7_init 57 = .ok (.bipush 9, 2) := by decide +kernel
theorem dX7_init_59 : decode cX7_init 59 = .ok (.newarray .int, 2) := by decide +kernel
theorem dX7_init_61 : decode cX7_init 61 = .ok (.putfield 32, 3) := by decide +kernel
theorem dX7_init_64 : decode cX7_init 64 = .ok (.aload_n 0, 1) := by decide +kernel
theorem dX7_init_65 : decode cX7_init 65 = .ok (.bipush 120, 2) := by decide +kernel
theorem dX7_init_67 : decode cX7_init 67 = .ok (.newarray .int, 2) := by decide +kernel
theorem dX7_init_69 : decode cX7_init 69 = .ok (.putfield 35, 3) := by decide +kernel
theorem dX7_init_72 : decode cX7_init 72 = .ok (.aload_n 0, 1) := by decide +kernel
theorem dX7_init_73 : decode cX7_init 73 = .ok (.bipush 10, 2) := by decide +kernel
theorem dX7_init_75 : decode cX7_init 75 = .ok (.newarray .int, 2) := by decide +kernel
theorem dX7_init_77 : decode cX7_init 77 = .ok (.putfield 38, 3) := by decide +kernel
theorem dX7_init_80 : decode cX7_init 80 = .ok (.aload_n 0, 1) := by decide +kernel
theorem dX7_init_81 : decode cX7_init 81 = .ok (.bipush 10, 2) := by decide +kernel
theorem dX7_init_83 : decode cX7_init 83 = .ok (.newarray .int, 2) := by decide +kernel
theorem dX7_init_85 : decode cX7_init 85 = .ok (.putfield 41, 3) := by decide +kernel
theorem dX7_init_88 : decode cX7_init 88 = .ok (.aload_n 0, 1) := by decide +kernel
theorem dX7_init_89 : decode cX7_init 89 = .ok (.bipush 10, 2) := by decide +kernel
theorem dX7_init_91 : decode cX7_init 91 = .ok (.newarray .int, 2) := by decide +kernel
theorem dX7_init_93 : decode cX7_init 93 = .ok (.putfield 44, 3) := by decide +kernel
theorem dX7_init_96 : decode cX7_init 96 = .ok (.aload_n 0, 1) := by decide +kernel
theorem dX7_init_97 : decode cX7_init 97 = .ok (.bipush 10, 2) := by decide +kernel
theorem dX7_init_99 : decode cX7_init 99 = .ok (.newarray .int, 2) := by decide +kernel
theorem dX7_init_101 : decode cX7_init 101 = .ok (.putfield 47, 3) := by decide +kernel
theorem dX7_init_104 : decode cX7_init 104 = .ok (.aload_n 0, 1) := by decide +kernel
theorem dX7_init_105 : decode cX7_init 105 = .ok (.bipush 9, 2) := by decide +kernel
theorem dX7_init_107 : decode cX7_init 107 = .ok (.newarray .int, 2) := by decide +kernel
theorem dX7_init_109 : decode cX7_init 109 = .ok (.putfield 50, 3) := by decide +kernel
theorem dX7_init_112 : decode cX7_init 112 = .ok (.aload_n 0, 1) := by decide +kernel
theorem dX7_init_113 : decode cX7_init 113 = .ok (.sipush 1024, 3) := by decide +kernel
theorem dX7_init_116 : decode cX7_init 116 = .ok (.newarray .int, 2) := by decide +kernel
theorem dX7_init_118 : decode cX7_init 118 = .ok (.putfield 53, 3) := by decide +kernel
theorem dX7_init_121 : decode cX7_init 121 = .ok (.aload_n 0, 1) := by decide +kernel
theorem dX7_init_122 : decode cX7_init 122 = .ok (.bipush 9, 2) := by decide +kernel
theorem dX7_init_124 : decode cX7_init 124 = .ok (.newarray .int, 2) := by decide +kernel
theorem dX7_init_126 : decode cX7_init 126 = .ok (.putfield 56, 3) := by decide +kernel
theorem dX7_init_129 : decode cX7_init 129 = .ok (.aload_n 0, 1) := by decide +kernel
theorem dX7_init_130 : decode cX7_init 130 = .ok (.sipush 3721, 3) := by decide +kernel
theorem dX7_init_133 : decode cX7_init 133 = .ok (.newarray .int, 2) := by decide +kernel
theorem dX7_init_135 : decode cX7_init 135 = .ok (.putfield 59, 3) := by decide +kernel
theorem dX7_init_138 : decode cX7_init 138 = .ok (.iconst 0, 1) := by decide +kernel
theorem dX7_init_139 : decode cX7_init 139 = .ok (.istore_n 1, 1) := by decide +kernel
theorem dX7_init_140 : decode cX7_init 140 = .ok (.iload_n 1, 1) := by decide +kernel
theorem dX7_init_141 : decode cX7_init 141 = .ok (.bipush 9, 2) := by decide +kernel
theorem dX7_init_143 : decode cX7_init 143 = .ok (.if_icmp .ge 16, 3) := by decide +kernel
theorem dX7_init_146 : decode cX7_init 146 = .ok (.aload_n 0, 1) := by decide +kernel
theorem dX7_init_147 : decode cX7_init 147 = .ok (.getfield 26, 3) := by decide +kernel
theorem dX7_init_150 : decode cX7_init 150 = .ok (.iload_n 1, 1) := by decide +kernel
theorem dX7_init_151 : decode cX7_init 151 = .ok (.iconst 1, 1) := by decide +kernel
theorem dX7_init_152 : decode cX7_init 152 = .ok (.iastore, 1) := by decide +kernel
theorem dX7_init_153 : decode cX7_init 153 = .ok (.iinc 1 1, 3) := by decide +kernel
theorem dX7_init_156 : decode cX7_init 156 = .ok (.goto (-16), 3) := by decide +kernel
theorem dX7_init_159 : decode cX7_init 159 = .ok (.aload_n 0, 1) := by decide +kernel
theorem dX7_init_160 : decode cX7_init 160 = .ok (.invokevirtual 62, 3) := by decide +kernel
theorem dX7_init_163 : decode cX7_init 163 = .ok (.return_, 1) := by decide +kernel
theorem dX7_clear_0 : decode cX7_clear 0 = .ok (.aload_n 0, 1) := by decide +kernel
theorem dX7_clear_1 : decode cX7_clear 1 = .ok (.iconst 0, 1) := by decide +kernel
theorem dX7_clear_2 : decode cX7_clear 2 = .ok (.putfield 65, 3) := by decide +kernel
theorem dX7_clear_5 : decode cX7_clear 5 = .ok (.iconst 0, 1) := by decide +kernel
theorem dX7_clear_6 : decode cX7_clear 6 = .ok (.istore_n 1, 1) := by decide +kernel
theorem dX7_clear_7 : decode cX7_clear 7 = .ok (.iload_n 1, 1) := by decide +kernel
theorem dX7_clear_8 : decode cX7_clear 8 = .ok (.bipush 10, 2) := by decide +kernel
theorem dX7_clear_10 : decode cX7_clear 10 = .ok (.if_icmp .ge 30, 3) := by decide +kernel
theorem dX7_clear_13 : decode cX7_clear 13 = .ok (.aload_n 0, 1) := by decide +kernel
theorem dX7_clear_14 : decode cX7_clear 14 = .ok (.getfield 17, 3) := by decide +kernel
theorem dX7_clear_17 : decode cX7_clear 17 = .ok (.iload_n 1, 1) := by decide +kernel
theorem dX7_clear_18 : decode cX7_clear 18 = .ok (.iconst 0, 1) := by decide +kernel
theorem dX7_clear_19 : decode cX7_clear 19 = .ok (.iastore, 1) := by decide +kernel
theorem dX7_clear_20 : decode cX7_clear 20 = .ok (.aload_n 0, 1) := by decide +kernel
theorem dX7_clear_21 : decode cX7_clear 21 = .ok (.getfield 20, 3) := by decide +kernel
theorem dX7_clear_24 : decode cX7_clear 24 = .ok (.iload_n 1, 1) := by decide +kernel
theorem dX7_clear_25 : decode cX7_clear 25 = .ok (.iconst 1, 1) := by decide +kernel
theorem dX7_clear_26 : decode cX7_clear 26 = .ok (.iastore, 1) := by decide +kernel
theorem dX7_clear_27 : decode cX7_clear 27 = .ok (.aload_n 0, 1) := by decide +kernel
theorem dX7_clear_28 : decode cX7_clear 28 = .ok (.getfield 23, 3) := by decide +kernel
theorem dX7_clear_31 : decode cX7_clear 31 = .ok (.iload_n 1, 1) := by decide +kernel
theorem dX7_clear_32 : decode cX7_clear 32 = .ok (.iconst 1, 1) := by decide +kernel
theorem dX7_clear_33 : decode cX7_clear 33 = .ok (.iastore, 1) := by decide +kernel
theorem dX7_clear_34 : decode cX7_clear 34 = .ok (.iinc 1 1, 3) := by decide +kernel
theorem dX7_clear_37 : decode cX7_clear 37 = .ok (.goto (-30), 3) := by decide +kernel
theorem dX7_clear_40 : decode cX7_clear 40 = .ok (.iconst 0, 1) := by decide +kernel
theorem dX7_clear_41 : decode cX7_clear 41 = .ok (.istore_n 1, 1) := by decide +kernel
theorem dX7_clear_42 : decode cX7_clear 42 = .ok (.iload_n 1, 1) := by decide +kernel
theorem dX7_clear_43 : decode cX7_clear 43 = .ok (.bipush 9, 2) := by decide +kernel
theorem dX7_clear_45 : decode cX7_clear 45 = .ok (.if_icmp .ge 16, 3) := by decide +kernel
theorem dX7_clear_48 : decode cX7_clear 48 = .ok (.aload_n 0, 1) := by decide +kernel
theorem dX7_clear_49 : decode cX7_clear 49 = .ok (.getfield 32, 3) := by decide +kernel
theorem dX7_clear_52 : decode cX7_clear 52 = .ok (.iload_n 1, 1) := by decide +kernel
theorem dX7_clear_53 : decode cX7_clear 53 = .ok (.iconst 0, 1) := by decide +kernel
theorem dX7_clear_54 : decode cX7_clear 54 = .ok (.iastore, 1) := by decide +kernel
theorem dX7_clear_55 : decode cX7_clear 55 = .ok (.iinc 1 1, 3) := by decide +kernel
theorem dX7_clear_58 : decode cX7_clear 58 = .ok (.goto (-16), 3) := by decide +kernel
theorem dX7_clear_61 : decode cX7_clear 61 = .ok (.return_, 1) := by decide +kernel
theorem dX7_in_0 : decode cX7_in 0 = .ok (.lload_n 0, 1) := by decide +kernel
theorem dX7_in_1 : decode cX7_in 1 = .ok (.lload_n 2, 1) := by decide +kernel
theorem dX7_in_2 : decode cX7_in 2 = .ok (.lcmp, 1) := by decide +kernel
theorem dX7_in_3 : decode cX7_in 3 = .ok (.ifCond .lt 14, 3) := by decide +kernel
theorem dX7_in_6 : decode cX7_in 6 = .ok (.lload_n 0, 1) := by decide +kernel
theorem dX7_in_7 : decode cX7_in 7 = .ok (.lload 4, 2) := by decide +kernel
theorem dX7_in_9 : decode cX7_in 9 = .ok (.lcmp, 1) := by decide +kernel
theorem dX7_in_10 : decode cX7_in 10 = .ok (.ifCond .gt 7, 3) := by decide +kernel
theorem dX7_in_13 : decode cX7_in 13 = .ok (.iconst 1, 1) := by decide +kernel
theorem dX7_in_14 : decode cX7_in 14 = .ok (.goto 4, 3) := by decide +kernel
theorem dX7_in_17 : decode cX7_in 17 = .ok (.iconst 0, 1) := by decide +kernel
theorem dX7_in_18 : decode cX7_in 18 = .ok (.ireturn, 1) := by decide +kernel
set_option maxRecDepth 20000 in
theorem ggX7_isNode_X7_in : GoodIn wsX7_isNode wsX7_in := goodIn_r _ [5] (by decide +kernel) (by decide +kernel)
set_option maxRecDepth 20000 in
theorem gX7_isNode_X7_in : GoodIn wsX7_isNode (va_wsS RX7 68 yX7_in wsX7_in) := goodIn_app (goodIn_of _ (by decide +kernel)) ggX7_isNode_X7_in
theorem dX7_isNode_0 : decode cX7_isNode 0 = .ok (.iload_n 1, 1) := by decide +kernel
theorem dX7_isNode_1 : decode cX7_isNode 1 = .ok (.i2l, 1) := by decide +kernel
theorem dX7_isNode_2 : decode cX7_isNode 2 = .ok (.lconst 0, 1) := by decide +kernel
theorem dX7_isNode_3 : decode cX7_isNode 3 = .ok (.aload_n 0, 1) := by decide +kernel
theorem dX7_isNode_4 : decode cX7_isNode 4 = .ok (.getfield 7, 3) := by decide +kernel
theorem dX7_isNode_7 : decode cX7_isNode 7 = .ok (.iconst 1, 1) := by decide +kernel
theorem dX7_isNode_8 : decode cX7_isNode 8 = .ok (.isub, 1) := by decide +kernel
theorem dX7_isNode_9 : decode cX7_isNode 9 = .ok (.i2l, 1) := by decide +kernel
theorem dX7_isNode_10 : decode cX7_isNode 10 = .ok (.invokestatic 68, 3) := by decide +kernel
theorem dX7_isNode_13 : decode cX7_isNode 13 = .ok (.ireturn, 1) := by decide +kernel
theorem dX7_all_0 : decode cX7_all 0 = .ok (.iconst 1, 1) := by decide +kernel
theorem dX7_all_1 : decode cX7_all 1 = .ok (.aload_n 0, 1) := by decide +kernel
theorem dX7_all_2 : decode cX7_all 2 = .ok (.getfield 7, 3) := by decide +kernel
theorem dX7_all_5 : decode cX7_all 5 = .ok (.ishl, 1) := by decide +kernel
theorem dX7_all_6 : decode cX7_all 6 = .ok (.iconst 1, 1) := by decide +kernel
theorem dX7_all_7 : decode cX7_all 7 = .ok (.isub, 1) := by decide +kernel
theorem dX7_all_8 : decode cX7_all 8 = .ok (.ireturn, 1) := by decide +kernel
set_option maxRecDepth 20000 in
theorem ggX7_isFire_X7_all : GoodIn wsX7_isFire wsX7_all := goodIn_r _ [5, 6, 10, 11, 12, 13, 14, 15, 16, 17, 18, 19, 20, 21, 22, 23, 24, 25, 26, 27, 28, 29, 30, 31, 32, 33, 34, 35, 36, 37, 38, 39, 40, 41, 42, 43] (by decide +kernel) (by decide +kernel)
set_option maxRecDepth 20000 in
theorem gX7_isFire_X7_all : GoodIn wsX7_isFire (wsV RX7 72 RX7 yX7_all wsX7_all) := goodIn_app (goodIn_of _ (by decide +kernel)) ggX7_isFire_X7_all
set_option maxRecDepth 20000 in
theorem ggX7_isFire_X7_in : GoodIn wsX7_isFire wsX7_in := goodIn_r _ [9] (by decide +kernel) (by decide +kernel)
set_option maxRecDepth 20000 in
theorem gX7_isFire_X7_in : GoodIn wsX7_isFire (va_wsS RX7 68 yX7_in wsX7_in) := goodIn_app (goodIn_of _ (by decide +kernel)) ggX7_isFire_X7_in
theorem dX7_isFire_0 : decode cX7_isFire 0 = .ok (.iload_n 1, 1) := by decide +kernel
theorem dX7_isFire_1 : decode cX7_isFire 1 = .ok (.i2l, 1) := by decide +kernel
theorem dX7_isFire_2 : decode cX7_isFire 2 = .ok (.lconst 1, 1) := by decide +kernel
theorem dX7_isFire_3 : decode cX7_isFire 3 = .ok (.aload_n 0, 1) := by decide +kernel
theorem dX7_isFire_4 : decode cX7_isFire 4 = .ok (.invokevirtual 72, 3) := by decide +kernel
theorem dX7_isFire_7 : decode cX7_isFire 7 = .ok (.i2l, 1) := by decide +kernel
theorem dX7_isFire_8 : decode cX7_isFire 8 = .ok (.invokestatic 68, 3) := by decide +kernel
theorem dX7_isFire_11 : decode cX7_isFire 11 = .ok (.ireturn, 1) := by decide +kernel
set_option maxRecDepth 20000 in
theorem ggX7_net_X7_in : GoodIn wsX7_net wsX7_in := goodIn_r _ [6] (by decide +kernel) (by decide +kernel)
set_option maxRecDepth 20000 in
theorem gX7_net_X7_in : GoodIn wsX7_net (va_wsS RX7 68 yX7_in wsX7_in) := goodIn_app (goodIn_of _ (by decide +kernel)) ggX7_net_X7_in
set_option maxRecDepth 20000 in
theorem ggX7_net_X7_clear : GoodIn wsX7_net wsX7_clear := goodIn_r _ [10, 11, 12, 13, 14, 15, 16, 17, 18, 19, 20, 21, 22, 23, 24, 25, 26, 27, 28, 29, 30, 31, 32, 33, 34, 35, 36, 37, 38, 39, 40, 41, 42, 43, 44, 45, 46, 47, 48, 49] (by decide +kernel) (by decide +kernel)
set_option maxRecDepth 20000 in
theorem gX7_net_X7_clear : GoodIn wsX7_net (wsV RX7 62 RX7 yX7_clear wsX7_clear) := goodIn_app (goodIn_of _ (by decide +kernel)) ggX7_net_X7_clear
theorem dX7_net_0 : decode cX7_net 0 = .ok (.iload_n 1, 1) := by decide +kernel
theorem dX7_net_1 : decode cX7_net 1 = .ok (.i2l, 1) := by decide +kernel
theorem dX7_net_2 : decode cX7_net 2 = .ok (.lconst 1, 1) := by decide +kernel
theorem dX7_net_3 : decode cX7_net 3 = .ok (.ldc2_w 76, 3) := by decide +kernel
theorem dX7_net_6 : decode cX7_net 6 = .ok (.invokestatic 68, 3) := by decide +kernel
theorem dX7_net_9 : decode cX7_net 9 = .ok (.ifCond .ne 7, 3) := by decide +kernel
theorem dX7_net_12 : decode cX7_net 12 = .ok (.sipush (-1002), 3) := by decide +kernel
theorem dX7_net_15 : decode cX7_net 15 = .ok (.ireturn, 1) := by decide +kernel
theorem dX7_net_16 : decode cX7_net 16 = .ok (.aload_n 0, 1) := by decide +kernel
theorem dX7_net_17 : decode cX7_net 17 = .ok (.iload_n 1, 1) := by decide +kernel
theorem dX7_net_18 : decode cX7_net 18 = .ok (.putfield 7, 3) := by decide +kernel
theorem dX7_net_21 : decode cX7_net 21 = .ok (.aload_n 0, 1) := by decide +kernel
theorem dX7_net_22 : decode cX7_net 22 = .ok (.invokevirtual 62, 3) := by decide +kernel
theorem dX7_net_25 : decode cX7_net 25 = .ok (.iconst 1, 1) := by decide +kernel
theorem dX7_net_26 : decode cX7_net 26 = .ok (.ireturn, 1) := by decide +kernel
set_option maxRecDepth 20000 in
theorem ggX7_line_X7_isNode : GoodIn wsX7_line wsX7_isNode := goodIn_r _ [8, 9, 10, 11, 7, 12, 13, 14, 15, 16, 17, 18, 19, 20, 21, 22, 23, 24, 25, 26, 27, 28, 29, 30, 31, 32, 33, 34, 35, 36, 37, 38, 39, 40, 41, 42, 43, 44, 45, 46] (by decide +kernel) (by decide +kernel)
set_option maxRecDepth 20000 in
theorem gX7_line_X7_isNode : GoodIn wsX7_line (wsV RX7 78 RX7 yX7_isNode wsX7_isNode) := goodIn_app (goodIn_of _ (by decide +kernel)) ggX7_line_X7_isNode
theorem dX7_line_0 : decode cX7_line 0 = .ok (.aload_n 0, 1) := by decide +kernel
theorem dX7_line_1 : decode cX7_line 1 = .ok (.iload_n 1, 1) := by decide +kernel
theorem dX7_line_2 : decode cX7_line 2 = .ok (.invokevirtual 78, 3) := by decide +kernel
theorem dX7_line_5 : decode cX7_line 5 = .ok (.ifCond .eq 11, 3) := by decide +kernel
theorem dX7_line_8 : decode cX7_line 8 = .ok (.aload_n 0, 1) := by decide +kernel
theorem dX7_line_9 : decode cX7_line 9 = .ok (.iload_n 2, 1) := by decide +kernel
theorem dX7_line_10 : decode cX7_line 10 = .ok (.invokevirtual 78, 3) := by decide +kernel
theorem dX7_line_13 : decode cX7_line 13 = .ok (.ifCond .ne 7, 3) := by decide +kernel
theorem dX7_line_16 : decode cX7_line 16 = .ok (.sipush (-1001), 3) := by decide +kernel
theorem dX7_line_19 : decode cX7_line 19 = .ok (.ireturn, 1) := by decide +kernel
theorem dX7_line_20 : decode cX7_line 20 = .ok (.iload_n 1, 1) := by decide +kernel
theorem dX7_line_21 : decode cX7_line 21 = .ok (.iload_n 2, 1) := by decide +kernel
theorem dX7_line_22 : decode cX7_line 22 = .ok (.if_icmp .ne 7, 3) := by decide +kernel
theorem dX7_line_25 : decode cX7_line 25 = .ok (.sipush (-1002), 3) := by decide +kernel
theorem dX7_line_28 : decode cX7_line 28 = .ok (.ireturn, 1) := by decide +kernel
theorem dX7_line_29 : decode cX7_line 29 = .ok (.aload_n 0, 1) := by decide +kernel
theorem dX7_line_30 : decode cX7_line 30 = .ok (.getfield 17, 3) := by decide +kernel
theorem dX7_line_33 : decode cX7_line 33 = .ok (.iload_n 1, 1) := by decide +kernel
theorem dX7_line_34 : decode cX7_line 34 = .ok (.iaload, 1) := by decide +kernel
theorem dX7_line_35 : decode cX7_line 35 = .ok (.iload_n 2, 1) := by decide +kernel
theorem dX7_line_36 : decode cX7_line 36 = .ok (.ishr, 1) := by decide +kernel
theorem dX7_line_37 : decode cX7_line 37 = .ok (.iconst 1, 1) := by decide +kernel
theorem dX7_line_38 : decode cX7_line 38 = .ok (.iand, 1) := by decide +kernel
theorem dX7_line_39 : decode cX7_line 39 = .ok (.iconst 1, 1) := by decide +kernel
theorem dX7_line_40 : decode cX7_line 40 = .ok (.if_icmp .ne 7, 3) := by decide +kernel
theorem dX7_line_43 : decode cX7_line 43 = .ok (.sipush (-1003), 3) := by decide +kernel
theorem dX7_line_46 : decode cX7_line 46 = .ok (.ireturn, 1) := by decide +kernel
theorem dX7_line_47 : decode cX7_line 47 = .ok (.aload_n 0, 1) := by decide +kernel
theorem dX7_line_48 : decode cX7_line 48 = .ok (.getfield 65, 3) := by decide +kernel
theorem dX7_line_51 : decode cX7_line 51 = .ok (.bipush 24, 2) := by decide +kernel
theorem dX7_line_53 : decode cX7_line 53 = .ok (.if_icmp .ne 7, 3) := by decide +kernel
theorem dX7_line_56 : decode cX7_line 56 = .ok (.sipush (-1004), 3) := by decide +kernel
theorem dX7_line_59 : decode cX7_line 59 = .ok (.ireturn, 1) := by decide +kernel
theorem dX7_line_60 : decode cX7_line 60 = .ok (.aload_n 0, 1) := by decide +kernel
theorem dX7_line_61 : decode cX7_line 61 = .ok (.getfield 13, 3) := by decide +kernel
theorem dX7_line_64 : decode cX7_line 64 = .ok (.iconst 2, 1) := by decide +kernel
theorem dX7_line_65 : decode cX7_line 65 = .ok (.aload_n 0, 1) := by decide +kernel
theorem dX7_line_66 : decode cX7_line 66 = .ok (.getfield 65, 3) := by decide +kernel
theorem dX7_line_69 : decode cX7_line 69 = .ok (.imul, 1) := by decide +kernel
theorem dX7_line_70 : decode cX7_line 70 = .ok (.iload_n 1, 1) := by decide +kernel
theorem dX7_line_71 : decode cX7_line 71 = .ok (.iastore, 1) := by decide +kernel
theorem dX7_line_72 : decode cX7_line 72 = .ok (.aload_n 0, 1) := by decide +kernel
theorem dX7_line_73 : decode cX7_line 73 = .ok (.getfield 13, 3) := by decide +kernel
theorem dX7_line_76 : decode cX7_line 76 = .ok (.iconst 2, 1) := by decide +kernel
theorem dX7_line_77 : decode cX7_line 77 = .ok (.aload_n 0, 1) := by decide +kernel
theorem dX7_line_78 : decode cX7_line 78 = .ok (.getfield 65, 3) := by decide +kernel
theorem dX7_line_81 : decode cX7_line 81 = .ok (.imul, 1) := by decide +kernel
theorem dX7_line_82 : decode cX7_line 82 = .ok (.iconst 1, 1) := by decide +kernel
theorem dX7_line_83 : decode cX7_line 83 = .ok (.iadd, 1) := by decide +kernel
theorem dX7_line_84 : decode cX7_line 84 = .ok (.iload_n 2, 1) := by decide +kernel
theorem dX7_line_85 : decode cX7_line 85 = .ok (.iastore, 1) := by decide +kernel
theorem dX7_line_86 : decode cX7_line 86 = .ok (.aload_n 0, 1) := by decide +kernel
theorem dX7_line_87 : decode cX7_line 87 = .ok (.getfield 17, 3) := by decide +kernel
theorem dX7_line_90 : decode cX7_line 90 = .ok (.iload_n 1, 1) := by decide +kernel
theorem dX7_line_91 : decode cX7_line 91 = .ok (.dup2, 1) := by decide +kernel
theorem dX7_line_92 : decode cX7_line 92 = .ok (.iaload, 1) := by decide +kernel
theorem dX7_line_93 : decode cX7_line 93 = .ok (.iconst 1, 1) := by decide +kernel
theorem dX7_line_94 : decode cX7_line 94 = .ok (.iload_n 2, 1) := by decide +kernel
theorem dX7_line_95 : decode cX7_line 95 = .ok (.ishl, 1) := by decide +kernel
theorem dX7_line_96 : decode cX7_line 96 = .ok (.ior, 1) := by decide +kernel
theorem dX7_line_97 : decode cX7_line 97 = .ok (.iastore, 1) := by decide +kernel
theorem dX7_line_98 : decode cX7_line 98 = .ok (.aload_n 0, 1) := by decide +kernel
theorem dX7_line_99 : decode cX7_line 99 = .ok (.getfield 17, 3) := by decide +kernel
theorem dX7_line_102 : decode cX7_line 102 = .ok (.iload_n 2, 1) := by decide +kernel
theorem dX7_line_103 : decode cX7_line 103 = .ok (.dup2, 1) := by decide +kernel
theorem dX7_line_104 : decode cX7_line 104 = .ok (.iaload, 1) := by decide +kernel
theorem dX7_line_105 : decode cX7_line 105 = .ok (.iconst 1, 1) := by decide +kernel
theorem dX7_line_106 : decode cX7_line 106 = .ok (.iload_n 1, 1) := by decide +kernel
theorem dX7_line_107 : decode cX7_line 107 = .ok (.ishl, 1) := by decide +kernel
theorem dX7_line_108 : decode cX7_line 108 = .ok (.ior, 1) := by decide +kernel
theorem dX7_line_109 : decode cX7_line 109 = .ok (.iastore, 1) := by decide +kernel
theorem dX7_line_110 : decode cX7_line 110 = .ok (.aload_n 0, 1) := by decide +kernel
theorem dX7_line_111 : decode cX7_line 111 = .ok (.dup, 1) := by decide +kernel
theorem dX7_line_112 : decode cX7_line 112 = .ok (.getfield 65, 3) := by decide +kernel
theorem dX7_line_115 : decode cX7_line 115 = .ok (.iconst 1, 1) := by decide +kernel
theorem dX7_line_116 : decode cX7_line 116 = .ok (.iadd, 1) := by decide +kernel
theorem dX7_line_117 : decode cX7_line 117 = .ok (.putfield 65, 3) := by decide +kernel
theorem dX7_line_120 : decode cX7_line 120 = .ok (.aload_n 0, 1) := by decide +kernel
theorem dX7_line_121 : decode cX7_line 121 = .ok (.getfield 65, 3) := by decide +kernel
theorem dX7_line_124 : decode cX7_line 124 = .ok (.iconst 1, 1) := by decide +kernel
theorem dX7_line_125 : decode cX7_line 125 = .ok (.isub, 1) := by decide +kernel
theorem dX7_line_126 : decode cX7_line 126 = .ok (.ireturn, 1) := by decide +kernel
set_option maxRecDepth 20000 in
theorem ggX7_node_X7_isNode : GoodIn wsX7_node wsX7_isNode := goodIn_r _ [8, 9, 10, 11, 7, 12, 13, 14, 15, 16, 17, 18, 19, 20, 21, 22, 23, 24, 25, 26, 27, 28, 29, 30, 31, 32, 33, 34, 35, 36, 37, 38, 39, 40, 41, 42, 43, 44, 45, 46] (by decide +kernel) (by decide +kernel)
set_option maxRecDepth 20000 in
theorem gX7_node_X7_isNode : GoodIn wsX7_node (wsV RX7 78 RX7 yX7_isNode wsX7_isNode) := goodIn_app (goodIn_of _ (by decide +kernel)) ggX7_node_X7_isNode
set_option maxRecDepth 20000 in
theorem ggX7_node_X7_in : GoodIn wsX7_node wsX7_in := goodIn_r _ [12] (by decide +kernel) (by decide +kernel)
set_option maxRecDepth 20000 in
theorem gX7_node_X7_in : GoodIn wsX7_node (va_wsS RX7 68 yX7_in wsX7_in) := goodIn_app (goodIn_of _ (by decide +kernel)) ggX7_node_X7_in
theorem dX7_node_0 : decode cX7_node 0 = .ok (.aload_n 0, 1) := by decide +kernel
theorem dX7_node_1 : decode cX7_node 1 = .ok (.iload_n 1, 1) := by decide +kernel
theorem dX7_node_2 : decode cX7_node 2 = .ok (.invokevirtual 78, 3) := by decide +kernel
theorem dX7_node_5 : decode cX7_node 5 = .ok (.ifCond .ne 7, 3) := by decide +kernel
theorem dX7_node_8 : decode cX7_node 8 = .ok (.sipush (-1001), 3) := by decide +kernel
theorem dX7_node_11 : decode cX7_node 11 = .ok (.ireturn, 1) := by decide +kernel
theorem dX7_node_12 : decode cX7_node 12 = .ok (.iload_n 2, 1) := by decide +kernel
theorem dX7_node_13 : decode cX7_node 13 = .ok (.i2l, 1) := by decide +kernel
theorem dX7_node_14 : decode cX7_node 14 = .ok (.lconst 0, 1) := by decide +kernel
theorem dX7_node_15 : decode cX7_node 15 = .ok (.lconst 1, 1) := by decide +kernel
theorem dX7_node_16 : decode cX7_node 16 = .ok (.invokestatic 68, 3) := by decide +kernel
theorem dX7_node_19 : decode cX7_node 19 = .ok (.ifCond .eq 16, 3) := by decide +kernel
theorem dX7_node_22 : decode cX7_node 22 = .ok (.iload_n 3, 1) := by decide +kernel
theorem dX7_node_23 : decode cX7_node 23 = .ok (.i2l, 1) := by decide +kernel
theorem dX7_node_24 : decode cX7_node 24 = .ok (.iload_n 2, 1) := by decide +kernel
theorem dX7_node_25 : decode cX7_node 25 = .ok (.i2l, 1) := by decide +kernel
theorem dX7_node_26 : decode cX7_node 26 = .ok (.ldc2_w 82, 3) := by decide +kernel
theorem dX7_node_29 : decode cX7_node 29 = .ok (.invokestatic 68, 3) := by decide +kernel
theorem dX7_node_32 : decode cX7_node 32 = .ok (.ifCond .ne 7, 3) := by decide +kernel
theorem dX7_node_35 : decode cX7_node 35 = .ok (.sipush (-1002), 3) := by decide +kernel
theorem dX7_node_38 : decode cX7_node 38 = .ok (.ireturn, 1) := by decide +kernel
theorem dX7_node_39 : decode cX7_node 39 = .ok (.iload_n 2, 1) := by decide +kernel
theorem dX7_node_40 : decode cX7_node 40 = .ok (.ifCond .ne 12, 3) := by decide +kernel
theorem dX7_node_43 : decode cX7_node 43 = .ok (.aload_n 0, 1) := by decide +kernel
theorem dX7_node_44 : decode cX7_node 44 = .ok (.getfield 20, 3) := by decide +kernel
theorem dX7_node_47 : decode cX7_node 47 = .ok (.iload_n 1, 1) := by decide +kernel
theorem dX7_node_48 : decode cX7_node 48 = .ok (.iaload, 1) := by decide +kernel
theorem dX7_node_49 : decode cX7_node 49 = .ok (.goto 9, 3) := by decide +kernel
theorem dX7_node_52 : decode cX7_node 52 = .ok (.aload_n 0, 1) := by decide +kernel
theorem dX7_node_53 : decode cX7_node 53 = .ok (.getfield 23, 3) := by decide +kernel
theorem dX7_node_56 : decode cX7_node 56 = .ok (.iload_n 1, 1) := by decide +kernel
theorem dX7_node_57 : decode cX7_node 57 = .ok (.iaload, 1) := by decide +kernel
theorem dX7_node_58 : decode cX7_node 58 = .ok (.istore 4, 2) := by decide +kernel
theorem dX7_node_60 : decode cX7_node 60 = .ok (.iload_n 2, 1) := by decide +kernel
theorem dX7_node_61 : decode cX7_node 61 = .ok (.ifCond .ne 13, 3) := by decide +kernel
theorem dX7_node_64 : decode cX7_node 64 = .ok (.aload_n 0, 1) := by decide +kernel
theorem dX7_node_65 : decode cX7_node 65 = .ok (.getfield 20, 3) := by decide +kernel
theorem dX7_node_68 : decode cX7_node 68 = .ok (.iload_n 1, 1) := by decide +kernel
theorem dX7_node_69 : decode cX7_node 69 = .ok (.iload_n 3, 1) := by decide +kernel
theorem dX7_node_70 : decode cX7_node 70 = .ok (.iastore, 1) := by decide +kernel
theorem dX7_node_71 : decode cX7_node 71 = .ok (.goto 10, 3) := by decide +kernel
theorem dX7_node_74 : decode cX7_node 74 = .ok (.aload_n 0, 1) := by decide +kernel
theorem dX7_node_75 : decode cX7_node 75 = .ok (.getfield 23, 3) := by decide +kernel
theorem dX7_node_78 : decode cX7_node 78 = .ok (.iload_n 1, 1) := by decide +kernel
theorem dX7_node_79 : decode cX7_node 79 = .ok (.iload_n 3, 1) := by decide +kernel
theorem dX7_node_80 : decode cX7_node 80 = .ok (.iastore, 1) := by decide +kernel
theorem dX7_node_81 : decode cX7_node 81 = .ok (.iload 4, 2) := by decide +kernel
theorem dX7_node_83 : decode cX7_node 83 = .ok (.ireturn, 1) := by decide +kernel
set_option maxRecDepth 20000 in
theorem ggX7_purse_X7_in : GoodIn wsX7_purse wsX7_in := goodIn_r _ [7] (by decide +kernel) (by decide +kernel)
set_option maxRecDepth 20000 in
theorem gX7_purse_X7_in : GoodIn wsX7_purse (va_wsS RX7 68 yX7_in wsX7_in) := goodIn_app (goodIn_of _ (by decide +kernel)) ggX7_purse_X7_in
theorem dX7_purse_0 : decode cX7_purse 0 = .ok (.iload_n 1, 1) := by decide +kernel
theorem dX7_purse_1 : decode cX7_purse 1 = .ok (.i2l, 1) := by decide +kernel
theorem dX7_purse_2 : decode cX7_purse 2 = .ok (.lconst 1, 1) := by decide +kernel
theorem dX7_purse_3 : decode cX7_purse 3 = .ok (.ldc2_w 84, 3) := by decide +kernel
theorem dX7_purse_6 : decode cX7_purse 6 = .ok (.invokestatic 68, 3) := by decide +kernel
theorem dX7_purse_9 : decode cX7_purse 9 = .ok (.ifCond .eq 15, 3) := by decide +kernel
theorem dX7_purse_12 : decode cX7_purse 12 = .ok (.iload_n 2, 1) := by decide +kernel
theorem dX7_purse_13 : decode cX7_purse 13 = .ok (.i2l, 1) := by decide +kernel
theorem dX7_purse_14 : decode cX7_purse 14 = .ok (.lconst 0, 1) := by decide +kernel
theorem dX7_purse_15 : decode cX7_purse 15 = .ok (.ldc2_w 86, 3) := by decide +kernel
theorem dX7_purse_18 : decode cX7_purse 18 = .ok (.invokestatic 68, 3) := by decide +kernel
theorem dX7_purse_21 : decode cX7_purse 21 = .ok (.ifCond .ne 7, 3) := by decide +kernel
theorem dX7_purse_24 : decode cX7_purse 24 = .ok (.sipush (-1002), 3) := by decide +kernel
theorem dX7_purse_27 : decode cX7_purse 27 = .ok (.ireturn, 1) := by decide +kernel
theorem dX7_purse_28 : decode cX7_purse 28 = .ok (.aload_n 0, 1) := by decide +kernel
theorem dX7_purse_29 : decode cX7_purse 29 = .ok (.getfield 26, 3) := by decide +kernel
theorem dX7_purse_32 : decode cX7_purse 32 = .ok (.iload_n 1, 1) := by decide +kernel
theorem dX7_purse_33 : decode cX7_purse 33 = .ok (.iaload, 1) := by decide +kernel
theorem dX7_purse_34 : decode cX7_purse 34 = .ok (.istore_n 3, 1) := by decide +kernel
theorem dX7_purse_35 : decode cX7_purse 35 = .ok (.aload_n 0, 1) := by decide +kernel
theorem dX7_purse_36 : decode cX7_purse 36 = .ok (.getfield 26, 3) := by decide +kernel
theorem dX7_purse_39 : decode cX7_purse 39 = .ok (.iload_n 1, 1) := by decide +kernel
theorem dX7_purse_40 : decode cX7_purse 40 = .ok (.iload_n 2, 1) := by decide +kernel
theorem dX7_purse_41 : decode cX7_purse 41 = .ok (.iastore, 1) := by decide +kernel
theorem dX7_purse_42 : decode cX7_purse 42 = .ok (.iload_n 3, 1) := by decide +kernel
theorem dX7_purse_43 : decode cX7_purse 43 = .ok (.ireturn, 1) := by decide +kernel
set_option maxRecDepth 20000 in
theorem ggX7_rule_X7_in : GoodIn wsX7_rule wsX7_in := goodIn_r _ [8] (by decide +kernel) (by decide +kernel)
set_option maxRecDepth 20000 in
theorem gX7_rule_X7_in : GoodIn wsX7_rule (va_wsS RX7 68 yX7_in wsX7_in) := goodIn_app (goodIn_of _ (by decide +kernel)) ggX7_rule_X7_in
theorem dX7_rule_0 : decode cX7_rule 0 = .ok (.iload_n 1, 1) := by decide +kernel
theorem dX7_rule_1 : decode cX7_rule 1 = .ok (.i2l, 1) := by decide +kernel
theorem dX7_rule_2 : decode cX7_rule 2 = .ok (.lconst 0, 1) := by decide +kernel
theorem dX7_rule_3 : decode cX7_rule 3 = .ok (.lconst 1, 1) := by decide +kernel
theorem dX7_rule_4 : decode cX7_rule 4 = .ok (.invokestatic 68, 3) := by decide +kernel
theorem dX7_rule_7 : decode cX7_rule 7 = .ok (.ifCond .eq 33, 3) := by decide +kernel
theorem dX7_rule_10 : decode cX7_rule 10 = .ok (.iload_n 2, 1) := by decide +kernel
theorem dX7_rule_11 : decode cX7_rule 11 = .ok (.i2l, 1) := by decide +kernel
theorem dX7_rule_12 : decode cX7_rule 12 = .ok (.iload_n 1, 1) := by decide +kernel
theorem dX7_rule_13 : decode cX7_rule 13 = .ok (.ifCond .ne 7, 3) := by decide +kernel
theorem dX7_rule_16 : decode cX7_rule 16 = .ok (.lconst 0, 1) := by decide +kernel
theorem dX7_rule_17 : decode cX7_rule 17 = .ok (.goto 6, 3) := by decide +kernel
theorem dX7_rule_20 : decode cX7_rule 20 = .ok (.ldc2_w 88, 3) := by decide +kernel
theorem dX7_rule_23 : decode cX7_rule 23 = .ok (.iload_n 1, 1) := by decide +kernel
theorem dX7_rule_24 : decode cX7_rule 24 = .ok (.ifCond .ne 7, 3) := by decide +kernel
theorem dX7_rule_27 : decode cX7_rule 27 = .ok (.lconst 1, 1) := by decide +kernel
theorem dX7_rule_28 : decode cX7_rule 28 = .ok (.goto 6, 3) := by decide +kernel
theorem dX7_rule_31 : decode cX7_rule 31 = .ok (.ldc2_w 90, 3) := by decide +kernel
theorem dX7_rule_34 : decode cX7_rule 34 = .ok (.invokestatic 68, 3) := by decide +kernel
theorem dX7_rule_37 : decode cX7_rule 37 = .ok (.ifCond .ne 7, 3) := by decide +kernel
theorem dX7_rule_40 : decode cX7_rule 40 = .ok (.sipush (-1002), 3) := by decide +kernel
theorem dX7_rule_43 : decode cX7_rule 43 = .ok (.ireturn, 1) := by decide +kernel
theorem dX7_rule_44 : decode cX7_rule 44 = .ok (.iload_n 1, 1) := by decide +kernel
theorem dX7_rule_45 : decode cX7_rule 45 = .ok (.ifCond .ne 18, 3) := by decide +kernel
theorem dX7_rule_48 : decode cX7_rule 48 = .ok (.aload_n 0, 1) := by decide +kernel
theorem dX7_rule_49 : decode cX7_rule 49 = .ok (.getfield 92, 3) := by decide +kernel
theorem dX7_rule_52 : decode cX7_rule 52 = .ok (.ifCond .eq 7, 3) := by decide +kernel
theorem dX7_rule_55 : decode cX7_rule 55 = .ok (.iconst 1, 1) := by decide +kernel
theorem dX7_rule_56 : decode cX7_rule 56 = .ok (.goto 11, 3) := by decide +kernel
theorem dX7_rule_59 : decode cX7_rule 59 = .ok (.iconst 0, 1) := by decide +kernel
theorem dX7_rule_60 : decode cX7_rule 60 = .ok (.goto 7, 3) := by decide +kernel
theorem dX7_rule_63 : decode cX7_rule 63 = .ok (.aload_n 0, 1) := by decide +kernel
theorem dX7_rule_64 : decode cX7_rule 64 = .ok (.getfield 29, 3) := by decide +kernel
theorem dX7_rule_67 : decode cX7_rule 67 = .ok (.istore_n 3, 1) := by decide +kernel
theorem dX7_rule_68 : decode cX7_rule 68 = .ok (.aload_n 0, 1) := by decide +kernel
theorem dX7_rule_69 : decode cX7_rule 69 = .ok (.iload_n 1, 1) := by decide +kernel
theorem dX7_rule_70 : decode cX7_rule 70 = .ok (.ifCond .ne 16, 3) := by decide +kernel
theorem dX7_rule_73 : decode cX7_rule 73 = .ok (.iload_n 2, 1) := by decide +kernel
theorem dX7_rule_74 : decode cX7_rule 74 = .ok (.iconst 1, 1) := by decide +kernel
theorem dX7_rule_75 : decode cX7_rule 75 = .ok (.if_icmp .ne 7, 3) := by decide +kernel
theorem dX7_rule_78 : decode cX7_rule 78 = .ok (.iconst 1, 1) := by decide +kernel
theorem dX7_rule_79 : decode cX7_rule 79 = .ok (.goto 11, 3) := by decide +kernel
theorem dX7_rule_82 : decode cX7_rule 82 = .ok (.iconst 0, 1) := by decide +kernel
theorem dX7_rule_83 : decode cX7_rule 83 = .ok (.goto 7, 3) := by decide +kernel
theorem dX7_rule_86 : decode cX7_rule 86 = .ok (.aload_n 0, 1) := by decide +kernel
theorem dX7_rule_87 : decode cX7_rule 87 = .ok (.getfield 92, 3) := by decide +kernel
theorem dX7_rule_90 : decode cX7_rule 90 = .ok (.putfield 92, 3) := by decide +kernel
theorem dX7_rule_93 : decode cX7_rule 93 = .ok (.aload_n 0, 1) := by decide +kernel
theorem dX7_rule_94 : decode cX7_rule 94 = .ok (.iload_n 1, 1) := by decide +kernel
theorem dX7_rule_95 : decode cX7_rule 95 = .ok (.iconst 1, 1) := by decide +kernel
theorem dX7_rule_96 : decode cX7_rule 96 = .ok (.if_icmp .ne 7, 3) := by decide +kernel
theorem dX7_rule_99 : decode cX7_rule 99 = .ok (.iload_n 2, 1) := by decide +kernel
theorem dX7_rule_100 : decode cX7_rule 100 = .ok (.goto 7, 3) := by decide +kernel
theorem dX7_rule_103 : decode cX7_rule 103 = .ok (.aload_n 0, 1) := by decide +kernel
theorem dX7_rule_104 : decode cX7_rule 104 = .ok (.getfield 29, 3) := by decide +kernel
theorem dX7_rule_107 : decode cX7_rule 107 = .ok (.putfield 29, 3) := by decide +kernel
theorem dX7_rule_110 : decode cX7_rule 110 = .ok (.iload_n 3, 1) := by decide +kernel
theorem dX7_rule_111 : decode cX7_rule 111 = .ok (.ireturn, 1) := by decide +kernel
theorem dX7_worthOf_0 : decode cX7_worthOf 0 = .ok (.iconst 0, 1) := by decide +kernel
theorem dX7_worthOf_1 : decode cX7_worthOf 1 = .ok (.istore_n 2, 1) := by decide +kernel
theorem dX7_worthOf_2 : decode cX7_worthOf 2 = .ok (.iconst 0, 1) := by decide +kernel
theorem dX7_worthOf_3 : decode cX7_worthOf 3 = .ok (.istore_n 3, 1) := by decide +kernel
theorem dX7_worthOf_4 : decode cX7_worthOf 4 = .ok (.iload_n 3, 1) := by decide +kernel
theorem dX7_worthOf_5 : decode cX7_worthOf 5 = .ok (.aload_n 0, 1) := by decide +kernel
theorem dX7_worthOf_6 : decode cX7_worthOf 6 = .ok (.getfield 7, 3) := by decide +kernel
theorem dX7_worthOf_9 : decode cX7_worthOf 9 = .ok (.if_icmp .ge 24, 3) := by decide +kernel
theorem dX7_worthOf_12 : decode cX7_worthOf 12 = .ok (.iload_n 2, 1) := by decide +kernel
theorem dX7_worthOf_13 : decode cX7_worthOf 13 = .ok (.iload_n 1, 1) := by decide +kernel
theorem dX7_worthOf_14 : decode cX7_worthOf 14 = .ok (.iload_n 3, 1) := by decide +kernel
theorem dX7_worthOf_15 : decode cX7_worthOf 15 = .ok (.ishr, 1) := by decide +kernel
theorem dX7_worthOf_16 : decode cX7_worthOf 16 = .ok (.iconst 1, 1) := by decide +kernel
theorem dX7_worthOf_17 : decode cX7_worthOf 17 = .ok (.iand, 1) := by decide +kernel
theorem dX7_worthOf_18 : decode cX7_worthOf 18 = .ok (.aload_n 0, 1) := by decide +kernel
theorem dX7_worthOf_19 : decode cX7_worthOf 19 = .ok (.getfield 20, 3) := by decide +kernel
theorem dX7_worthOf_22 : decode cX7_worthOf 22 = .ok (.iload_n 3, 1) := by decide +kernel
theorem dX7_worthOf_23 : decode cX7_worthOf 23 = .ok (.iaload, 1) := by decide +kernel
theorem dX7_worthOf_24 : decode cX7_worthOf 24 = .ok (.imul, 1) := by decide +kernel
theorem dX7_worthOf_25 : decode cX7_worthOf 25 = .ok (.iadd, 1) := by decide +kernel
theorem dX7_worthOf_26 : decode cX7_worthOf 26 = .ok (.istore_n 2, 1) := by decide +kernel
theorem dX7_worthOf_27 : decode cX7_worthOf 27 = .ok (.iinc 3 1, 3) := by decide +kernel
theorem dX7_worthOf_30 : decode cX7_worthOf 30 = .ok (.goto (-26), 3) := by decide +kernel
theorem dX7_worthOf_33 : decode cX7_worthOf 33 = .ok (.iload_n 2, 1) := by decide +kernel
theorem dX7_worthOf_34 : decode cX7_worthOf 34 = .ok (.ireturn, 1) := by decide +kernel
theorem dX7_priceOf_0 : decode cX7_priceOf 0 = .ok (.iconst 0, 1) := by decide +kernel
theorem dX7_priceOf_1 : decode cX7_priceOf 1 = .ok (.istore_n 2, 1) := by decide +kernel
theorem dX7_priceOf_2 : decode cX7_priceOf 2 = .ok (.iconst 0, 1) := by decide +kernel
theorem dX7_priceOf_3 : decode cX7_priceOf 3 = .ok (.istore_n 3, 1) := by decide +kernel
theorem dX7_priceOf_4 : decode cX7_priceOf 4 = .ok (.iload_n 3, 1) := by decide +kernel
theorem dX7_priceOf_5 : decode cX7_priceOf 5 = .ok (.aload_n 0, 1) := by decide +kernel
theorem dX7_priceOf_6 : decode cX7_priceOf 6 = .ok (.getfield 7, 3) := by decide +kernel
theorem dX7_priceOf_9 : decode cX7_priceOf 9 = .ok (.if_icmp .ge 24, 3) := by decide +kernel
theorem dX7_priceOf_12 : decode cX7_priceOf 12 = .ok (.iload_n 2, 1) := by decide +kernel
theorem dX7_priceOf_13 : decode cX7_priceOf 13 = .ok (.iload_n 1, 1) := by decide +kernel
theorem dX7_priceOf_14 : decode cX7_priceOf 14 = .ok (.iload_n 3, 1) := by decide +kernel
theorem dX7_priceOf_15 : decode cX7_priceOf 15 = .ok (.ishr, 1) := by decide +kernel
theorem dX7_priceOf_16 : decode cX7_priceOf 16 = .ok (.iconst 1, 1) := by decide +kernel
theorem dX7_priceOf_17 : decode cX7_priceOf 17 = .ok (.iand, 1) := by decide +kernel
theorem dX7_priceOf_18 : decode cX7_priceOf 18 = .ok (.aload_n 0, 1) := by decide +kernel
theorem dX7_priceOf_19 : decode cX7_priceOf 19 = .ok (.getfield 23, 3) := by decide +kernel
theorem dX7_priceOf_22 : decode cX7_priceOf 22 = .ok (.iload_n 3, 1) := by decide +kernel
theorem dX7_priceOf_23 : decode cX7_priceOf 23 = .ok (.iaload, 1) := by decide +kernel
theorem dX7_priceOf_24 : decode cX7_priceOf 24 = .ok (.imul, 1) := by decide +kernel
theorem dX7_priceOf_25 : decode cX7_priceOf 25 = .ok (.iadd, 1) := by decide +kernel
theorem dX7_priceOf_26 : decode cX7_priceOf 26 = .ok (.istore_n 2, 1) := by decide +kernel
theorem dX7_priceOf_27 : decode cX7_priceOf 27 = .ok (.iinc 3 1, 3) := by decide +kernel
theorem dX7_priceOf_30 : decode cX7_priceOf 30 = .ok (.goto (-26), 3) := by decide +kernel
theorem dX7_priceOf_33 : decode cX7_priceOf 33 = .ok (.iload_n 2, 1) := by decide +kernel
theorem dX7_priceOf_34 : decode cX7_priceOf 34 = .ok (.ireturn, 1) := by decide +kernel
set_option maxRecDepth 20000 in
theorem ggX7_count_X7_all : GoodIn wsX7_count wsX7_all := goodIn_r _ [9, 3, 15, 16, 17, 18, 19, 20, 21, 22, 23, 24, 25, 26, 27, 28, 29, 30, 31, 32, 33, 34, 35, 36, 37, 38, 39, 40, 41, 42, 43, 44, 45, 46, 47, 48] (by decide +kernel) (by decide +kernel)
set_option maxRecDepth 20000 in
theorem gX7_count_X7_all : GoodIn wsX7_count (wsV RX7 72 RX7 yX7_all wsX7_all) := goodIn_app (goodIn_of _ (by decide +kernel)) ggX7_count_X7_all
set_option maxRecDepth 20000 in
theorem ggX7_count_X7_worthOf : GoodIn wsX7_count wsX7_worthOf := goodIn_r _ [13, 3, 14, 15, 16, 17, 18, 19, 20, 21, 22, 23, 24, 25, 26, 27, 28, 29, 30, 31, 32, 33, 34, 35, 36, 37, 38, 39, 40, 41, 42, 43, 44, 45, 46, 47, 48] (by decide +kernel) (by decide +kernel)
set_option maxRecDepth 20000 in
theorem gX7_count_X7_worthOf : GoodIn wsX7_count (wsV RX7 99 RX7 yX7_worthOf wsX7_worthOf) := goodIn_app (goodIn_of _ (by decide +kernel)) ggX7_count_X7_worthOf
theorem dX7_count_0 : decode cX7_count 0 = .ok (.iconst 0, 1) := by decide +kernel
theorem dX7_count_1 : decode cX7_count 1 = .ok (.istore_n 2, 1) := by decide +kernel
theorem dX7_count_2 : decode cX7_count 2 = .ok (.iconst 1, 1) := by decide +kernel
theorem dX7_count_3 : decode cX7_count 3 = .ok (.istore_n 3, 1) := by decide +kernel
theorem dX7_count_4 : decode cX7_count 4 = .ok (.iload_n 3, 1) := by decide +kernel
theorem dX7_count_5 : decode cX7_count 5 = .ok (.bipush 20, 2) := by decide +kernel
theorem dX7_count_7 : decode cX7_count 7 = .ok (.if_icmp .gt 68, 3) := by decide +kernel
theorem dX7_count_10 : decode cX7_count 10 = .ok (.iconst 0, 1) := by decide +kernel
theorem dX7_count_11 : decode cX7_count 11 = .ok (.istore 4, 2) := by decide +kernel
theorem dX7_count_13 : decode cX7_count 13 = .ok (.iconst 0, 1) := by decide +kernel
theorem dX7_count_14 : decode cX7_count 14 = .ok (.istore 5, 2) := by decide +kernel
theorem dX7_count_16 : decode cX7_count 16 = .ok (.iload 5, 2) := by decide +kernel
theorem dX7_count_18 : decode cX7_count 18 = .ok (.aload_n 0, 1) := by decide +kernel
theorem dX7_count_19 : decode cX7_count 19 = .ok (.getfield 96, 3) := by decide +kernel
theorem dX7_count_22 : decode cX7_count 22 = .ok (.if_icmp .ge 34, 3) := by decide +kernel
theorem dX7_count_25 : decode cX7_count 25 = .ok (.iload 4, 2) := by decide +kernel
theorem dX7_count_27 : decode cX7_count 27 = .ok (.aload_n 0, 1) := by decide +kernel
theorem dX7_count_28 : decode cX7_count 28 = .ok (.getfield 35, 3) := by decide +kernel
theorem dX7_count_31 : decode cX7_count 31 = .ok (.iconst 3, 1) := by decide +kernel
theorem dX7_count_32 : decode cX7_count 32 = .ok (.iload 5, 2) := by decide +kernel
theorem dX7_count_34 : decode cX7_count 34 = .ok (.imul, 1) := by decide +kernel
theorem dX7_count_35 : decode cX7_count 35 = .ok (.iconst 2, 1) := by decide +kernel
theorem dX7_count_36 : decode cX7_count 36 = .ok (.iadd, 1) := by decide +kernel
theorem dX7_count_37 : decode cX7_count 37 = .ok (.iaload, 1) := by decide +kernel
theorem dX7_count_38 : decode cX7_count 38 = .ok (.iload_n 3, 1) := by decide +kernel
theorem dX7_count_39 : decode cX7_count 39 = .ok (.if_icmp .ne 7, 3) := by decide +kernel
theorem dX7_count_42 : decode cX7_count 42 = .ok (.iconst 1, 1) := by decide +kernel
theorem dX7_count_43 : decode cX7_count 43 = .ok (.goto 4, 3) := by decide +kernel
theorem dX7_count_46 : decode cX7_count 46 = .ok (.iconst 0, 1) := by decide +kernel
theorem dX7_count_47 : decode cX7_count 47 = .ok (.iadd, 1) := by decide +kernel
theorem dX7_count_48 : decode cX7_count 48 = .ok (.istore 4, 2) := by decide +kernel
theorem dX7_count_50 : decode cX7_count 50 = .ok (.iinc 5 1, 3) := by decide +kernel
theorem dX7_count_53 : decode cX7_count 53 = .ok (.goto (-37), 3) := by decide +kernel
theorem dX7_count_56 : decode cX7_count 56 = .ok (.iload 4, 2) := by decide +kernel
theorem dX7_count_58 : decode cX7_count 58 = .ok (.iload_n 2, 1) := by decide +kernel
theorem dX7_count_59 : decode cX7_count 59 = .ok (.if_icmp .le 8, 3) := by decide +kernel
theorem dX7_count_62 : decode cX7_count 62 = .ok (.iload 4, 2) := by decide +kernel
theorem dX7_count_64 : decode cX7_count 64 = .ok (.goto 4, 3) := by decide +kernel
theorem dX7_count_67 : decode cX7_count 67 = .ok (.iload_n 2, 1) := by decide +kernel
theorem dX7_count_68 : decode cX7_count 68 = .ok (.istore_n 2, 1) := by decide +kernel
theorem dX7_count_69 : decode cX7_count 69 = .ok (.iinc 3 1, 3) := by decide +kernel
theorem dX7_count_72 : decode cX7_count 72 = .ok (.goto (-68), 3) := by decide +kernel
theorem dX7_count_75 : decode cX7_count 75 = .ok (.iload_n 1, 1) := by decide +kernel
theorem dX7_count_76 : decode cX7_count 76 = .ok (.tableswitch 62 0 4 #[36, 41, 46, 55, 60], 36) := by decide +kernel
theorem dX7_count_112 : decode cX7_count 112 = .ok (.aload_n 0, 1) := by decide +kernel
theorem dX7_count_113 : decode cX7_count 113 = .ok (.getfield 7, 3) := by decide +kernel
theorem dX7_count_116 : decode cX7_count 116 = .ok (.ireturn, 1) := by decide +kernel
theorem dX7_count_117 : decode cX7_count 117 = .ok (.aload_n 0, 1) := by decide +kernel
theorem dX7_count_118 : decode cX7_count 118 = .ok (.getfield 65, 3) := by decide +kernel
theorem dX7_count_121 : decode cX7_count 121 = .ok (.ireturn, 1) := by decide +kernel
theorem dX7_count_122 : decode cX7_count 122 = .ok (.aload_n 0, 1) := by decide +kernel
theorem dX7_count_123 : decode cX7_count 123 = .ok (.aload_n 0, 1) := by decide +kernel
theorem dX7_count_124 : decode cX7_count 124 = .ok (.invokevirtual 72, 3) := by decide +kernel
theorem dX7_count_127 : decode cX7_count 127 = .ok (.invokevirtual 99, 3) := by decide +kernel
theorem dX7_count_130 : decode cX7_count 130 = .ok (.ireturn, 1) := by decide +kernel
theorem dX7_count_131 : decode cX7_count 131 = .ok (.aload_n 0, 1) := by decide +kernel
theorem dX7_count_132 : decode cX7_count 132 = .ok (.getfield 96, 3) := by decide +kernel
theorem dX7_count_135 : decode cX7_count 135 = .ok (.ireturn, 1) := by decide +kernel
theorem dX7_count_136 : decode cX7_count 136 = .ok (.iload_n 2, 1) := by decide +kernel
theorem dX7_count_137 : decode cX7_count 137 = .ok (.ireturn, 1) := by decide +kernel
theorem dX7_count_138 : decode cX7_count 138 = .ok (.sipush (-1002), 3) := by decide +kernel
theorem dX7_count_141 : decode cX7_count 141 = .ok (.ireturn, 1) := by decide +kernel
theorem dX7_light_0 : decode cX7_light 0 = .ok (.aload_n 0, 1) := by decide +kernel
theorem dX7_light_1 : decode cX7_light 1 = .ok (.iload_n 1, 1) := by decide +kernel
theorem dX7_light_2 : decode cX7_light 2 = .ok (.putfield 103, 3) := by decide +kernel
theorem dX7_light_5 : decode cX7_light 5 = .ok (.aload_n 0, 1) := by decide +kernel
theorem dX7_light_6 : decode cX7_light 6 = .ok (.iconst 0, 1) := by decide +kernel
theorem dX7_light_7 : decode cX7_light 7 = .ok (.putfield 106, 3) := by decide +kernel
theorem dX7_light_10 : decode cX7_light 10 = .ok (.aload_n 0, 1) := by decide +kernel
theorem dX7_light_11 : decode cX7_light 11 = .ok (.iconst 0, 1) := by decide +kernel
theorem dX7_light_12 : decode cX7_light 12 = .ok (.putfield 109, 3) := by decide +kernel
theorem dX7_light_15 : decode cX7_light 15 = .ok (.aload_n 0, 1) := by decide +kernel
theorem dX7_light_16 : decode cX7_light 16 = .ok (.iconst 0, 1) := by decide +kernel
theorem dX7_light_17 : decode cX7_light 17 = .ok (.putfield 112, 3) := by decide +kernel
theorem dX7_light_20 : decode cX7_light 20 = .ok (.return_, 1) := by decide +kernel
theorem dX7_fill_0 : decode cX7_fill 0 = .ok (.aload_n 0, 1) := by decide +kernel
theorem dX7_fill_1 : decode cX7_fill 1 = .ok (.aload_n 0, 1) := by decide +kernel
theorem dX7_fill_2 : decode cX7_fill 2 = .ok (.getfield 92, 3) := by decide +kernel
theorem dX7_fill_5 : decode cX7_fill 5 = .ok (.ifCond .eq 10, 3) := by decide +kernel
theorem dX7_fill_8 : decode cX7_fill 8 = .ok (.aload_n 0, 1) := by decide +kernel
theorem dX7_fill_9 : decode cX7_fill 9 = .ok (.getfield 109, 3) := by decide +kernel
theorem dX7_fill_12 : decode cX7_fill 12 = .ok (.goto 4, 3) := by decide +kernel
theorem dX7_fill_15 : decode cX7_fill 15 = .ok (.iconst 0, 1) := by decide +kernel
theorem dX7_fill_16 : decode cX7_fill 16 = .ok (.aload_n 0, 1) := by decide +kernel
theorem dX7_fill_17 : decode cX7_fill 17 = .ok (.getfield 26, 3) := by decide +kernel
theorem dX7_fill_20 : decode cX7_fill 20 = .ok (.iload_n 1, 1) := by decide +kernel
theorem dX7_fill_21 : decode cX7_fill 21 = .ok (.bipush 8, 2) := by decide +kernel
theorem dX7_fill_23 : decode cX7_fill 23 = .ok (.if_icmp .ge 7, 3) := by decide +kernel
theorem dX7_fill_26 : decode cX7_fill 26 = .ok (.iload_n 1, 1) := by decide +kernel
theorem dX7_fill_27 : decode cX7_fill 27 = .ok (.goto 5, 3) := by decide +kernel
theorem dX7_fill_30 : decode cX7_fill 30 = .ok (.bipush 8, 2) := by decide +kernel
theorem dX7_fill_32 : decode cX7_fill 32 = .ok (.iaload, 1) := by decide +kernel
theorem dX7_fill_33 : decode cX7_fill 33 = .ok (.iadd, 1) := by decide +kernel
theorem dX7_fill_34 : decode cX7_fill 34 = .ok (.putfield 109, 3) := by decide +kernel
theorem dX7_fill_37 : decode cX7_fill 37 = .ok (.return_, 1) := by decide +kernel
set_option maxRecDepth 20000 in
theorem ggX7_isLawful_X7_all : GoodIn wsX7_isLawful wsX7_all := goodIn_r _ [8, 9, 15, 16, 17, 18, 19, 20, 21, 22, 23, 24, 25, 26, 27, 28, 29, 30, 31, 32, 33, 34, 35, 36, 37, 38, 39, 40, 41, 42, 43, 44, 45, 46, 47, 48] (by decide +kernel) (by decide +kernel)
set_option maxRecDepth 20000 in
theorem gX7_isLawful_X7_all : GoodIn wsX7_isLawful (wsV RX7 72 RX7 yX7_all wsX7_all) := goodIn_app (goodIn_of _ (by decide +kernel)) ggX7_isLawful_X7_all
set_option maxRecDepth 20000 in
theorem ggX7_isLawful_X7_priceOf : GoodIn wsX7_isLawful wsX7_priceOf := goodIn_r _ [13, 9, 14, 15, 16, 17, 18, 19, 20, 21, 22, 23, 24, 25, 26, 27, 28, 29, 30, 31, 32, 33, 34, 35, 36, 37, 38, 39, 40, 41, 42, 43, 44, 45, 46, 47, 48] (by decide +kernel) (by decide +kernel)
set_option maxRecDepth 20000 in
theorem gX7_isLawful_X7_priceOf : GoodIn wsX7_isLawful (wsV RX7 115 RX7 yX7_priceOf wsX7_priceOf) := goodIn_app (goodIn_of _ (by decide +kernel)) ggX7_isLawful_X7_priceOf
theorem dX7_isLawful_0 : decode cX7_isLawful 0 = .ok (.iload_n 1, 1) := by decide +kernel
theorem dX7_isLawful_1 : decode cX7_isLawful 1 = .ok (.aload_n 0, 1) := by decide +kernel
theorem dX7_isLawful_2 : decode cX7_isLawful 2 = .ok (.invokevirtual 72, 3) := by decide +kernel
theorem dX7_isLawful_5 : decode cX7_isLawful 5 = .ok (.if_icmp .gt 33, 3) := by decide +kernel
theorem dX7_isLawful_8 : decode cX7_isLawful 8 = .ok (.iload_n 1, 1) := by decide +kernel
theorem dX7_isLawful_9 : decode cX7_isLawful 9 = .ok (.aload_n 0, 1) := by decide +kernel
theorem dX7_isLawful_10 : decode cX7_isLawful 10 = .ok (.getfield 103, 3) := by decide +kernel
theorem dX7_isLawful_13 : decode cX7_isLawful 13 = .ok (.aload_n 0, 1) := by decide +kernel
theorem dX7_isLawful_14 : decode cX7_isLawful 14 = .ok (.getfield 106, 3) := by decide +kernel
theorem dX7_isLawful_17 : decode cX7_isLawful 17 = .ok (.ior, 1) := by decide +kernel
theorem dX7_isLawful_18 : decode cX7_isLawful 18 = .ok (.iand, 1) := by decide +kernel
theorem dX7_isLawful_19 : decode cX7_isLawful 19 = .ok (.ifCond .ne 19, 3) := by decide +kernel
theorem dX7_isLawful_22 : decode cX7_isLawful 22 = .ok (.aload_n 0, 1) := by decide +kernel
theorem dX7_isLawful_23 : decode cX7_isLawful 23 = .ok (.iload_n 1, 1) := by decide +kernel
theorem dX7_isLawful_24 : decode cX7_isLawful 24 = .ok (.invokevirtual 115, 3) := by decide +kernel
theorem dX7_isLawful_27 : decode cX7_isLawful 27 = .ok (.aload_n 0, 1) := by decide +kernel
theorem dX7_isLawful_28 : decode cX7_isLawful 28 = .ok (.getfield 109, 3) := by decide +kernel
theorem dX7_isLawful_31 : decode cX7_isLawful 31 = .ok (.if_icmp .gt 7, 3) := by decide +kernel
theorem dX7_isLawful_34 : decode cX7_isLawful 34 = .ok (.iconst 1, 1) := by decide +kernel
theorem dX7_isLawful_35 : decode cX7_isLawful 35 = .ok (.goto 4, 3) := by decide +kernel
theorem dX7_isLawful_38 : decode cX7_isLawful 38 = .ok (.iconst 0, 1) := by decide +kernel
theorem dX7_isLawful_39 : decode cX7_isLawful 39 = .ok (.ireturn, 1) := by decide +kernel
set_option maxRecDepth 20000 in
theorem ggX7_guard_X7_priceOf : GoodIn wsX7_guard wsX7_priceOf := goodIn_r _ [8, 9, 10, 11, 12, 13, 14, 15, 16, 17, 18, 19, 20, 21, 22, 23, 24, 25, 26, 27, 28, 29, 30, 31, 32, 33, 34, 35, 36, 37, 38, 39, 40, 41, 42, 43, 44] (by decide +kernel) (by decide +kernel)
set_option maxRecDepth 20000 in
theorem gX7_guard_X7_priceOf : GoodIn wsX7_guard (wsV RX7 115 RX7 yX7_priceOf wsX7_priceOf) := goodIn_app (goodIn_of _ (by decide +kernel)) ggX7_guard_X7_priceOf
theorem dX7_guard_0 : decode cX7_guard 0 = .ok (.aload_n 0, 1) := by decide +kernel
theorem dX7_guard_1 : decode cX7_guard 1 = .ok (.dup, 1) := by decide +kernel
theorem dX7_guard_2 : decode cX7_guard 2 = .ok (.getfield 106, 3) := by decide +kernel
theorem dX7_guard_5 : decode cX7_guard 5 = .ok (.iload_n 1, 1) := by decide +kernel
theorem dX7_guard_6 : decode cX7_guard 6 = .ok (.ior, 1) := by decide +kernel
theorem dX7_guard_7 : decode cX7_guard 7 = .ok (.putfield 106, 3) := by decide +kernel
theorem dX7_guard_10 : decode cX7_guard 10 = .ok (.aload_n 0, 1) := by decide +kernel
theorem dX7_guard_11 : decode cX7_guard 11 = .ok (.dup, 1) := by decide +kernel
theorem dX7_guard_12 : decode cX7_guard 12 = .ok (.getfield 109, 3) := by decide +kernel
theorem dX7_guard_15 : decode cX7_guard 15 = .ok (.aload_n 0, 1) := by decide +kernel
theorem dX7_guard_16 : decode cX7_guard 16 = .ok (.iload_n 1, 1) := by decide +kernel
theorem dX7_guard_17 : decode cX7_guard 17 = .ok (.invokevirtual 115, 3) := by decide +kernel
theorem dX7_guard_20 : decode cX7_guard 20 = .ok (.isub, 1) := by decide +kernel
theorem dX7_guard_21 : decode cX7_guard 21 = .ok (.putfield 109, 3) := by decide +kernel
theorem dX7_guard_24 : decode cX7_guard 24 = .ok (.aload_n 0, 1) := by decide +kernel
theorem dX7_guard_25 : decode cX7_guard 25 = .ok (.dup, 1) := by decide +kernel
theorem dX7_guard_26 : decode cX7_guard 26 = .ok (.getfield 112, 3) := by decide +kernel
theorem dX7_guard_29 : decode cX7_guard 29 = .ok (.aload_n 0, 1) := by decide +kernel
theorem dX7_guard_30 : decode cX7_guard 30 = .ok (.iload_n 1, 1) := by decide +kernel
theorem dX7_guard_31 : decode cX7_guard 31 = .ok (.invokevirtual 115, 3) := by decide +kernel
theorem dX7_guard_34 : decode cX7_guard 34 = .ok (.iadd, 1) := by decide +kernel
theorem dX7_guard_35 : decode cX7_guard 35 = .ok (.putfield 112, 3) := by decide +kernel
theorem dX7_guard_38 : decode cX7_guard 38 = .ok (.return_, 1) := by decide +kernel
theorem dX7_near_0 : decode cX7_near 0 = .ok (.iconst 0, 1) := by decide +kernel
theorem dX7_near_1 : decode cX7_near 1 = .ok (.istore_n 1, 1) := by decide +kernel
theorem dX7_near_2 : decode cX7_near 2 = .ok (.iconst 0, 1) := by decide +kernel
theorem dX7_near_3 : decode cX7_near 3 = .ok (.istore_n 2, 1) := by decide +kernel
theorem dX7_near_4 : decode cX7_near 4 = .ok (.iload_n 2, 1) := by decide +kernel
theorem dX7_near_5 : decode cX7_near 5 = .ok (.aload_n 0, 1) := by decide +kernel
theorem dX7_near_6 : decode cX7_near 6 = .ok (.getfield 7, 3) := by decide +kernel
theorem dX7_near_9 : decode cX7_near 9 = .ok (.if_icmp .ge 34, 3) := by decide +kernel
theorem dX7_near_12 : decode cX7_near 12 = .ok (.iload_n 1, 1) := by decide +kernel
theorem dX7_near_13 : decode cX7_near 13 = .ok (.aload_n 0, 1) := by decide +kernel
theorem dX7_near_14 : decode cX7_near 14 = .ok (.getfield 103, 3) := by decide +kernel
theorem dX7_near_17 : decode cX7_near 17 = .ok (.iload_n 2, 1) := by decide +kernel
theorem dX7_near_18 : decode cX7_near 18 = .ok (.ishr, 1) := by decide +kernel
theorem dX7_near_19 : decode cX7_near 19 = .ok (.iconst 1, 1) := by decide +kernel
theorem dX7_near_20 : decode cX7_near 20 = .ok (.iand, 1) := by decide +kernel
theorem dX7_near_21 : decode cX7_near 21 = .ok (.iconst 1, 1) := by decide +kernel
theorem dX7_near_22 : decode cX7_near 22 = .ok (.if_icmp .ne 12, 3) := by decide +kernel
theorem dX7_near_25 : decode cX7_near 25 = .ok (.aload_n 0, 1) := by decide +kernel
theorem dX7_near_26 : decode cX7_near 26 = .ok (.getfield 17, 3) := by decide +kernel
theorem dX7_near_29 : decode cX7_near 29 = .ok (.iload_n 2, 1) := by decide +kernel
theorem dX7_near_30 : decode cX7_near 30 = .ok (.iaload, 1) := by decide +kernel
theorem dX7_near_31 : decode cX7_near 31 = .ok (.goto 4, 3) := by decide +kernel
theorem dX7_near_34 : decode cX7_near 34 = .ok (.iconst 0, 1) := by decide +kernel
theorem dX7_near_35 : decode cX7_near 35 = .ok (.ior, 1) := by decide +kernel
theorem dX7_near_36 : decode cX7_near 36 = .ok (.istore_n 1, 1) := by decide +kernel
theorem dX7_near_37 : decode cX7_near 37 = .ok (.iinc 2 1, 3) := by decide +kernel
theorem dX7_near_40 : decode cX7_near 40 = .ok (.goto (-36), 3) := by decide +kernel
theorem dX7_near_43 : decode cX7_near 43 = .ok (.iload_n 1, 1) := by decide +kernel
theorem dX7_near_44 : decode cX7_near 44 = .ok (.aload_n 0, 1) := by decide +kernel
theorem dX7_near_45 : decode cX7_near 45 = .ok (.getfield 103, 3) := by decide +kernel
theorem dX7_near_48 : decode cX7_near 48 = .ok (.iconst (-1), 1) := by decide +kernel
theorem dX7_near_49 : decode cX7_near 49 = .ok (.ixor, 1) := by decide +kernel
theorem dX7_near_50 : decode cX7_near 50 = .ok (.iand, 1) := by decide +kernel
theorem dX7_near_51 : decode cX7_near 51 = .ok (.aload_n 0, 1) := by decide +kernel
theorem dX7_near_52 : decode cX7_near 52 = .ok (.getfield 106, 3) := by decide +kernel
theorem dX7_near_55 : decode cX7_near 55 = .ok (.iconst (-1), 1) := by decide +kernel
theorem dX7_near_56 : decode cX7_near 56 = .ok (.ixor, 1) := by decide +kernel
theorem dX7_near_57 : decode cX7_near 57 = .ok (.iand, 1) := by decide +kernel
theorem dX7_near_58 : decode cX7_near 58 = .ok (.ireturn, 1) := by decide +kernel
set_option maxRecDepth 20000 in
theorem ggX7_spreads_X7_near : GoodIn wsX7_spreads wsX7_near := goodIn_r _ [6, 7, 1, 8, 9, 10, 11, 12, 13, 14, 15, 16, 17, 18, 19, 20, 21, 22, 23, 24, 25, 26, 27, 28, 29, 30, 31, 32, 33, 34, 35, 36, 37, 38, 39, 40, 41, 42, 43] (by decide +kernel) (by decide +kernel)
set_option maxRecDepth 20000 in
theorem gX7_spreads_X7_near : GoodIn wsX7_spreads (wsV RX7 118 RX7 yX7_near wsX7_near) := goodIn_app (goodIn_of _ (by decide +kernel)) ggX7_spreads_X7_near
theorem dX7_spreads_0 : decode cX7_spreads 0 = .ok (.aload_n 0, 1) := by decide +kernel
theorem dX7_spreads_1 : decode cX7_spreads 1 = .ok (.invokevirtual 118, 3) := by decide +kernel
theorem dX7_spreads_4 : decode cX7_spreads 4 = .ok (.istore_n 1, 1) := by decide +kernel
theorem dX7_spreads_5 : decode cX7_spreads 5 = .ok (.aload_n 0, 1) := by decide +kernel
theorem dX7_spreads_6 : decode cX7_spreads 6 = .ok (.dup, 1) := by decide +kernel
theorem dX7_spreads_7 : decode cX7_spreads 7 = .ok (.getfield 103, 3) := by decide +kernel
theorem dX7_spreads_10 : decode cX7_spreads 10 = .ok (.iload_n 1, 1) := by decide +kernel
theorem dX7_spreads_11 : decode cX7_spreads 11 = .ok (.ior, 1) := by decide +kernel
theorem dX7_spreads_12 : decode cX7_spreads 12 = .ok (.putfield 103, 3) := by decide +kernel
theorem dX7_spreads_15 : decode cX7_spreads 15 = .ok (.iload_n 1, 1) := by decide +kernel
theorem dX7_spreads_16 : decode cX7_spreads 16 = .ok (.ifCond .eq 7, 3) := by decide +kernel
theorem dX7_spreads_19 : decode cX7_spreads 19 = .ok (.iconst 1, 1) := by decide +kernel
theorem dX7_spreads_20 : decode cX7_spreads 20 = .ok (.goto 4, 3) := by decide +kernel
theorem dX7_spreads_23 : decode cX7_spreads 23 = .ok (.iconst 0, 1) := by decide +kernel
theorem dX7_spreads_24 : decode cX7_spreads 24 = .ok (.ireturn, 1) := by decide +kernel
set_option maxRecDepth 20000 in
theorem ggX7_saved_X7_all : GoodIn wsX7_saved wsX7_all := goodIn_r _ [6, 7, 13, 14, 15, 16, 17, 18, 19, 20, 21, 22, 23, 24, 25, 26, 27, 28, 29, 30, 31, 32, 33, 34, 35, 36, 37, 38, 39, 40, 41, 42, 43, 44, 45, 46] (by decide +kernel) (by decide +kernel)
set_option maxRecDepth 20000 in
theorem gX7_saved_X7_all : GoodIn wsX7_saved (wsV RX7 72 RX7 yX7_all wsX7_all) := goodIn_app (goodIn_of _ (by decide +kernel)) ggX7_saved_X7_all
set_option maxRecDepth 20000 in
theorem ggX7_saved_X7_worthOf : GoodIn wsX7_saved wsX7_worthOf := goodIn_r _ [11, 7, 12, 13, 14, 15, 16, 17, 18, 19, 20, 21, 22, 23, 24, 25, 26, 27, 28, 29, 30, 31, 32, 33, 34, 35, 36, 37, 38, 39, 40, 41, 42, 43, 44, 45, 46] (by decide +kernel) (by decide +kernel)
set_option maxRecDepth 20000 in
theorem gX7_saved_X7_worthOf : GoodIn wsX7_saved (wsV RX7 99 RX7 yX7_worthOf wsX7_worthOf) := goodIn_app (goodIn_of _ (by decide +kernel)) ggX7_saved_X7_worthOf
theorem dX7_saved_0 : decode cX7_saved 0 = .ok (.aload_n 0, 1) := by decide +kernel
theorem dX7_saved_1 : decode cX7_saved 1 = .ok (.aload_n 0, 1) := by decide +kernel
theorem dX7_saved_2 : decode cX7_saved 2 = .ok (.invokevirtual 72, 3) := by decide +kernel
theorem dX7_saved_5 : decode cX7_saved 5 = .ok (.aload_n 0, 1) := by decide +kernel
theorem dX7_saved_6 : decode cX7_saved 6 = .ok (.getfield 103, 3) := by decide +kernel
theorem dX7_saved_9 : decode cX7_saved 9 = .ok (.iconst (-1), 1) := by decide +kernel
theorem dX7_saved_10 : decode cX7_saved 10 = .ok (.ixor, 1) := by decide +kernel
theorem dX7_saved_11 : decode cX7_saved 11 = .ok (.iand, 1) := by decide +kernel
theorem dX7_saved_12 : decode cX7_saved 12 = .ok (.invokevirtual 99, 3) := by decide +kernel
theorem dX7_saved_15 : decode cX7_saved 15 = .ok (.ireturn, 1) := by decide +kernel
set_option maxRecDepth 20000 in
theorem ggX7_plan_X7_in : GoodIn wsX7_plan wsX7_in := goodIn_r _ [7] (by decide +kernel) (by decide +kernel)
set_option maxRecDepth 20000 in
theorem gX7_plan_X7_in : GoodIn wsX7_plan (va_wsS RX7 68 yX7_in wsX7_in) := goodIn_app (goodIn_of _ (by decide +kernel)) ggX7_plan_X7_in
theorem dX7_plan_0 : decode cX7_plan 0 = .ok (.iload_n 1, 1) := by decide +kernel
theorem dX7_plan_1 : decode cX7_plan 1 = .ok (.i2l, 1) := by decide +kernel
theorem dX7_plan_2 : decode cX7_plan 2 = .ok (.lconst 1, 1) := by decide +kernel
theorem dX7_plan_3 : decode cX7_plan 3 = .ok (.ldc2_w 84, 3) := by decide +kernel
theorem dX7_plan_6 : decode cX7_plan 6 = .ok (.invokestatic 68, 3) := by decide +kernel
theorem dX7_plan_9 : decode cX7_plan 9 = .ok (.ifCond .eq 15, 3) := by decide +kernel
theorem dX7_plan_12 : decode cX7_plan 12 = .ok (.iload_n 2, 1) := by decide +kernel
theorem dX7_plan_13 : decode cX7_plan 13 = .ok (.i2l, 1) := by decide +kernel
theorem dX7_plan_14 : decode cX7_plan 14 = .ok (.lconst 0, 1) := by decide +kernel
theorem dX7_plan_15 : decode cX7_plan 15 = .ok (.ldc2_w 121, 3) := by decide +kernel
theorem dX7_plan_18 : decode cX7_plan 18 = .ok (.invokestatic 68, 3) := by decide +kernel
theorem dX7_plan_21 : decode cX7_plan 21 = .ok (.ifCond .ne 7, 3) := by decide +kernel
theorem dX7_plan_24 : decode cX7_plan 24 = .ok (.sipush (-1002), 3) := by decide +kernel
theorem dX7_plan_27 : decode cX7_plan 27 = .ok (.ireturn, 1) := by decide +kernel
theorem dX7_plan_28 : decode cX7_plan 28 = .ok (.aload_n 0, 1) := by decide +kernel
theorem dX7_plan_29 : decode cX7_plan 29 = .ok (.getfield 32, 3) := by decide +kernel
theorem dX7_plan_32 : decode cX7_plan 32 = .ok (.iload_n 1, 1) := by decide +kernel
theorem dX7_plan_33 : decode cX7_plan 33 = .ok (.iaload, 1) := by decide +kernel
theorem dX7_plan_34 : decode cX7_plan 34 = .ok (.istore_n 3, 1) := by decide +kernel
theorem dX7_plan_35 : decode cX7_plan 35 = .ok (.aload_n 0, 1) := by decide +kernel
theorem dX7_plan_36 : decode cX7_plan 36 = .ok (.getfield 32, 3) := by decide +kernel
theorem dX7_plan_39 : decode cX7_plan 39 = .ok (.iload_n 1, 1) := by decide +kernel
theorem dX7_plan_40 : decode cX7_plan 40 = .ok (.iload_n 2, 1) := by decide +kernel
theorem dX7_plan_41 : decode cX7_plan 41 = .ok (.iastore, 1) := by decide +kernel
theorem dX7_plan_42 : decode cX7_plan 42 = .ok (.iload_n 3, 1) := by decide +kernel
theorem dX7_plan_43 : decode cX7_plan 43 = .ok (.ireturn, 1) := by decide +kernel
set_option maxRecDepth 20000 in
theorem ggX7_playTo_X7_light : GoodIn wsX7_playTo wsX7_light := goodIn_r _ [8, 9, 10, 11, 12, 46, 47, 48, 49, 50, 51, 52, 53, 54, 55, 56, 57, 58, 59, 60, 61, 62, 63, 64, 65, 66, 67, 68, 69, 70, 71, 72, 73, 74, 75, 76, 77, 78, 79] (by decide +kernel) (by decide +kernel)
set_option maxRecDepth 20000 in
theorem gX7_playTo_X7_light : GoodIn wsX7_playTo (wsV RX7 123 RX7 yX7_light wsX7_light) := goodIn_app (goodIn_of _ (by decide +kernel)) ggX7_playTo_X7_light
set_option maxRecDepth 20000 in
theorem ggX7_playTo_X7_fill : GoodIn wsX7_playTo wsX7_fill := goodIn_r _ [16, 17, 11, 18, 46, 47, 48, 49, 50, 51, 52, 53, 54, 55, 56, 57, 58, 59, 60, 61, 62, 63, 64, 65, 66, 67, 68, 69, 70, 71, 72, 73, 74, 75, 76, 77, 78, 79] (by decide +kernel) (by decide +kernel)
set_option maxRecDepth 20000 in
theorem gX7_playTo_X7_fill : GoodIn wsX7_playTo (wsV RX7 133 RX7 yX7_fill wsX7_fill) := goodIn_app (goodIn_of _ (by decide +kernel)) ggX7_playTo_X7_fill
set_option maxRecDepth 20000 in
theorem ggX7_playTo_X7_isLawful : GoodIn wsX7_playTo wsX7_isLawful := goodIn_r _ [22, 9, 10, 11, 23, 24, 25, 7, 26, 27, 28, 29, 30, 31, 32, 46, 47, 48, 49, 50, 51, 52, 53, 54, 55, 56, 57, 58, 59, 60, 61, 62, 63, 64, 65, 66, 67, 68, 69, 70, 71, 72, 73, 74, 75, 76, 77, 78, 79] (by decide +kernel) (by decide +kernel)
set_option maxRecDepth 20000 in
theorem gX7_playTo_X7_isLawful : GoodIn wsX7_playTo (wsV RX7 136 RX7 yX7_isLawful wsX7_isLawful) := goodIn_app (goodIn_of _ (by decide +kernel)) ggX7_playTo_X7_isLawful
set_option maxRecDepth 20000 in
theorem ggX7_playTo_X7_guard : GoodIn wsX7_playTo wsX7_guard := goodIn_r _ [36, 10, 11, 12, 28, 29, 30, 7, 31, 27, 32, 46, 47, 48, 49, 50, 51, 52, 53, 54, 55, 56, 57, 58, 59, 60, 61, 62, 63, 64, 65, 66, 67, 68, 69, 70, 71, 72, 73, 74, 75, 76, 77, 78, 79] (by decide +kernel) (by decide +kernel)
set_option maxRecDepth 20000 in
theorem gX7_playTo_X7_guard : GoodIn wsX7_playTo (wsV RX7 139 RX7 yX7_guard wsX7_guard) := goodIn_app (goodIn_of _ (by decide +kernel)) ggX7_playTo_X7_guard
set_option maxRecDepth 20000 in
theorem ggX7_playTo_X7_spreads : GoodIn wsX7_playTo wsX7_spreads := goodIn_r _ [40, 9, 41, 42, 43, 7, 44, 27, 45, 10, 46, 47, 48, 49, 50, 51, 52, 53, 54, 55, 56, 57, 58, 59, 60, 61, 62, 63, 64, 65, 66, 67, 68, 69, 70, 71, 72, 73, 74, 75, 76, 77, 78, 79] (by decide +kernel) (by decide +kernel)
set_option maxRecDepth 20000 in
theorem gX7_playTo_X7_spreads : GoodIn wsX7_playTo (wsV RX7 142 RX7 yX7_spreads wsX7_spreads) := goodIn_app (goodIn_of _ (by decide +kernel)) ggX7_playTo_X7_spreads
theorem dX7_playTo_0 : decode cX7_playTo 0 = .ok (.aload_n 0, 1) := by decide +kernel
theorem dX7_playTo_1 : decode cX7_playTo 1 = .ok (.iload_n 1, 1) := by decide +kernel
theorem dX7_playTo_2 : decode cX7_playTo 2 = .ok (.invokevirtual 123, 3) := by decide +kernel
theorem dX7_playTo_5 : decode cX7_playTo 5 = .ok (.aload_n 0, 1) := by decide +kernel
theorem dX7_playTo_6 : decode cX7_playTo 6 = .ok (.iconst 0, 1) := by decide +kernel
theorem dX7_playTo_7 : decode cX7_playTo 7 = .ok (.putfield 127, 3) := by decide +kernel
theorem dX7_playTo_10 : decode cX7_playTo 10 = .ok (.aload_n 0, 1) := by decide +kernel
theorem dX7_playTo_11 : decode cX7_playTo 11 = .ok (.iconst 0, 1) := by decide +kernel
theorem dX7_playTo_12 : decode cX7_playTo 12 = .ok (.putfield 130, 3) := by decide +kernel
theorem dX7_playTo_15 : decode cX7_playTo 15 = .ok (.iconst 1, 1) := by decide +kernel
theorem dX7_playTo_16 : decode cX7_playTo 16 = .ok (.istore_n 3, 1) := by decide +kernel
theorem dX7_playTo_17 : decode cX7_playTo 17 = .ok (.iload_n 3, 1) := by decide +kernel
theorem dX7_playTo_18 : decode cX7_playTo 18 = .ok (.iload_n 2, 1) := by decide +kernel
theorem dX7_playTo_19 : decode cX7_playTo 19 = .ok (.if_icmp .gt 94, 3) := by decide +kernel
theorem dX7_playTo_22 : decode cX7_playTo 22 = .ok (.aload_n 0, 1) := by decide +kernel
theorem dX7_playTo_23 : decode cX7_playTo 23 = .ok (.getfield 130, 3) := by decide +kernel
theorem dX7_playTo_26 : decode cX7_playTo 26 = .ok (.ifCond .ne 87, 3) := by decide +kernel
theorem dX7_playTo_29 : decode cX7_playTo 29 = .ok (.aload_n 0, 1) := by decide +kernel
theorem dX7_playTo_30 : decode cX7_playTo 30 = .ok (.iload_n 3, 1) := by decide +kernel
theorem dX7_playTo_31 : decode cX7_playTo 31 = .ok (.invokevirtual 133, 3) := by decide +kernel
theorem dX7_playTo_34 : decode cX7_playTo 34 = .ok (.iload_n 3, 1) := by decide +kernel
theorem dX7_playTo_35 : decode cX7_playTo 35 = .ok (.bipush 8, 2) := by decide +kernel
theorem dX7_playTo_37 : decode cX7_playTo 37 = .ok (.if_icmp .gt 12, 3) := by decide +kernel
theorem dX7_playTo_40 : decode cX7_playTo 40 = .ok (.aload_n 0, 1) := by decide +kernel
theorem dX7_playTo_41 : decode cX7_playTo 41 = .ok (.getfield 32, 3) := by decide +kernel
theorem dX7_playTo_44 : decode cX7_playTo 44 = .ok (.iload_n 3, 1) := by decide +kernel
theorem dX7_playTo_45 : decode cX7_playTo 45 = .ok (.iaload, 1) := by decide +kernel
theorem dX7_playTo_46 : decode cX7_playTo 46 = .ok (.goto 4, 3) := by decide +kernel
theorem dX7_playTo_49 : decode cX7_playTo 49 = .ok (.iconst 0, 1) := by decide +kernel
theorem dX7_playTo_50 : decode cX7_playTo 50 = .ok (.istore 4, 2) := by decide +kernel
theorem dX7_playTo_52 : decode cX7_playTo 52 = .ok (.aload_n 0, 1) := by decide +kernel
theorem dX7_playTo_53 : decode cX7_playTo 53 = .ok (.aload_n 0, 1) := by decide +kernel
theorem dX7_playTo_54 : decode cX7_playTo 54 = .ok (.iload 4, 2) := by decide +kernel
theorem dX7_playTo_56 : decode cX7_playTo 56 = .ok (.invokevirtual 136, 3) := by decide +kernel
theorem dX7_playTo_59 : decode cX7_playTo 59 = .ok (.ifCond .ne 7, 3) := by decide +kernel
theorem dX7_playTo_62 : decode cX7_playTo 62 = .ok (.iconst 1, 1) := by decide +kernel
theorem dX7_playTo_63 : decode cX7_playTo 63 = .ok (.goto 4, 3) := by decide +kernel
theorem dX7_playTo_66 : decode cX7_playTo 66 = .ok (.iconst 0, 1) := by decide +kernel
theorem dX7_playTo_67 : decode cX7_playTo 67 = .ok (.putfield 127, 3) := by decide +kernel
theorem dX7_playTo_70 : decode cX7_playTo 70 = .ok (.aload_n 0, 1) := by decide +kernel
theorem dX7_playTo_71 : decode cX7_playTo 71 = .ok (.getfield 127, 3) := by decide +kernel
theorem dX7_playTo_74 : decode cX7_playTo 74 = .ok (.ifCond .eq 11, 3) := by decide +kernel
theorem dX7_playTo_77 : decode cX7_playTo 77 = .ok (.aload_n 0, 1) := by decide +kernel
theorem dX7_playTo_78 : decode cX7_playTo 78 = .ok (.iload_n 3, 1) := by decide +kernel
theorem dX7_playTo_79 : decode cX7_playTo 79 = .ok (.putfield 130, 3) := by decide +kernel
theorem dX7_playTo_82 : decode cX7_playTo 82 = .ok (.goto 25, 3) := by decide +kernel
theorem dX7_playTo_85 : decode cX7_playTo 85 = .ok (.aload_n 0, 1) := by decide +kernel
theorem dX7_playTo_86 : decode cX7_playTo 86 = .ok (.iload 4, 2) := by decide +kernel
theorem dX7_playTo_88 : decode cX7_playTo 88 = .ok (.invokevirtual 139, 3) := by decide +kernel
theorem dX7_playTo_91 : decode cX7_playTo 91 = .ok (.aload_n 0, 1) := by decide +kernel
theorem dX7_playTo_92 : decode cX7_playTo 92 = .ok (.aload_n 0, 1) := by decide +kernel
theorem dX7_playTo_93 : decode cX7_playTo 93 = .ok (.invokevirtual 142, 3) := by decide +kernel
theorem dX7_playTo_96 : decode cX7_playTo 96 = .ok (.ifCond .eq 7, 3) := by decide +kernel
theorem dX7_playTo_99 : decode cX7_playTo 99 = .ok (.iconst 0, 1) := by decide +kernel
theorem dX7_playTo_100 : decode cX7_playTo 100 = .ok (.goto 4, 3) := by decide +kernel
theorem dX7_playTo_103 : decode cX7_playTo 103 = .ok (.iload_n 3, 1) := by decide +kernel
theorem dX7_playTo_104 : decode cX7_playTo 104 = .ok (.putfield 130, 3) := by decide +kernel
theorem dX7_playTo_107 : decode cX7_playTo 107 = .ok (.iinc 3 1, 3) := by decide +kernel
theorem dX7_playTo_110 : decode cX7_playTo 110 = .ok (.goto (-93), 3) := by decide +kernel
theorem dX7_playTo_113 : decode cX7_playTo 113 = .ok (.return_, 1) := by decide +kernel
set_option maxRecDepth 20000 in
theorem ggX7_play_X7_isFire : GoodIn wsX7_play wsX7_isFire := goodIn_r _ [11, 12, 13, 14, 10, 15, 16, 17, 18, 19, 67, 68, 69, 70, 71, 72, 73, 74, 75, 76, 77, 78, 79, 80, 81, 82, 83, 84, 85, 86, 87, 88, 89, 90, 91, 92, 93, 94, 95, 96, 97, 98, 99, 100] (by decide +kernel) (by decide +kernel)
set_option maxRecDepth 20000 in
theorem gX7_play_X7_isFire : GoodIn wsX7_play (wsV RX7 146 RX7 yX7_isFire wsX7_isFire) := goodIn_app (goodIn_of _ (by decide +kernel)) ggX7_play_X7_isFire
set_option maxRecDepth 20000 in
theorem ggX7_play_X7_in : GoodIn wsX7_play wsX7_in := goodIn_r _ [19] (by decide +kernel) (by decide +kernel)
set_option maxRecDepth 20000 in
theorem gX7_play_X7_in : GoodIn wsX7_play (va_wsS RX7 68 yX7_in wsX7_in) := goodIn_app (goodIn_of _ (by decide +kernel)) ggX7_play_X7_in
set_option maxRecDepth 20000 in
theorem ggX7_play_X7_playTo : GoodIn wsX7_play wsX7_playTo := goodIn_r _ [23, 2, 5, 24, 25, 26, 27, 10, 28, 3, 4, 29, 6, 30, 31, 32, 33, 34, 35, 36, 37, 38, 39, 12, 13, 14, 15, 16, 40, 41, 42, 43, 44, 45, 46, 47, 48, 49, 50, 51, 52, 53, 54, 55, 56, 57, 67, 68, 69, 70, 71, 72, 73, 74, 75, 76, 77, 78, 79, 80, 81, 82, 83, 84, 85, 86, 87, 88, 89, 90, 91, 92, 93, 94, 95, 96, 97, 98, 99, 100] (by decide +kernel) (by decide +kernel)
set_option maxRecDepth 20000 in
theorem gX7_play_X7_playTo : GoodIn wsX7_play (wsV RX7 151 RX7 yX7_playTo wsX7_playTo) := goodIn_app (goodIn_of _ (by decide +kernel)) ggX7_play_X7_playTo
set_option maxRecDepth 20000 in
theorem ggX7_play_X7_saved : GoodIn wsX7_play wsX7_saved := goodIn_r _ [61, 3, 12, 13, 14, 10, 15, 16, 62, 63, 64, 65, 66, 67, 68, 69, 70, 71, 72, 73, 74, 75, 76, 77, 78, 79, 80, 81, 82, 83, 84, 85, 86, 87, 88, 89, 90, 91, 92, 93, 94, 95, 96, 97, 98, 99, 100] (by decide +kernel) (by decide +kernel)
set_option maxRecDepth 20000 in
theorem gX7_play_X7_saved : GoodIn wsX7_play (wsV RX7 155 RX7 yX7_saved wsX7_saved) := goodIn_app (goodIn_of _ (by decide +kernel)) ggX7_play_X7_saved
theorem dX7_play_0 : decode cX7_play 0 = .ok (.aload_n 0, 1) := by decide +kernel
theorem dX7_play_1 : decode cX7_play 1 = .ok (.iload_n 1, 1) := by decide +kernel
theorem dX7_play_2 : decode cX7_play 2 = .ok (.invokevirtual 146, 3) := by decide +kernel
theorem dX7_play_5 : decode cX7_play 5 = .ok (.ifCond .eq 15, 3) := by decide +kernel
theorem dX7_play_8 : decode cX7_play 8 = .ok (.iload_n 2, 1) := by decide +kernel
theorem dX7_play_9 : decode cX7_play 9 = .ok (.i2l, 1) := by decide +kernel
theorem dX7_play_10 : decode cX7_play 10 = .ok (.lconst 0, 1) := by decide +kernel
theorem dX7_play_11 : decode cX7_play 11 = .ok (.ldc2_w 149, 3) := by decide +kernel
theorem dX7_play_14 : decode cX7_play 14 = .ok (.invokestatic 68, 3) := by decide +kernel
theorem dX7_play_17 : decode cX7_play 17 = .ok (.ifCond .ne 7, 3) := by decide +kernel
theorem dX7_play_20 : decode cX7_play 20 = .ok (.sipush (-1002), 3) := by decide +kernel
theorem dX7_play_23 : decode cX7_play 23 = .ok (.ireturn, 1) := by decide +kernel
theorem dX7_play_24 : decode cX7_play 24 = .ok (.aload_n 0, 1) := by decide +kernel
theorem dX7_play_25 : decode cX7_play 25 = .ok (.iload_n 1, 1) := by decide +kernel
theorem dX7_play_26 : decode cX7_play 26 = .ok (.bipush 30, 2) := by decide +kernel
theorem dX7_play_28 : decode cX7_play 28 = .ok (.invokevirtual 151, 3) := by decide +kernel
theorem dX7_play_31 : decode cX7_play 31 = .ok (.iload_n 2, 1) := by decide +kernel
theorem dX7_play_32 : decode cX7_play 32 = .ok (.ifCond .ne 21, 3) := by decide +kernel
theorem dX7_play_35 : decode cX7_play 35 = .ok (.aload_n 0, 1) := by decide +kernel
theorem dX7_play_36 : decode cX7_play 36 = .ok (.getfield 127, 3) := by decide +kernel
theorem dX7_play_39 : decode cX7_play 39 = .ok (.ifCond .eq 7, 3) := by decide +kernel
theorem dX7_play_42 : decode cX7_play 42 = .ok (.iconst (-1), 1) := by decide +kernel
theorem dX7_play_43 : decode cX7_play 43 = .ok (.goto 50, 3) := by decide +kernel
theorem dX7_play_46 : decode cX7_play 46 = .ok (.aload_n 0, 1) := by decide +kernel
theorem dX7_play_47 : decode cX7_play 47 = .ok (.invokevirtual 155, 3) := by decide +kernel
theorem dX7_play_50 : decode cX7_play 50 = .ok (.goto 43, 3) := by decide +kernel
theorem dX7_play_53 : decode cX7_play 53 = .ok (.iload_n 2, 1) := by decide +kernel
theorem dX7_play_54 : decode cX7_play 54 = .ok (.iconst 1, 1) := by decide +kernel
theorem dX7_play_55 : decode cX7_play 55 = .ok (.if_icmp .ne 10, 3) := by decide +kernel
theorem dX7_play_58 : decode cX7_play 58 = .ok (.aload_n 0, 1) := by decide +kernel
theorem dX7_play_59 : decode cX7_play 59 = .ok (.getfield 103, 3) := by decide +kernel
theorem dX7_play_62 : decode cX7_play 62 = .ok (.goto 31, 3) := by decide +kernel
theorem dX7_play_65 : decode cX7_play 65 = .ok (.iload_n 2, 1) := by decide +kernel
theorem dX7_play_66 : decode cX7_play 66 = .ok (.iconst 2, 1) := by decide +kernel
theorem dX7_play_67 : decode cX7_play 67 = .ok (.if_icmp .ne 10, 3) := by decide +kernel
theorem dX7_play_70 : decode cX7_play 70 = .ok (.aload_n 0, 1) := by decide +kernel
theorem dX7_play_71 : decode cX7_play 71 = .ok (.getfield 106, 3) := by decide +kernel
theorem dX7_play_74 : decode cX7_play 74 = .ok (.goto 19, 3) := by decide +kernel
theorem dX7_play_77 : decode cX7_play 77 = .ok (.iload_n 2, 1) := by decide +kernel
theorem dX7_play_78 : decode cX7_play 78 = .ok (.iconst 3, 1) := by decide +kernel
theorem dX7_play_79 : decode cX7_play 79 = .ok (.if_icmp .ne 10, 3) := by decide +kernel
theorem dX7_play_82 : decode cX7_play 82 = .ok (.aload_n 0, 1) := by decide +kernel
theorem dX7_play_83 : decode cX7_play 83 = .ok (.getfield 130, 3) := by decide +kernel
theorem dX7_play_86 : decode cX7_play 86 = .ok (.goto 7, 3) := by decide +kernel
theorem dX7_play_89 : decode cX7_play 89 = .ok (.aload_n 0, 1) := by decide +kernel
theorem dX7_play_90 : decode cX7_play 90 = .ok (.getfield 112, 3) := by decide +kernel
theorem dX7_play_93 : decode cX7_play 93 = .ok (.ireturn, 1) := by decide +kernel
set_option maxRecDepth 20000 in
theorem ggX7_burns_X7_isFire : GoodIn wsX7_burns wsX7_isFire := goodIn_r _ [7, 8, 9, 10, 6, 11, 12, 13, 14, 15, 58, 59, 60, 61, 62, 63, 64, 65, 66, 67, 68, 69, 70, 71, 72, 73, 74, 75, 76, 77, 78, 79, 80, 81, 82, 83, 84, 85, 86, 87, 88, 89, 90, 91] (by decide +kernel) (by decide +kernel)
set_option maxRecDepth 20000 in
theorem gX7_burns_X7_isFire : GoodIn wsX7_burns (wsV RX7 146 RX7 yX7_isFire wsX7_isFire) := goodIn_app (goodIn_of _ (by decide +kernel)) ggX7_burns_X7_isFire
set_option maxRecDepth 20000 in
theorem ggX7_burns_X7_in : GoodIn wsX7_burns wsX7_in := goodIn_r _ [15] (by decide +kernel) (by decide +kernel)
set_option maxRecDepth 20000 in
theorem gX7_burns_X7_in : GoodIn wsX7_burns (va_wsS RX7 68 yX7_in wsX7_in) := goodIn_app (goodIn_of _ (by decide +kernel)) ggX7_burns_X7_in
set_option maxRecDepth 20000 in
theorem ggX7_burns_X7_playTo : GoodIn wsX7_burns wsX7_playTo := goodIn_r _ [19, 20, 21, 22, 23, 24, 25, 6, 26, 2, 27, 28, 29, 30, 31, 32, 33, 34, 35, 36, 37, 38, 39, 8, 9, 10, 11, 12, 40, 41, 42, 43, 44, 45, 46, 47, 48, 49, 50, 51, 52, 53, 54, 55, 56, 57, 58, 59, 60, 61, 62, 63, 64, 65, 66, 67, 68, 69, 70, 71, 72, 73, 74, 75, 76, 77, 78, 79, 80, 81, 82, 83, 84, 85, 86, 87, 88, 89, 90, 91] (by decide +kernel) (by decide +kernel)
set_option maxRecDepth 20000 in
theorem gX7_burns_X7_playTo : GoodIn wsX7_burns (wsV RX7 151 RX7 yX7_playTo wsX7_playTo) := goodIn_app (goodIn_of _ (by decide +kernel)) ggX7_burns_X7_playTo
theorem dX7_burns_0 : decode cX7_burns 0 = .ok (.aload_n 0, 1) := by decide +kernel
theorem dX7_burns_1 : decode cX7_burns 1 = .ok (.iload_n 1, 1) := by decide +kernel
theorem dX7_burns_2 : decode cX7_burns 2 = .ok (.invokevirtual 146, 3) := by decide +kernel
theorem dX7_burns_5 : decode cX7_burns 5 = .ok (.ifCond .eq 15, 3) := by decide +kernel
theorem dX7_burns_8 : decode cX7_burns 8 = .ok (.iload_n 2, 1) := by decide +kernel
theorem dX7_burns_9 : decode cX7_burns 9 = .ok (.i2l, 1) := by decide +kernel
theorem dX7_burns_10 : decode cX7_burns 10 = .ok (.lconst 0, 1) := by decide +kernel
theorem dX7_burns_11 : decode cX7_burns 11 = .ok (.ldc2_w 86, 3) := by decide +kernel
theorem dX7_burns_14 : decode cX7_burns 14 = .ok (.invokestatic 68, 3) := by decide +kernel
theorem dX7_burns_17 : decode cX7_burns 17 = .ok (.ifCond .ne 7, 3) := by decide +kernel
theorem dX7_burns_20 : decode cX7_burns 20 = .ok (.sipush (-1002), 3) := by decide +kernel
theorem dX7_burns_23 : decode cX7_burns 23 = .ok (.ireturn, 1) := by decide +kernel
theorem dX7_burns_24 : decode cX7_burns 24 = .ok (.aload_n 0, 1) := by decide +kernel
theorem dX7_burns_25 : decode cX7_burns 25 = .ok (.iload_n 1, 1) := by decide +kernel
theorem dX7_burns_26 : decode cX7_burns 26 = .ok (.iload_n 2, 1) := by decide +kernel
theorem dX7_burns_27 : decode cX7_burns 27 = .ok (.invokevirtual 151, 3) := by decide +kernel
theorem dX7_burns_30 : decode cX7_burns 30 = .ok (.aload_n 0, 1) := by decide +kernel
theorem dX7_burns_31 : decode cX7_burns 31 = .ok (.getfield 103, 3) := by decide +kernel
theorem dX7_burns_34 : decode cX7_burns 34 = .ok (.ireturn, 1) := by decide +kernel
theorem dX7_keep_0 : decode cX7_keep 0 = .ok (.aload_n 0, 1) := by decide +kernel
theorem dX7_keep_1 : decode cX7_keep 1 = .ok (.getfield 41, 3) := by decide +kernel
theorem dX7_keep_4 : decode cX7_keep 4 = .ok (.iload_n 1, 1) := by decide +kernel
theorem dX7_keep_5 : decode cX7_keep 5 = .ok (.aload_n 0, 1) := by decide +kernel
theorem dX7_keep_6 : decode cX7_keep 6 = .ok (.getfield 103, 3) := by decide +kernel
theorem dX7_keep_9 : decode cX7_keep 9 = .ok (.iastore, 1) := by decide +kernel
theorem dX7_keep_10 : decode cX7_keep 10 = .ok (.aload_n 0, 1) := by decide +kernel
theorem dX7_keep_11 : decode cX7_keep 11 = .ok (.getfield 44, 3) := by decide +kernel
theorem dX7_keep_14 : decode cX7_keep 14 = .ok (.iload_n 1, 1) := by decide +kernel
theorem dX7_keep_15 : decode cX7_keep 15 = .ok (.aload_n 0, 1) := by decide +kernel
theorem dX7_keep_16 : decode cX7_keep 16 = .ok (.getfield 106, 3) := by decide +kernel
theorem dX7_keep_19 : decode cX7_keep 19 = .ok (.iastore, 1) := by decide +kernel
theorem dX7_keep_20 : decode cX7_keep 20 = .ok (.aload_n 0, 1) := by decide +kernel
theorem dX7_keep_21 : decode cX7_keep 21 = .ok (.getfield 47, 3) := by decide +kernel
theorem dX7_keep_24 : decode cX7_keep 24 = .ok (.iload_n 1, 1) := by decide +kernel
theorem dX7_keep_25 : decode cX7_keep 25 = .ok (.aload_n 0, 1) := by decide +kernel
theorem dX7_keep_26 : decode cX7_keep 26 = .ok (.getfield 109, 3) := by decide +kernel
theorem dX7_keep_29 : decode cX7_keep 29 = .ok (.iastore, 1) := by decide +kernel
theorem dX7_keep_30 : decode cX7_keep 30 = .ok (.aload_n 0, 1) := by decide +kernel
theorem dX7_keep_31 : decode cX7_keep 31 = .ok (.getfield 38, 3) := by decide +kernel
theorem dX7_keep_34 : decode cX7_keep 34 = .ok (.iload_n 1, 1) := by decide +kernel
theorem dX7_keep_35 : decode cX7_keep 35 = .ok (.iconst 0, 1) := by decide +kernel
theorem dX7_keep_36 : decode cX7_keep 36 = .ok (.iastore, 1) := by decide +kernel
theorem dX7_keep_37 : decode cX7_keep 37 = .ok (.return_, 1) := by decide +kernel
theorem dX7_restore_0 : decode cX7_restore 0 = .ok (.aload_n 0, 1) := by decide +kernel
theorem dX7_restore_1 : decode cX7_restore 1 = .ok (.aload_n 0, 1) := by decide +kernel
theorem dX7_restore_2 : decode cX7_restore 2 = .ok (.getfield 41, 3) := by decide +kernel
theorem dX7_restore_5 : decode cX7_restore 5 = .ok (.iload_n 1, 1) := by decide +kernel
theorem dX7_restore_6 : decode cX7_restore 6 = .ok (.iaload, 1) := by decide +kernel
theorem dX7_restore_7 : decode cX7_restore 7 = .ok (.putfield 103, 3) := by decide +kernel
theorem dX7_restore_10 : decode cX7_restore 10 = .ok (.aload_n 0, 1) := by decide +kernel
theorem dX7_restore_11 : decode cX7_restore 11 = .ok (.aload_n 0, 1) := by decide +kernel
theorem dX7_restore_12 : decode cX7_restore 12 = .ok (.getfield 44, 3) := by decide +kernel
theorem dX7_restore_15 : decode cX7_restore 15 = .ok (.iload_n 1, 1) := by decide +kernel
theorem dX7_restore_16 : decode cX7_restore 16 = .ok (.iaload, 1) := by decide +kernel
theorem dX7_restore_17 : decode cX7_restore 17 = .ok (.putfield 106, 3) := by decide +kernel
theorem dX7_restore_20 : decode cX7_restore 20 = .ok (.aload_n 0, 1) := by decide +kernel
theorem dX7_restore_21 : decode cX7_restore 21 = .ok (.aload_n 0, 1) := by decide +kernel
theorem dX7_restore_22 : decode cX7_restore 22 = .ok (.getfield 47, 3) := by decide +kernel
theorem dX7_restore_25 : decode cX7_restore 25 = .ok (.iload_n 1, 1) := by decide +kernel
theorem dX7_restore_26 : decode cX7_restore 26 = .ok (.iaload, 1) := by decide +kernel
theorem dX7_restore_27 : decode cX7_restore 27 = .ok (.putfield 109, 3) := by decide +kernel
theorem dX7_restore_30 : decode cX7_restore 30 = .ok (.return_, 1) := by decide +kernel
set_option maxRecDepth 20000 in
theorem ggX7_compare_X7_saved : GoodIn wsX7_compare wsX7_saved := goodIn_r _ [9, 10, 11, 12, 13, 8, 14, 15, 16, 17, 18, 19, 20, 21, 22, 23, 24, 25, 26, 27, 28, 29, 30, 31, 32, 33, 34, 35, 36, 37, 38, 39, 40, 41, 42, 43, 44, 45, 46, 47, 48, 49, 50, 51, 52, 53, 54] (by decide +kernel) (by decide +kernel)
set_option maxRecDepth 20000 in
theorem gX7_compare_X7_saved : GoodIn wsX7_compare (wsV RX7 155 RX7 yX7_saved wsX7_saved) := goodIn_app (goodIn_of _ (by decide +kernel)) ggX7_compare_X7_saved
theorem dX7_compare_0 : decode cX7_compare 0 = .ok (.aload_n 0, 1) := by decide +kernel
theorem dX7_compare_1 : decode cX7_compare 1 = .ok (.invokevirtual 155, 3) := by decide +kernel
theorem dX7_compare_4 : decode cX7_compare 4 = .ok (.aload_n 0, 1) := by decide +kernel
theorem dX7_compare_5 : decode cX7_compare 5 = .ok (.getfield 158, 3) := by decide +kernel
theorem dX7_compare_8 : decode cX7_compare 8 = .ok (.if_icmp .le 51, 3) := by decide +kernel
theorem dX7_compare_11 : decode cX7_compare 11 = .ok (.aload_n 0, 1) := by decide +kernel
theorem dX7_compare_12 : decode cX7_compare 12 = .ok (.aload_n 0, 1) := by decide +kernel
theorem dX7_compare_13 : decode cX7_compare 13 = .ok (.invokevirtual 155, 3) := by decide +kernel
theorem dX7_compare_16 : decode cX7_compare 16 = .ok (.putfield 158, 3) := by decide +kernel
theorem dX7_compare_19 : decode cX7_compare 19 = .ok (.aload_n 0, 1) := by decide +kernel
theorem dX7_compare_20 : decode cX7_compare 20 = .ok (.iload_n 1, 1) := by decide +kernel
theorem dX7_compare_21 : decode cX7_compare 21 = .ok (.putfield 161, 3) := by decide +kernel
theorem dX7_compare_24 : decode cX7_compare 24 = .ok (.iconst 1, 1) := by decide +kernel
theorem dX7_compare_25 : decode cX7_compare 25 = .ok (.istore_n 3, 1) := by decide +kernel
theorem dX7_compare_26 : decode cX7_compare 26 = .ok (.iload_n 3, 1) := by decide +kernel
theorem dX7_compare_27 : decode cX7_compare 27 = .ok (.bipush 8, 2) := by decide +kernel
theorem dX7_compare_29 : decode cX7_compare 29 = .ok (.if_icmp .gt 30, 3) := by decide +kernel
theorem dX7_compare_32 : decode cX7_compare 32 = .ok (.aload_n 0, 1) := by decide +kernel
theorem dX7_compare_33 : decode cX7_compare 33 = .ok (.getfield 50, 3) := by decide +kernel
theorem dX7_compare_36 : decode cX7_compare 36 = .ok (.iload_n 3, 1) := by decide +kernel
theorem dX7_compare_37 : decode cX7_compare 37 = .ok (.iload_n 3, 1) := by decide +kernel
theorem dX7_compare_38 : decode cX7_compare 38 = .ok (.iload_n 2, 1) := by decide +kernel
theorem dX7_compare_39 : decode cX7_compare 39 = .ok (.if_icmp .gt 12, 3) := by decide +kernel
theorem dX7_compare_42 : decode cX7_compare 42 = .ok (.aload_n 0, 1) := by decide +kernel
theorem dX7_compare_43 : decode cX7_compare 43 = .ok (.getfield 38, 3) := by decide +kernel
theorem dX7_compare_46 : decode cX7_compare 46 = .ok (.iload_n 3, 1) := by decide +kernel
theorem dX7_compare_47 : decode cX7_compare 47 = .ok (.iaload, 1) := by decide +kernel
theorem dX7_compare_48 : decode cX7_compare 48 = .ok (.goto 4, 3) := by decide +kernel
theorem dX7_compare_51 : decode cX7_compare 51 = .ok (.iconst 0, 1) := by decide +kernel
theorem dX7_compare_52 : decode cX7_compare 52 = .ok (.iastore, 1) := by decide +kernel
theorem dX7_compare_53 : decode cX7_compare 53 = .ok (.iinc 3 1, 3) := by decide +kernel
theorem dX7_compare_56 : decode cX7_compare 56 = .ok (.goto (-30), 3) := by decide +kernel
theorem dX7_compare_59 : decode cX7_compare 59 = .ok (.return_, 1) := by decide +kernel
set_option maxRecDepth 20000 in
theorem ggX7_goOn_X7_all : GoodIn wsX7_goOn wsX7_all := goodIn_r _ [8, 9, 10, 11, 12, 13, 14, 15, 16, 17, 18, 19, 20, 21, 22, 23, 24, 25, 26, 27, 28, 29, 30, 31, 32, 33, 34, 35, 36, 37, 38, 39, 40, 41, 42, 43] (by decide +kernel) (by decide +kernel)
set_option maxRecDepth 20000 in
theorem gX7_goOn_X7_all : GoodIn wsX7_goOn (wsV RX7 72 RX7 yX7_all wsX7_all) := goodIn_app (goodIn_of _ (by decide +kernel)) ggX7_goOn_X7_all
theorem dX7_goOn_0 : decode cX7_goOn 0 = .ok (.aload_n 0, 1) := by decide +kernel
theorem dX7_goOn_1 : decode cX7_goOn 1 = .ok (.invokevirtual 72, 3) := by decide +kernel
theorem dX7_goOn_4 : decode cX7_goOn 4 = .ok (.aload_n 0, 1) := by decide +kernel
theorem dX7_goOn_5 : decode cX7_goOn 5 = .ok (.getfield 41, 3) := by decide +kernel
theorem dX7_goOn_8 : decode cX7_goOn 8 = .ok (.iload_n 1, 1) := by decide +kernel
theorem dX7_goOn_9 : decode cX7_goOn 9 = .ok (.iaload, 1) := by decide +kernel
theorem dX7_goOn_10 : decode cX7_goOn 10 = .ok (.iconst (-1), 1) := by decide +kernel
theorem dX7_goOn_11 : decode cX7_goOn 11 = .ok (.ixor, 1) := by decide +kernel
theorem dX7_goOn_12 : decode cX7_goOn 12 = .ok (.iand, 1) := by decide +kernel
theorem dX7_goOn_13 : decode cX7_goOn 13 = .ok (.aload_n 0, 1) := by decide +kernel
theorem dX7_goOn_14 : decode cX7_goOn 14 = .ok (.getfield 44, 3) := by decide +kernel
theorem dX7_goOn_17 : decode cX7_goOn 17 = .ok (.iload_n 1, 1) := by decide +kernel
theorem dX7_goOn_18 : decode cX7_goOn 18 = .ok (.iaload, 1) := by decide +kernel
theorem dX7_goOn_19 : decode cX7_goOn 19 = .ok (.iconst (-1), 1) := by decide +kernel
theorem dX7_goOn_20 : decode cX7_goOn 20 = .ok (.ixor, 1) := by decide +kernel
theorem dX7_goOn_21 : decode cX7_goOn 21 = .ok (.iand, 1) := by decide +kernel
theorem dX7_goOn_22 : decode cX7_goOn 22 = .ok (.istore_n 2, 1) := by decide +kernel
theorem dX7_goOn_23 : decode cX7_goOn 23 = .ok (.aload_n 0, 1) := by decide +kernel
theorem dX7_goOn_24 : decode cX7_goOn 24 = .ok (.getfield 38, 3) := by decide +kernel
theorem dX7_goOn_27 : decode cX7_goOn 27 = .ok (.iload_n 1, 1) := by decide +kernel
theorem dX7_goOn_28 : decode cX7_goOn 28 = .ok (.iaload, 1) := by decide +kernel
theorem dX7_goOn_29 : decode cX7_goOn 29 = .ok (.iload_n 2, 1) := by decide +kernel
theorem dX7_goOn_30 : decode cX7_goOn 30 = .ok (.iconst (-1), 1) := by decide +kernel
theorem dX7_goOn_31 : decode cX7_goOn 31 = .ok (.ixor, 1) := by decide +kernel
theorem dX7_goOn_32 : decode cX7_goOn 32 = .ok (.ior, 1) := by decide +kernel
theorem dX7_goOn_33 : decode cX7_goOn 33 = .ok (.iconst 1, 1) := by decide +kernel
theorem dX7_goOn_34 : decode cX7_goOn 34 = .ok (.iadd, 1) := by decide +kernel
theorem dX7_goOn_35 : decode cX7_goOn 35 = .ok (.iload_n 2, 1) := by decide +kernel
theorem dX7_goOn_36 : decode cX7_goOn 36 = .ok (.iand, 1) := by decide +kernel
theorem dX7_goOn_37 : decode cX7_goOn 37 = .ok (.istore_n 3, 1) := by decide +kernel
theorem dX7_goOn_38 : decode cX7_goOn 38 = .ok (.aload_n 0, 1) := by decide +kernel
theorem dX7_goOn_39 : decode cX7_goOn 39 = .ok (.getfield 38, 3) := by decide +kernel
theorem dX7_goOn_42 : decode cX7_goOn 42 = .ok (.iload_n 1, 1) := by decide +kernel
theorem dX7_goOn_43 : decode cX7_goOn 43 = .ok (.iload_n 3, 1) := by decide +kernel
theorem dX7_goOn_44 : decode cX7_goOn 44 = .ok (.ifCond .ne 9, 3) := by decide +kernel
theorem dX7_goOn_47 : decode cX7_goOn 47 = .ok (.sipush 1024, 3) := by decide +kernel
theorem dX7_goOn_50 : decode cX7_goOn 50 = .ok (.goto 4, 3) := by decide +kernel
theorem dX7_goOn_53 : decode cX7_goOn 53 = .ok (.iload_n 3, 1) := by decide +kernel
theorem dX7_goOn_54 : decode cX7_goOn 54 = .ok (.iastore, 1) := by decide +kernel
theorem dX7_goOn_55 : decode cX7_goOn 55 = .ok (.return_, 1) := by decide +kernel
set_option maxRecDepth 20000 in
theorem ggX7_seek_X7_all : GoodIn wsX7_seek wsX7_all := goodIn_r _ [13, 14, 75, 76, 77, 78, 79, 80, 81, 82, 83, 84, 85, 86, 87, 88, 89, 90, 91, 92, 93, 94, 95, 96, 97, 98, 99, 100, 101, 102, 103, 104, 105, 106, 107, 108] (by decide +kernel) (by decide +kernel)
set_option maxRecDepth 20000 in
theorem gX7_seek_X7_all : GoodIn wsX7_seek (wsV RX7 72 RX7 yX7_all wsX7_all) := goodIn_app (goodIn_of _ (by decide +kernel)) ggX7_seek_X7_all
set_option maxRecDepth 20000 in
theorem ggX7_seek_X7_priceOf : GoodIn wsX7_seek wsX7_priceOf := goodIn_r _ [18, 14, 19, 75, 76, 77, 78, 79, 80, 81, 82, 83, 84, 85, 86, 87, 88, 89, 90, 91, 92, 93, 94, 95, 96, 97, 98, 99, 100, 101, 102, 103, 104, 105, 106, 107, 108] (by decide +kernel) (by decide +kernel)
set_option maxRecDepth 20000 in
theorem gX7_seek_X7_priceOf : GoodIn wsX7_seek (wsV RX7 115 RX7 yX7_priceOf wsX7_priceOf) := goodIn_app (goodIn_of _ (by decide +kernel)) ggX7_seek_X7_priceOf
set_option maxRecDepth 20000 in
theorem ggX7_seek_X7_light : GoodIn wsX7_seek wsX7_light := goodIn_r _ [23, 24, 25, 7, 26, 75, 76, 77, 78, 79, 80, 81, 82, 83, 84, 85, 86, 87, 88, 89, 90, 91, 92, 93, 94, 95, 96, 97, 98, 99, 100, 101, 102, 103, 104, 105, 106, 107, 108] (by decide +kernel) (by decide +kernel)
set_option maxRecDepth 20000 in
theorem gX7_seek_X7_light : GoodIn wsX7_seek (wsV RX7 123 RX7 yX7_light wsX7_light) := goodIn_app (goodIn_of _ (by decide +kernel)) ggX7_seek_X7_light
set_option maxRecDepth 20000 in
theorem ggX7_seek_X7_fill : GoodIn wsX7_seek wsX7_fill := goodIn_r _ [30, 31, 7, 32, 75, 76, 77, 78, 79, 80, 81, 82, 83, 84, 85, 86, 87, 88, 89, 90, 91, 92, 93, 94, 95, 96, 97, 98, 99, 100, 101, 102, 103, 104, 105, 106, 107, 108] (by decide +kernel) (by decide +kernel)
set_option maxRecDepth 20000 in
theorem gX7_seek_X7_fill : GoodIn wsX7_seek (wsV RX7 133 RX7 yX7_fill wsX7_fill) := goodIn_app (goodIn_of _ (by decide +kernel)) ggX7_seek_X7_fill
set_option maxRecDepth 20000 in
theorem ggX7_seek_X7_keep : GoodIn wsX7_seek wsX7_keep := goodIn_r _ [36, 37, 24, 38, 25, 39, 7, 6, 75, 76, 77, 78, 79, 80, 81, 82, 83, 84, 85, 86, 87, 88, 89, 90, 91, 92, 93, 94, 95, 96, 97, 98, 99, 100, 101, 102, 103, 104, 105, 106, 107, 108] (by decide +kernel) (by decide +kernel)
set_option maxRecDepth 20000 in
theorem gX7_seek_X7_keep : GoodIn wsX7_seek (wsV RX7 170 RX7 yX7_keep wsX7_keep) := goodIn_app (goodIn_of _ (by decide +kernel)) ggX7_seek_X7_keep
set_option maxRecDepth 20000 in
theorem ggX7_seek_X7_restore : GoodIn wsX7_seek wsX7_restore := goodIn_r _ [43, 37, 24, 38, 25, 39, 7, 75, 76, 77, 78, 79, 80, 81, 82, 83, 84, 85, 86, 87, 88, 89, 90, 91, 92, 93, 94, 95, 96, 97, 98, 99, 100, 101, 102, 103, 104, 105, 106, 107, 108] (by decide +kernel) (by decide +kernel)
set_option maxRecDepth 20000 in
theorem gX7_seek_X7_restore : GoodIn wsX7_seek (wsV RX7 173 RX7 yX7_restore wsX7_restore) := goodIn_app (goodIn_of _ (by decide +kernel)) ggX7_seek_X7_restore
set_option maxRecDepth 20000 in
theorem ggX7_seek_X7_goOn : GoodIn wsX7_seek wsX7_goOn := goodIn_r _ [47, 37, 38, 6, 9, 10, 11, 12, 13, 14, 75, 76, 77, 78, 79, 80, 81, 82, 83, 84, 85, 86, 87, 88, 89, 90, 91, 92, 93, 94, 95, 96, 97, 98, 99, 100, 101, 102, 103, 104, 105, 106, 107, 108] (by decide +kernel) (by decide +kernel)
set_option maxRecDepth 20000 in
theorem gX7_seek_X7_goOn : GoodIn wsX7_seek (wsV RX7 176 RX7 yX7_goOn wsX7_goOn) := goodIn_app (goodIn_of _ (by decide +kernel)) ggX7_seek_X7_goOn
set_option maxRecDepth 20000 in
theorem ggX7_seek_X7_guard : GoodIn wsX7_seek wsX7_guard := goodIn_r _ [51, 25, 7, 26, 15, 16, 17, 12, 18, 14, 19, 75, 76, 77, 78, 79, 80, 81, 82, 83, 84, 85, 86, 87, 88, 89, 90, 91, 92, 93, 94, 95, 96, 97, 98, 99, 100, 101, 102, 103, 104, 105, 106, 107, 108] (by decide +kernel) (by decide +kernel)
set_option maxRecDepth 20000 in
theorem gX7_seek_X7_guard : GoodIn wsX7_seek (wsV RX7 139 RX7 yX7_guard wsX7_guard) := goodIn_app (goodIn_of _ (by decide +kernel)) ggX7_seek_X7_guard
set_option maxRecDepth 20000 in
theorem ggX7_seek_X7_spreads : GoodIn wsX7_seek wsX7_spreads := goodIn_r _ [55, 24, 56, 57, 58, 12, 59, 14, 60, 25, 75, 76, 77, 78, 79, 80, 81, 82, 83, 84, 85, 86, 87, 88, 89, 90, 91, 92, 93, 94, 95, 96, 97, 98, 99, 100, 101, 102, 103, 104, 105, 106, 107, 108] (by decide +kernel) (by decide +kernel)
set_option maxRecDepth 20000 in
theorem gX7_seek_X7_spreads : GoodIn wsX7_seek (wsV RX7 142 RX7 yX7_spreads wsX7_spreads) := goodIn_app (goodIn_of _ (by decide +kernel)) ggX7_seek_X7_spreads
set_option maxRecDepth 20000 in
theorem ggX7_seek_X7_compare : GoodIn wsX7_seek wsX7_compare := goodIn_r _ [64, 4, 5, 65, 6, 66, 67, 68, 12, 69, 24, 9, 10, 11, 13, 14, 70, 71, 72, 73, 74, 75, 76, 77, 78, 79, 80, 81, 82, 83, 84, 85, 86, 87, 88, 89, 90, 91, 92, 93, 94, 95, 96, 97, 98, 99, 100, 101, 102, 103, 104, 105, 106, 107, 108] (by decide +kernel) (by decide +kernel)
set_option maxRecDepth 20000 in
theorem gX7_seek_X7_compare : GoodIn wsX7_seek (wsV RX7 179 RX7 yX7_compare wsX7_compare) := goodIn_app (goodIn_of _ (by decide +kernel)) ggX7_seek_X7_compare
theorem dX7_seek_0 : decode cX7_seek 0 = .ok (.iconst 0, 1) := by decide +kernel
theorem dX7_seek_1 : decode cX7_seek 1 = .ok (.istore_n 2, 1) := by decide +kernel
theorem dX7_seek_2 : decode cX7_seek 2 = .ok (.iload_n 2, 1) := by decide +kernel
theorem dX7_seek_3 : decode cX7_seek 3 = .ok (.aload_n 0, 1) := by decide +kernel
theorem dX7_seek_4 : decode cX7_seek 4 = .ok (.invokevirtual 72, 3) := by decide +kernel
theorem dX7_seek_7 : decode cX7_seek 7 = .ok (.if_icmp .gt 20, 3) := by decide +kernel
theorem dX7_seek_10 : decode cX7_seek 10 = .ok (.aload_n 0, 1) := by decide +kernel
theorem dX7_seek_11 : decode cX7_seek 11 = .ok (.getfield 53, 3) := by decide +kernel
theorem dX7_seek_14 : decode cX7_seek 14 = .ok (.iload_n 2, 1) := by decide +kernel
theorem dX7_seek_15 : decode cX7_seek 15 = .ok (.aload_n 0, 1) := by decide +kernel
theorem dX7_seek_16 : decode cX7_seek 16 = .ok (.iload_n 2, 1) := by decide +kernel
theorem dX7_seek_17 : decode cX7_seek 17 = .ok (.invokevirtual 115, 3) := by decide +kernel
theorem dX7_seek_20 : decode cX7_seek 20 = .ok (.iastore, 1) := by decide +kernel
theorem dX7_seek_21 : decode cX7_seek 21 = .ok (.iinc 2 1, 3) := by decide +kernel
theorem dX7_seek_24 : decode cX7_seek 24 = .ok (.goto (-22), 3) := by decide +kernel
theorem dX7_seek_27 : decode cX7_seek 27 = .ok (.aload_n 0, 1) := by decide +kernel
theorem dX7_seek_28 : decode cX7_seek 28 = .ok (.iconst 0, 1) := by decide +kernel
theorem dX7_seek_29 : decode cX7_seek 29 = .ok (.putfield 164, 3) := by decide +kernel
theorem dX7_seek_32 : decode cX7_seek 32 = .ok (.aload_n 0, 1) := by decide +kernel
theorem dX7_seek_33 : decode cX7_seek 33 = .ok (.iconst 0, 1) := by decide +kernel
theorem dX7_seek_34 : decode cX7_seek 34 = .ok (.putfield 167, 3) := by decide +kernel
theorem dX7_seek_37 : decode cX7_seek 37 = .ok (.aload_n 0, 1) := by decide +kernel
theorem dX7_seek_38 : decode cX7_seek 38 = .ok (.iconst (-1), 1) := by decide +kernel
theorem dX7_seek_39 : decode cX7_seek 39 = .ok (.putfield 158, 3) := by decide +kernel
theorem dX7_seek_42 : decode cX7_seek 42 = .ok (.aload_n 0, 1) := by decide +kernel
theorem dX7_seek_43 : decode cX7_seek 43 = .ok (.iconst 0, 1) := by decide +kernel
theorem dX7_seek_44 : decode cX7_seek 44 = .ok (.putfield 161, 3) := by decide +kernel
theorem dX7_seek_47 : decode cX7_seek 47 = .ok (.aload_n 0, 1) := by decide +kernel
theorem dX7_seek_48 : decode cX7_seek 48 = .ok (.iload_n 1, 1) := by decide +kernel
theorem dX7_seek_49 : decode cX7_seek 49 = .ok (.invokevirtual 123, 3) := by decide +kernel
theorem dX7_seek_52 : decode cX7_seek 52 = .ok (.aload_n 0, 1) := by decide +kernel
theorem dX7_seek_53 : decode cX7_seek 53 = .ok (.iconst 1, 1) := by decide +kernel
theorem dX7_seek_54 : decode cX7_seek 54 = .ok (.invokevirtual 133, 3) := by decide +kernel
theorem dX7_seek_57 : decode cX7_seek 57 = .ok (.aload_n 0, 1) := by decide +kernel
theorem dX7_seek_58 : decode cX7_seek 58 = .ok (.iconst 1, 1) := by decide +kernel
theorem dX7_seek_59 : decode cX7_seek 59 = .ok (.invokevirtual 170, 3) := by decide +kernel
theorem dX7_seek_62 : decode cX7_seek 62 = .ok (.iconst 1, 1) := by decide +kernel
theorem dX7_seek_63 : decode cX7_seek 63 = .ok (.istore_n 2, 1) := by decide +kernel
theorem dX7_seek_64 : decode cX7_seek 64 = .ok (.iload_n 2, 1) := by decide +kernel
theorem dX7_seek_65 : decode cX7_seek 65 = .ok (.ifCond .le 168, 3) := by decide +kernel
theorem dX7_seek_68 : decode cX7_seek 68 = .ok (.aload_n 0, 1) := by decide +kernel
theorem dX7_seek_69 : decode cX7_seek 69 = .ok (.getfield 167, 3) := by decide +kernel
theorem dX7_seek_72 : decode cX7_seek 72 = .ok (.ifCond .ne 161, 3) := by decide +kernel
theorem dX7_seek_75 : decode cX7_seek 75 = .ok (.aload_n 0, 1) := by decide +kernel
theorem dX7_seek_76 : decode cX7_seek 76 = .ok (.iload_n 2, 1) := by decide +kernel
theorem dX7_seek_77 : decode cX7_seek 77 = .ok (.invokevirtual 173, 3) := by decide +kernel
theorem dX7_seek_80 : decode cX7_seek 80 = .ok (.aload_n 0, 1) := by decide +kernel
theorem dX7_seek_81 : decode cX7_seek 81 = .ok (.getfield 38, 3) := by decide +kernel
theorem dX7_seek_84 : decode cX7_seek 84 = .ok (.iload_n 2, 1) := by decide +kernel
theorem dX7_seek_85 : decode cX7_seek 85 = .ok (.iaload, 1) := by decide +kernel
theorem dX7_seek_86 : decode cX7_seek 86 = .ok (.aload_n 0, 1) := by decide +kernel
theorem dX7_seek_87 : decode cX7_seek 87 = .ok (.invokevirtual 72, 3) := by decide +kernel
theorem dX7_seek_90 : decode cX7_seek 90 = .ok (.if_icmp .le 14, 3) := by decide +kernel
theorem dX7_seek_93 : decode cX7_seek 93 = .ok (.iinc 2 (-1), 3) := by decide +kernel
theorem dX7_seek_96 : decode cX7_seek 96 = .ok (.aload_n 0, 1) := by decide +kernel
theorem dX7_seek_97 : decode cX7_seek 97 = .ok (.iload_n 2, 1) := by decide +kernel
theorem dX7_seek_98 : decode cX7_seek 98 = .ok (.invokevirtual 176, 3) := by decide +kernel
theorem dX7_seek_101 : decode cX7_seek 101 = .ok (.goto (-37), 3) := by decide +kernel
theorem dX7_seek_104 : decode cX7_seek 104 = .ok (.aload_n 0, 1) := by decide +kernel
theorem dX7_seek_105 : decode cX7_seek 105 = .ok (.getfield 53, 3) := by decide +kernel
theorem dX7_seek_108 : decode cX7_seek 108 = .ok (.aload_n 0, 1) := by decide +kernel
theorem dX7_seek_109 : decode cX7_seek 109 = .ok (.getfield 38, 3) := by decide +kernel
theorem dX7_seek_112 : decode cX7_seek 112 = .ok (.iload_n 2, 1) := by decide +kernel
theorem dX7_seek_113 : decode cX7_seek 113 = .ok (.iaload, 1) := by decide +kernel
theorem dX7_seek_114 : decode cX7_seek 114 = .ok (.iaload, 1) := by decide +kernel
theorem dX7_seek_115 : decode cX7_seek 115 = .ok (.aload_n 0, 1) := by decide +kernel
theorem dX7_seek_116 : decode cX7_seek 116 = .ok (.getfield 109, 3) := by decide +kernel
theorem dX7_seek_119 : decode cX7_seek 119 = .ok (.if_icmp .le 11, 3) := by decide +kernel
theorem dX7_seek_122 : decode cX7_seek 122 = .ok (.aload_n 0, 1) := by decide +kernel
theorem dX7_seek_123 : decode cX7_seek 123 = .ok (.iload_n 2, 1) := by decide +kernel
theorem dX7_seek_124 : decode cX7_seek 124 = .ok (.invokevirtual 176, 3) := by decide +kernel
theorem dX7_seek_127 : decode cX7_seek 127 = .ok (.goto (-63), 3) := by decide +kernel
theorem dX7_seek_130 : decode cX7_seek 130 = .ok (.aload_n 0, 1) := by decide +kernel
theorem dX7_seek_131 : decode cX7_seek 131 = .ok (.getfield 164, 3) := by decide +kernel
theorem dX7_seek_134 : decode cX7_seek 134 = .ok (.aload_n 0, 1) := by decide +kernel
theorem dX7_seek_135 : decode cX7_seek 135 = .ok (.getfield 29, 3) := by decide +kernel
theorem dX7_seek_138 : decode cX7_seek 138 = .ok (.if_icmp .ne 11, 3) := by decide +kernel
theorem dX7_seek_141 : decode cX7_seek 141 = .ok (.aload_n 0, 1) := by decide +kernel
theorem dX7_seek_142 : decode cX7_seek 142 = .ok (.iconst 1, 1) := by decide +kernel
theorem dX7_seek_143 : decode cX7_seek 143 = .ok (.putfield 167, 3) := by decide +kernel
theorem dX7_seek_146 : decode cX7_seek 146 = .ok (.goto (-82), 3) := by decide +kernel
theorem dX7_seek_149 : decode cX7_seek 149 = .ok (.aload_n 0, 1) := by decide +kernel
theorem dX7_seek_150 : decode cX7_seek 150 = .ok (.dup, 1) := by decide +kernel
theorem dX7_seek_151 : decode cX7_seek 151 = .ok (.getfield 164, 3) := by decide +kernel
theorem dX7_seek_154 : decode cX7_seek 154 = .ok (.iconst 1, 1) := by decide +kernel
theorem dX7_seek_155 : decode cX7_seek 155 = .ok (.iadd, 1) := by decide +kernel
theorem dX7_seek_156 : decode cX7_seek 156 = .ok (.putfield 164, 3) := by decide +kernel
theorem dX7_seek_159 : decode cX7_seek 159 = .ok (.aload_n 0, 1) := by decide +kernel
theorem dX7_seek_160 : decode cX7_seek 160 = .ok (.aload_n 0, 1) := by decide +kernel
theorem dX7_seek_161 : decode cX7_seek 161 = .ok (.getfield 38, 3) := by decide +kernel
theorem dX7_seek_164 : decode cX7_seek 164 = .ok (.iload_n 2, 1) := by decide +kernel
theorem dX7_seek_165 : decode cX7_seek 165 = .ok (.iaload, 1) := by decide +kernel
theorem dX7_seek_166 : decode cX7_seek 166 = .ok (.invokevirtual 139, 3) := by decide +kernel
theorem dX7_seek_169 : decode cX7_seek 169 = .ok (.aload_n 0, 1) := by decide +kernel
theorem dX7_seek_170 : decode cX7_seek 170 = .ok (.invokevirtual 142, 3) := by decide +kernel
theorem dX7_seek_173 : decode cX7_seek 173 = .ok (.istore_n 3, 1) := by decide +kernel
theorem dX7_seek_174 : decode cX7_seek 174 = .ok (.iload_n 3, 1) := by decide +kernel
theorem dX7_seek_175 : decode cX7_seek 175 = .ok (.ifCond .eq 25, 3) := by decide +kernel
theorem dX7_seek_178 : decode cX7_seek 178 = .ok (.iload_n 2, 1) := by decide +kernel
theorem dX7_seek_179 : decode cX7_seek 179 = .ok (.bipush 8, 2) := by decide +kernel
theorem dX7_seek_181 : decode cX7_seek 181 = .ok (.if_icmp .ge 19, 3) := by decide +kernel
theorem dX7_seek_184 : decode cX7_seek 184 = .ok (.iinc 2 1, 3) := by decide +kernel
theorem dX7_seek_187 : decode cX7_seek 187 = .ok (.aload_n 0, 1) := by decide +kernel
theorem dX7_seek_188 : decode cX7_seek 188 = .ok (.iload_n 2, 1) := by decide +kernel
theorem dX7_seek_189 : decode cX7_seek 189 = .ok (.invokevirtual 133, 3) := by decide +kernel
theorem dX7_seek_192 : decode cX7_seek 192 = .ok (.aload_n 0, 1) := by decide +kernel
theorem dX7_seek_193 : decode cX7_seek 193 = .ok (.iload_n 2, 1) := by decide +kernel
theorem dX7_seek_194 : decode cX7_seek 194 = .ok (.invokevirtual 170, 3) := by decide +kernel
theorem dX7_seek_197 : decode cX7_seek 197 = .ok (.goto 33, 3) := by decide +kernel
theorem dX7_seek_200 : decode cX7_seek 200 = .ok (.iload_n 2, 1) := by decide +kernel
theorem dX7_seek_201 : decode cX7_seek 201 = .ok (.istore 4, 2) := by decide +kernel
theorem dX7_seek_203 : decode cX7_seek 203 = .ok (.iload_n 3, 1) := by decide +kernel
theorem dX7_seek_204 : decode cX7_seek 204 = .ok (.ifCond .eq 14, 3) := by decide +kernel
theorem dX7_seek_207 : decode cX7_seek 207 = .ok (.iinc 4 1, 3) := by decide +kernel
theorem dX7_seek_210 : decode cX7_seek 210 = .ok (.aload_n 0, 1) := by decide +kernel
theorem dX7_seek_211 : decode cX7_seek 211 = .ok (.invokevirtual 142, 3) := by decide +kernel
theorem dX7_seek_214 : decode cX7_seek 214 = .ok (.istore_n 3, 1) := by decide +kernel
theorem dX7_seek_215 : decode cX7_seek 215 = .ok (.goto (-12), 3) := by decide +kernel
theorem dX7_seek_218 : decode cX7_seek 218 = .ok (.aload_n 0, 1) := by decide +kernel
theorem dX7_seek_219 : decode cX7_seek 219 = .ok (.iload 4, 2) := by decide +kernel
theorem dX7_seek_221 : decode cX7_seek 221 = .ok (.iload_n 2, 1) := by decide +kernel
theorem dX7_seek_222 : decode cX7_seek 222 = .ok (.invokevirtual 179, 3) := by decide +kernel
theorem dX7_seek_225 : decode cX7_seek 225 = .ok (.aload_n 0, 1) := by decide +kernel
theorem dX7_seek_226 : decode cX7_seek 226 = .ok (.iload_n 2, 1) := by decide +kernel
theorem dX7_seek_227 : decode cX7_seek 227 = .ok (.invokevirtual 176, 3) := by decide +kernel
theorem dX7_seek_230 : decode cX7_seek 230 = .ok (.goto (-166), 3) := by decide +kernel
theorem dX7_seek_233 : decode cX7_seek 233 = .ok (.return_, 1) := by decide +kernel
set_option maxRecDepth 20000 in
theorem ggX7_best_X7_isFire : GoodIn wsX7_best wsX7_isFire := goodIn_r _ [11, 12, 13, 14, 10, 15, 16, 17, 18, 19, 87, 88, 89, 90, 91, 92, 93, 94, 95, 96, 97, 98, 99, 100, 101, 102, 103, 104, 105, 106, 107, 108, 109, 110, 111, 112, 113, 114, 115, 116, 117, 118, 119, 120] (by decide +kernel) (by decide +kernel)
set_option maxRecDepth 20000 in
theorem gX7_best_X7_isFire : GoodIn wsX7_best (wsV RX7 146 RX7 yX7_isFire wsX7_isFire) := goodIn_app (goodIn_of _ (by decide +kernel)) ggX7_best_X7_isFire
set_option maxRecDepth 20000 in
theorem ggX7_best_X7_in : GoodIn wsX7_best wsX7_in := goodIn_r _ [19] (by decide +kernel) (by decide +kernel)
set_option maxRecDepth 20000 in
theorem gX7_best_X7_in : GoodIn wsX7_best (va_wsS RX7 68 yX7_in wsX7_in) := goodIn_app (goodIn_of _ (by decide +kernel)) ggX7_best_X7_in
set_option maxRecDepth 20000 in
theorem ggX7_best_X7_seek : GoodIn wsX7_best wsX7_seek := goodIn_r _ [23, 24, 3, 4, 2, 5, 25, 26, 27, 12, 13, 14, 10, 15, 16, 28, 29, 30, 31, 32, 33, 34, 35, 36, 37, 38, 39, 40, 41, 42, 43, 44, 45, 46, 47, 48, 49, 50, 51, 52, 53, 54, 55, 56, 57, 58, 59, 60, 61, 62, 63, 64, 65, 66, 67, 68, 69, 70, 71, 72, 73, 74, 75, 76, 77, 6, 78, 79, 80, 81, 82, 83, 84, 85, 86, 87, 88, 89, 90, 91, 92, 93, 94, 95, 96, 97, 98, 99, 100, 101, 102, 103, 104, 105, 106, 107, 108, 109, 110, 111, 112, 113, 114, 115, 116, 117, 118, 119, 120] (by decide +kernel) (by decide +kernel)
set_option maxRecDepth 20000 in
theorem gX7_best_X7_seek : GoodIn wsX7_best (wsV RX7 184 RX7 yX7_seek wsX7_seek) := goodIn_app (goodIn_of _ (by decide +kernel)) ggX7_best_X7_seek
theorem dX7_best_0 : decode cX7_best 0 = .ok (.aload_n 0, 1) := by decide +kernel
theorem dX7_best_1 : decode cX7_best 1 = .ok (.iload_n 1, 1) := by decide +kernel
theorem dX7_best_2 : decode cX7_best 2 = .ok (.invokevirtual 146, 3) := by decide +kernel
theorem dX7_best_5 : decode cX7_best 5 = .ok (.ifCond .eq 15, 3) := by decide +kernel
theorem dX7_best_8 : decode cX7_best 8 = .ok (.iload_n 2, 1) := by decide +kernel
theorem dX7_best_9 : decode cX7_best 9 = .ok (.i2l, 1) := by decide +kernel
theorem dX7_best_10 : decode cX7_best 10 = .ok (.lconst 0, 1) := by decide +kernel
theorem dX7_best_11 : decode cX7_best 11 = .ok (.ldc2_w 182, 3) := by decide +kernel
theorem dX7_best_14 : decode cX7_best 14 = .ok (.invokestatic 68, 3) := by decide +kernel
theorem dX7_best_17 : decode cX7_best 17 = .ok (.ifCond .ne 7, 3) := by decide +kernel
theorem dX7_best_20 : decode cX7_best 20 = .ok (.sipush (-1002), 3) := by decide +kernel
theorem dX7_best_23 : decode cX7_best 23 = .ok (.ireturn, 1) := by decide +kernel
theorem dX7_best_24 : decode cX7_best 24 = .ok (.aload_n 0, 1) := by decide +kernel
theorem dX7_best_25 : decode cX7_best 25 = .ok (.iload_n 1, 1) := by decide +kernel
theorem dX7_best_26 : decode cX7_best 26 = .ok (.invokevirtual 184, 3) := by decide +kernel
theorem dX7_best_29 : decode cX7_best 29 = .ok (.iload_n 2, 1) := by decide +kernel
theorem dX7_best_30 : decode cX7_best 30 = .ok (.ifCond .ne 10, 3) := by decide +kernel
theorem dX7_best_33 : decode cX7_best 33 = .ok (.aload_n 0, 1) := by decide +kernel
theorem dX7_best_34 : decode cX7_best 34 = .ok (.getfield 158, 3) := by decide +kernel
theorem dX7_best_37 : decode cX7_best 37 = .ok (.goto 55, 3) := by decide +kernel
theorem dX7_best_40 : decode cX7_best 40 = .ok (.iload_n 2, 1) := by decide +kernel
theorem dX7_best_41 : decode cX7_best 41 = .ok (.iconst 1, 1) := by decide +kernel
theorem dX7_best_42 : decode cX7_best 42 = .ok (.if_icmp .ne 10, 3) := by decide +kernel
theorem dX7_best_45 : decode cX7_best 45 = .ok (.aload_n 0, 1) := by decide +kernel
theorem dX7_best_46 : decode cX7_best 46 = .ok (.getfield 164, 3) := by decide +kernel
theorem dX7_best_49 : decode cX7_best 49 = .ok (.goto 43, 3) := by decide +kernel
theorem dX7_best_52 : decode cX7_best 52 = .ok (.iload_n 2, 1) := by decide +kernel
theorem dX7_best_53 : decode cX7_best 53 = .ok (.iconst 2, 1) := by decide +kernel
theorem dX7_best_54 : decode cX7_best 54 = .ok (.if_icmp .ne 18, 3) := by decide +kernel
theorem dX7_best_57 : decode cX7_best 57 = .ok (.aload_n 0, 1) := by decide +kernel
theorem dX7_best_58 : decode cX7_best 58 = .ok (.getfield 167, 3) := by decide +kernel
theorem dX7_best_61 : decode cX7_best 61 = .ok (.ifCond .eq 7, 3) := by decide +kernel
theorem dX7_best_64 : decode cX7_best 64 = .ok (.iconst 1, 1) := by decide +kernel
theorem dX7_best_65 : decode cX7_best 65 = .ok (.goto 27, 3) := by decide +kernel
theorem dX7_best_68 : decode cX7_best 68 = .ok (.iconst 0, 1) := by decide +kernel
theorem dX7_best_69 : decode cX7_best 69 = .ok (.goto 23, 3) := by decide +kernel
theorem dX7_best_72 : decode cX7_best 72 = .ok (.iload_n 2, 1) := by decide +kernel
theorem dX7_best_73 : decode cX7_best 73 = .ok (.iconst 3, 1) := by decide +kernel
theorem dX7_best_74 : decode cX7_best 74 = .ok (.if_icmp .ne 10, 3) := by decide +kernel
theorem dX7_best_77 : decode cX7_best 77 = .ok (.aload_n 0, 1) := by decide +kernel
theorem dX7_best_78 : decode cX7_best 78 = .ok (.getfield 161, 3) := by decide +kernel
theorem dX7_best_81 : decode cX7_best 81 = .ok (.goto 11, 3) := by decide +kernel
theorem dX7_best_84 : decode cX7_best 84 = .ok (.aload_n 0, 1) := by decide +kernel
theorem dX7_best_85 : decode cX7_best 85 = .ok (.getfield 50, 3) := by decide +kernel
theorem dX7_best_88 : decode cX7_best 88 = .ok (.iload_n 2, 1) := by decide +kernel
theorem dX7_best_89 : decode cX7_best 89 = .ok (.iconst 3, 1) := by decide +kernel
theorem dX7_best_90 : decode cX7_best 90 = .ok (.isub, 1) := by decide +kernel
theorem dX7_best_91 : decode cX7_best 91 = .ok (.iaload, 1) := by decide +kernel
theorem dX7_best_92 : decode cX7_best 92 = .ok (.ireturn, 1) := by decide +kernel
set_option maxRecDepth 20000 in
theorem ggX7_take_X7_isFire : GoodIn wsX7_take wsX7_isFire := goodIn_r _ [8, 9, 10, 11, 7, 12, 13, 14, 15, 16, 87, 88, 89, 90, 91, 92, 93, 94, 95, 96, 97, 98, 99, 100, 101, 102, 103, 104, 105, 106, 107, 108, 109, 110, 111, 112, 113, 114, 115, 116, 117, 118, 119, 120] (by decide +kernel) (by decide +kernel)
set_option maxRecDepth 20000 in
theorem gX7_take_X7_isFire : GoodIn wsX7_take (wsV RX7 146 RX7 yX7_isFire wsX7_isFire) := goodIn_app (goodIn_of _ (by decide +kernel)) ggX7_take_X7_isFire
set_option maxRecDepth 20000 in
theorem ggX7_take_X7_seek : GoodIn wsX7_take wsX7_seek := goodIn_r _ [20, 21, 22, 23, 3, 24, 25, 26, 27, 9, 10, 11, 7, 12, 13, 28, 29, 30, 31, 32, 33, 34, 35, 36, 37, 38, 39, 40, 41, 42, 43, 44, 45, 46, 47, 48, 49, 50, 51, 52, 53, 54, 55, 56, 57, 58, 59, 60, 61, 62, 63, 64, 65, 66, 67, 68, 69, 70, 71, 72, 73, 74, 75, 76, 77, 2, 78, 79, 80, 81, 82, 83, 84, 85, 86, 87, 88, 89, 90, 91, 92, 93, 94, 95, 96, 97, 98, 99, 100, 101, 102, 103, 104, 105, 106, 107, 108, 109, 110, 111, 112, 113, 114, 115, 116, 117, 118, 119, 120] (by decide +kernel) (by decide +kernel)
set_option maxRecDepth 20000 in
theorem gX7_take_X7_seek : GoodIn wsX7_take (wsV RX7 184 RX7 yX7_seek wsX7_seek) := goodIn_app (goodIn_of _ (by decide +kernel)) ggX7_take_X7_seek
theorem dX7_take_0 : decode cX7_take 0 = .ok (.aload_n 0, 1) := by decide +kernel
theorem dX7_take_1 : decode cX7_take 1 = .ok (.iload_n 1, 1) := by decide +kernel
theorem dX7_take_2 : decode cX7_take 2 = .ok (.invokevirtual 146, 3) := by decide +kernel
theorem dX7_take_5 : decode cX7_take 5 = .ok (.ifCond .ne 7, 3) := by decide +kernel
theorem dX7_take_8 : decode cX7_take 8 = .ok (.sipush (-1002), 3) := by decide +kernel
theorem dX7_take_11 : decode cX7_take 11 = .ok (.ireturn, 1) := by decide +kernel
theorem dX7_take_12 : decode cX7_take 12 = .ok (.aload_n 0, 1) := by decide +kernel
theorem dX7_take_13 : decode cX7_take 13 = .ok (.iload_n 1, 1) := by decide +kernel
theorem dX7_take_14 : decode cX7_take 14 = .ok (.invokevirtual 184, 3) := by decide +kernel
theorem dX7_take_17 : decode cX7_take 17 = .ok (.iconst 1, 1) := by decide +kernel
theorem dX7_take_18 : decode cX7_take 18 = .ok (.istore_n 2, 1) := by decide +kernel
theorem dX7_take_19 : decode cX7_take 19 = .ok (.iload_n 2, 1) := by decide +kernel
theorem dX7_take_20 : decode cX7_take 20 = .ok (.bipush 8, 2) := by decide +kernel
theorem dX7_take_22 : decode cX7_take 22 = .ok (.if_icmp .gt 21, 3) := by decide +kernel
theorem dX7_take_25 : decode cX7_take 25 = .ok (.aload_n 0, 1) := by decide +kernel
theorem dX7_take_26 : decode cX7_take 26 = .ok (.getfield 32, 3) := by decide +kernel
theorem dX7_take_29 : decode cX7_take 29 = .ok (.iload_n 2, 1) := by decide +kernel
theorem dX7_take_30 : decode cX7_take 30 = .ok (.aload_n 0, 1) := by decide +kernel
theorem dX7_take_31 : decode cX7_take 31 = .ok (.getfield 50, 3) := by decide +kernel
theorem dX7_take_34 : decode cX7_take 34 = .ok (.iload_n 2, 1) := by decide +kernel
theorem dX7_take_35 : decode cX7_take 35 = .ok (.iaload, 1) := by decide +kernel
theorem dX7_take_36 : decode cX7_take 36 = .ok (.iastore, 1) := by decide +kernel
theorem dX7_take_37 : decode cX7_take 37 = .ok (.iinc 2 1, 3) := by decide +kernel
theorem dX7_take_40 : decode cX7_take 40 = .ok (.goto (-21), 3) := by decide +kernel
theorem dX7_take_43 : decode cX7_take 43 = .ok (.aload_n 0, 1) := by decide +kernel
theorem dX7_take_44 : decode cX7_take 44 = .ok (.getfield 158, 3) := by decide +kernel
theorem dX7_take_47 : decode cX7_take 47 = .ok (.ireturn, 1) := by decide +kernel
set_option maxRecDepth 20000 in
theorem ggX7_least_X7_isFire : GoodIn wsX7_least wsX7_isFire := goodIn_r _ [9, 10, 11, 12, 8, 13, 14, 15, 16, 17, 88, 89, 90, 91, 92, 93, 94, 95, 96, 97, 98, 99, 100, 101, 102, 103, 104, 105, 106, 107, 108, 109, 110, 111, 112, 113, 114, 115, 116, 117, 118, 119, 120, 121] (by decide +kernel) (by decide +kernel)
set_option maxRecDepth 20000 in
theorem gX7_least_X7_isFire : GoodIn wsX7_least (wsV RX7 146 RX7 yX7_isFire wsX7_isFire) := goodIn_app (goodIn_of _ (by decide +kernel)) ggX7_least_X7_isFire
set_option maxRecDepth 20000 in
theorem ggX7_least_X7_in : GoodIn wsX7_least wsX7_in := goodIn_r _ [17] (by decide +kernel) (by decide +kernel)
set_option maxRecDepth 20000 in
theorem gX7_least_X7_in : GoodIn wsX7_least (va_wsS RX7 68 yX7_in wsX7_in) := goodIn_app (goodIn_of _ (by decide +kernel)) ggX7_least_X7_in
set_option maxRecDepth 20000 in
theorem ggX7_least_X7_seek : GoodIn wsX7_least wsX7_seek := goodIn_r _ [21, 22, 23, 24, 4, 25, 26, 27, 28, 10, 11, 12, 8, 13, 14, 29, 30, 31, 32, 33, 34, 35, 36, 37, 38, 39, 40, 41, 42, 43, 44, 45, 3, 46, 47, 48, 49, 50, 51, 52, 53, 54, 55, 56, 57, 58, 59, 60, 61, 62, 63, 64, 65, 66, 67, 68, 69, 70, 71, 72, 73, 74, 75, 76, 77, 78, 79, 80, 81, 82, 83, 84, 85, 86, 87, 88, 89, 90, 91, 92, 93, 94, 95, 96, 97, 98, 99, 100, 101, 102, 103, 104, 105, 106, 107, 108, 109, 110, 111, 112, 113, 114, 115, 116, 117, 118, 119, 120, 121] (by decide +kernel) (by decide +kernel)
set_option maxRecDepth 20000 in
theorem gX7_least_X7_seek : GoodIn wsX7_least (wsV RX7 184 RX7 yX7_seek wsX7_seek) := goodIn_app (goodIn_of _ (by decide +kernel)) ggX7_least_X7_seek
theorem dX7_least_0 : decode cX7_least 0 = .ok (.aload_n 0, 1) := by decide +kernel
theorem dX7_least_1 : decode cX7_least 1 = .ok (.iload_n 1, 1) := by decide +kernel
theorem dX7_least_2 : decode cX7_least 2 = .ok (.invokevirtual 146, 3) := by decide +kernel
theorem dX7_least_5 : decode cX7_least 5 = .ok (.ifCond .eq 15, 3) := by decide +kernel
theorem dX7_least_8 : decode cX7_least 8 = .ok (.iload_n 2, 1) := by decide +kernel
theorem dX7_least_9 : decode cX7_least 9 = .ok (.i2l, 1) := by decide +kernel
theorem dX7_least_10 : decode cX7_least 10 = .ok (.lconst 0, 1) := by decide +kernel
theorem dX7_least_11 : decode cX7_least 11 = .ok (.ldc2_w 187, 3) := by decide +kernel
theorem dX7_least_14 : decode cX7_least 14 = .ok (.invokestatic 68, 3) := by decide +kernel
theorem dX7_least_17 : decode cX7_least 17 = .ok (.ifCond .ne 7, 3) := by decide +kernel
theorem dX7_least_20 : decode cX7_least 20 = .ok (.sipush (-1002), 3) := by decide +kernel
theorem dX7_least_23 : decode cX7_least 23 = .ok (.ireturn, 1) := by decide +kernel
theorem dX7_least_24 : decode cX7_least 24 = .ok (.iconst 0, 1) := by decide +kernel
theorem dX7_least_25 : decode cX7_least 25 = .ok (.istore_n 3, 1) := by decide +kernel
theorem dX7_least_26 : decode cX7_least 26 = .ok (.iload_n 3, 1) := by decide +kernel
theorem dX7_least_27 : decode cX7_least 27 = .ok (.bipush 9, 2) := by decide +kernel
theorem dX7_least_29 : decode cX7_least 29 = .ok (.if_icmp .ge 21, 3) := by decide +kernel
theorem dX7_least_32 : decode cX7_least 32 = .ok (.aload_n 0, 1) := by decide +kernel
theorem dX7_least_33 : decode cX7_least 33 = .ok (.getfield 56, 3) := by decide +kernel
theorem dX7_least_36 : decode cX7_least 36 = .ok (.iload_n 3, 1) := by decide +kernel
theorem dX7_least_37 : decode cX7_least 37 = .ok (.aload_n 0, 1) := by decide +kernel
theorem dX7_least_38 : decode cX7_least 38 = .ok (.getfield 26, 3) := by decide +kernel
theorem dX7_least_41 : decode cX7_least 41 = .ok (.iload_n 3, 1) := by decide +kernel
theorem dX7_least_42 : decode cX7_least 42 = .ok (.iaload, 1) := by decide +kernel
theorem dX7_least_43 : decode cX7_least 43 = .ok (.iastore, 1) := by decide +kernel
theorem dX7_least_44 : decode cX7_least 44 = .ok (.iinc 3 1, 3) := by decide +kernel
theorem dX7_least_47 : decode cX7_least 47 = .ok (.goto (-21), 3) := by decide +kernel
theorem dX7_least_50 : decode cX7_least 50 = .ok (.iconst (-1), 1) := by decide +kernel
theorem dX7_least_51 : decode cX7_least 51 = .ok (.istore_n 3, 1) := by decide +kernel
theorem dX7_least_52 : decode cX7_least 52 = .ok (.iconst 0, 1) := by decide +kernel
theorem dX7_least_53 : decode cX7_least 53 = .ok (.istore 4, 2) := by decide +kernel
theorem dX7_least_55 : decode cX7_least 55 = .ok (.iload 4, 2) := by decide +kernel
theorem dX7_least_57 : decode cX7_least 57 = .ok (.bipush 20, 2) := by decide +kernel
theorem dX7_least_59 : decode cX7_least 59 = .ok (.if_icmp .gt 58, 3) := by decide +kernel
theorem dX7_least_62 : decode cX7_least 62 = .ok (.iload_n 3, 1) := by decide +kernel
theorem dX7_least_63 : decode cX7_least 63 = .ok (.ifCond .ge 54, 3) := by decide +kernel
theorem dX7_least_66 : decode cX7_least 66 = .ok (.iconst 1, 1) := by decide +kernel
theorem dX7_least_67 : decode cX7_least 67 = .ok (.istore 5, 2) := by decide +kernel
theorem dX7_least_69 : decode cX7_least 69 = .ok (.iload 5, 2) := by decide +kernel
theorem dX7_least_71 : decode cX7_least 71 = .ok (.bipush 8, 2) := by decide +kernel
theorem dX7_least_73 : decode cX7_least 73 = .ok (.if_icmp .gt 18, 3) := by decide +kernel
theorem dX7_least_76 : decode cX7_least 76 = .ok (.aload_n 0, 1) := by decide +kernel
theorem dX7_least_77 : decode cX7_least 77 = .ok (.getfield 26, 3) := by decide +kernel
theorem dX7_least_80 : decode cX7_least 80 = .ok (.iload 5, 2) := by decide +kernel
theorem dX7_least_82 : decode cX7_least 82 = .ok (.iload 4, 2) := by decide +kernel
theorem dX7_least_84 : decode cX7_least 84 = .ok (.iastore, 1) := by decide +kernel
theorem dX7_least_85 : decode cX7_least 85 = .ok (.iinc 5 1, 3) := by decide +kernel
theorem dX7_least_88 : decode cX7_least 88 = .ok (.goto (-19), 3) := by decide +kernel
theorem dX7_least_91 : decode cX7_least 91 = .ok (.aload_n 0, 1) := by decide +kernel
theorem dX7_least_92 : decode cX7_least 92 = .ok (.iload_n 1, 1) := by decide +kernel
theorem dX7_least_93 : decode cX7_least 93 = .ok (.invokevirtual 184, 3) := by decide +kernel
theorem dX7_least_96 : decode cX7_least 96 = .ok (.aload_n 0, 1) := by decide +kernel
theorem dX7_least_97 : decode cX7_least 97 = .ok (.getfield 158, 3) := by decide +kernel
theorem dX7_least_100 : decode cX7_least 100 = .ok (.iload_n 2, 1) := by decide +kernel
theorem dX7_least_101 : decode cX7_least 101 = .ok (.if_icmp .lt 8, 3) := by decide +kernel
theorem dX7_least_104 : decode cX7_least 104 = .ok (.iload 4, 2) := by decide +kernel
theorem dX7_least_106 : decode cX7_least 106 = .ok (.goto 4, 3) := by decide +kernel
theorem dX7_least_109 : decode cX7_least 109 = .ok (.iconst (-1), 1) := by decide +kernel
theorem dX7_least_110 : decode cX7_least 110 = .ok (.istore_n 3, 1) := by decide +kernel
theorem dX7_least_111 : decode cX7_least 111 = .ok (.iinc 4 1, 3) := by decide +kernel
theorem dX7_least_114 : decode cX7_least 114 = .ok (.goto (-59), 3) := by decide +kernel
theorem dX7_least_117 : decode cX7_least 117 = .ok (.iconst 0, 1) := by decide +kernel
theorem dX7_least_118 : decode cX7_least 118 = .ok (.istore 4, 2) := by decide +kernel
theorem dX7_least_120 : decode cX7_least 120 = .ok (.iload 4, 2) := by decide +kernel
theorem dX7_least_122 : decode cX7_least 122 = .ok (.bipush 9, 2) := by decide +kernel
theorem dX7_least_124 : decode cX7_least 124 = .ok (.if_icmp .ge 23, 3) := by decide +kernel
theorem dX7_least_127 : decode cX7_least 127 = .ok (.aload_n 0, 1) := by decide +kernel
theorem dX7_least_128 : decode cX7_least 128 = .ok (.getfield 26, 3) := by decide +kernel
theorem dX7_least_131 : decode cX7_least 131 = .ok (.iload 4, 2) := by decide +kernel
theorem dX7_least_133 : decode cX7_least 133 = .ok (.aload_n 0, 1) := by decide +kernel
theorem dX7_least_134 : decode cX7_least 134 = .ok (.getfield 56, 3) := by decide +kernel
theorem dX7_least_137 : decode cX7_least 137 = .ok (.iload 4, 2) := by decide +kernel
theorem dX7_least_139 : decode cX7_least 139 = .ok (.iaload, 1) := by decide +kernel
theorem dX7_least_140 : decode cX7_least 140 = .ok (.iastore, 1) := by decide +kernel
theorem dX7_least_141 : decode cX7_least 141 = .ok (.iinc 4 1, 3) := by decide +kernel
theorem dX7_least_144 : decode cX7_least 144 = .ok (.goto (-24), 3) := by decide +kernel
theorem dX7_least_147 : decode cX7_least 147 = .ok (.iload_n 3, 1) := by decide +kernel
theorem dX7_least_148 : decode cX7_least 148 = .ok (.ireturn, 1) := by decide +kernel
theorem dX7_bits_0 : decode cX7_bits 0 = .ok (.iconst 0, 1) := by decide +kernel
theorem dX7_bits_1 : decode cX7_bits 1 = .ok (.istore_n 1, 1) := by decide +kernel
theorem dX7_bits_2 : decode cX7_bits 2 = .ok (.iconst 0, 1) := by decide +kernel
theorem dX7_bits_3 : decode cX7_bits 3 = .ok (.istore_n 2, 1) := by decide +kernel
theorem dX7_bits_4 : decode cX7_bits 4 = .ok (.iload_n 2, 1) := by decide +kernel
theorem dX7_bits_5 : decode cX7_bits 5 = .ok (.bipush 10, 2) := by decide +kernel
theorem dX7_bits_7 : decode cX7_bits 7 = .ok (.if_icmp .ge 17, 3) := by decide +kernel
theorem dX7_bits_10 : decode cX7_bits 10 = .ok (.iload_n 1, 1) := by decide +kernel
theorem dX7_bits_11 : decode cX7_bits 11 = .ok (.iload_n 0, 1) := by decide +kernel
theorem dX7_bits_12 : decode cX7_bits 12 = .ok (.iload_n 2, 1) := by decide +kernel
theorem dX7_bits_13 : decode cX7_bits 13 = .ok (.ishr, 1) := by decide +kernel
theorem dX7_bits_14 : decode cX7_bits 14 = .ok (.iconst 1, 1) := by decide +kernel
theorem dX7_bits_15 : decode cX7_bits 15 = .ok (.iand, 1) := by decide +kernel
theorem dX7_bits_16 : decode cX7_bits 16 = .ok (.iadd, 1) := by decide +kernel
theorem dX7_bits_17 : decode cX7_bits 17 = .ok (.istore_n 1, 1) := by decide +kernel
theorem dX7_bits_18 : decode cX7_bits 18 = .ok (.iinc 2 1, 3) := by decide +kernel
theorem dX7_bits_21 : decode cX7_bits 21 = .ok (.goto (-17), 3) := by decide +kernel
theorem dX7_bits_24 : decode cX7_bits 24 = .ok (.iload_n 1, 1) := by decide +kernel
theorem dX7_bits_25 : decode cX7_bits 25 = .ok (.ireturn, 1) := by decide +kernel
set_option maxRecDepth 20000 in
theorem ggX7_next_X7_near : GoodIn wsX7_next wsX7_near := goodIn_r _ [12, 1, 6, 5, 7, 16, 17, 18, 19, 20, 21, 22, 23, 24, 25, 26, 27, 28, 29, 30, 31, 32, 33, 34, 35, 36, 37, 38, 39, 40, 41, 42, 43, 44, 45, 46, 47, 48, 49] (by decide +kernel) (by decide +kernel)
set_option maxRecDepth 20000 in
theorem gX7_next_X7_near : GoodIn wsX7_next (wsV RX7 118 RX7 yX7_near wsX7_near) := goodIn_app (goodIn_of _ (by decide +kernel)) ggX7_next_X7_near
set_option maxRecDepth 20000 in
theorem ggX7_next_X7_bits : GoodIn wsX7_next wsX7_bits := goodIn_r _ [15] (by decide +kernel) (by decide +kernel)
set_option maxRecDepth 20000 in
theorem gX7_next_X7_bits : GoodIn wsX7_next (va_wsS RX7 189 yX7_bits wsX7_bits) := goodIn_app (goodIn_of _ (by decide +kernel)) ggX7_next_X7_bits
theorem dX7_next_0 : decode cX7_next 0 = .ok (.iconst (-1), 1) := by decide +kernel
theorem dX7_next_1 : decode cX7_next 1 = .ok (.istore_n 2, 1) := by decide +kernel
theorem dX7_next_2 : decode cX7_next 2 = .ok (.iconst (-1), 1) := by decide +kernel
theorem dX7_next_3 : decode cX7_next 3 = .ok (.istore_n 3, 1) := by decide +kernel
theorem dX7_next_4 : decode cX7_next 4 = .ok (.iconst 0, 1) := by decide +kernel
theorem dX7_next_5 : decode cX7_next 5 = .ok (.istore 4, 2) := by decide +kernel
theorem dX7_next_7 : decode cX7_next 7 = .ok (.iload 4, 2) := by decide +kernel
theorem dX7_next_9 : decode cX7_next 9 = .ok (.aload_n 0, 1) := by decide +kernel
theorem dX7_next_10 : decode cX7_next 10 = .ok (.getfield 7, 3) := by decide +kernel
theorem dX7_next_13 : decode cX7_next 13 = .ok (.if_icmp .ge 111, 3) := by decide +kernel
theorem dX7_next_16 : decode cX7_next 16 = .ok (.aload_n 0, 1) := by decide +kernel
theorem dX7_next_17 : decode cX7_next 17 = .ok (.invokevirtual 118, 3) := by decide +kernel
theorem dX7_next_20 : decode cX7_next 20 = .ok (.iload 4, 2) := by decide +kernel
theorem dX7_next_22 : decode cX7_next 22 = .ok (.ishr, 1) := by decide +kernel
theorem dX7_next_23 : decode cX7_next 23 = .ok (.iconst 1, 1) := by decide +kernel
theorem dX7_next_24 : decode cX7_next 24 = .ok (.iand, 1) := by decide +kernel
theorem dX7_next_25 : decode cX7_next 25 = .ok (.iconst 1, 1) := by decide +kernel
theorem dX7_next_26 : decode cX7_next 26 = .ok (.if_icmp .ne 92, 3) := by decide +kernel
theorem dX7_next_29 : decode cX7_next 29 = .ok (.aload_n 0, 1) := by decide +kernel
theorem dX7_next_30 : decode cX7_next 30 = .ok (.getfield 23, 3) := by decide +kernel
theorem dX7_next_33 : decode cX7_next 33 = .ok (.iload 4, 2) := by decide +kernel
theorem dX7_next_35 : decode cX7_next 35 = .ok (.iaload, 1) := by decide +kernel
theorem dX7_next_36 : decode cX7_next 36 = .ok (.aload_n 0, 1) := by decide +kernel
theorem dX7_next_37 : decode cX7_next 37 = .ok (.getfield 109, 3) := by decide +kernel
theorem dX7_next_40 : decode cX7_next 40 = .ok (.if_icmp .gt 78, 3) := by decide +kernel
theorem dX7_next_43 : decode cX7_next 43 = .ok (.iload_n 1, 1) := by decide +kernel
theorem dX7_next_44 : decode cX7_next 44 = .ok (.ifCond .ne 7, 3) := by decide +kernel
theorem dX7_next_47 : decode cX7_next 47 = .ok (.iconst 0, 1) := by decide +kernel
theorem dX7_next_48 : decode cX7_next 48 = .ok (.goto 42, 3) := by decide +kernel
theorem dX7_next_51 : decode cX7_next 51 = .ok (.iload_n 1, 1) := by decide +kernel
theorem dX7_next_52 : decode cX7_next 52 = .ok (.iconst 1, 1) := by decide +kernel
theorem dX7_next_53 : decode cX7_next 53 = .ok (.if_icmp .ne 13, 3) := by decide +kernel
theorem dX7_next_56 : decode cX7_next 56 = .ok (.aload_n 0, 1) := by decide +kernel
theorem dX7_next_57 : decode cX7_next 57 = .ok (.getfield 20, 3) := by decide +kernel
theorem dX7_next_60 : decode cX7_next 60 = .ok (.iload 4, 2) := by decide +kernel
theorem dX7_next_62 : decode cX7_next 62 = .ok (.iaload, 1) := by decide +kernel
theorem dX7_next_63 : decode cX7_next 63 = .ok (.goto 27, 3) := by decide +kernel
theorem dX7_next_66 : decode cX7_next 66 = .ok (.aload_n 0, 1) := by decide +kernel
theorem dX7_next_67 : decode cX7_next 67 = .ok (.getfield 17, 3) := by decide +kernel
theorem dX7_next_70 : decode cX7_next 70 = .ok (.iload 4, 2) := by decide +kernel
theorem dX7_next_72 : decode cX7_next 72 = .ok (.iaload, 1) := by decide +kernel
theorem dX7_next_73 : decode cX7_next 73 = .ok (.aload_n 0, 1) := by decide +kernel
theorem dX7_next_74 : decode cX7_next 74 = .ok (.getfield 103, 3) := by decide +kernel
theorem dX7_next_77 : decode cX7_next 77 = .ok (.iconst (-1), 1) := by decide +kernel
theorem dX7_next_78 : decode cX7_next 78 = .ok (.ixor, 1) := by decide +kernel
theorem dX7_next_79 : decode cX7_next 79 = .ok (.iand, 1) := by decide +kernel
theorem dX7_next_80 : decode cX7_next 80 = .ok (.aload_n 0, 1) := by decide +kernel
theorem dX7_next_81 : decode cX7_next 81 = .ok (.getfield 106, 3) := by decide +kernel
theorem dX7_next_84 : decode cX7_next 84 = .ok (.iconst (-1), 1) := by decide +kernel
theorem dX7_next_85 : decode cX7_next 85 = .ok (.ixor, 1) := by decide +kernel
theorem dX7_next_86 : decode cX7_next 86 = .ok (.iand, 1) := by decide +kernel
theorem dX7_next_87 : decode cX7_next 87 = .ok (.invokestatic 189, 3) := by decide +kernel
theorem dX7_next_90 : decode cX7_next 90 = .ok (.istore 5, 2) := by decide +kernel
theorem dX7_next_92 : decode cX7_next 92 = .ok (.iload 5, 2) := by decide +kernel
theorem dX7_next_94 : decode cX7_next 94 = .ok (.iload_n 3, 1) := by decide +kernel
theorem dX7_next_95 : decode cX7_next 95 = .ok (.if_icmp .le 8, 3) := by decide +kernel
theorem dX7_next_98 : decode cX7_next 98 = .ok (.iload 4, 2) := by decide +kernel
theorem dX7_next_100 : decode cX7_next 100 = .ok (.goto 4, 3) := by decide +kernel
theorem dX7_next_103 : decode cX7_next 103 = .ok (.iload_n 2, 1) := by decide +kernel
theorem dX7_next_104 : decode cX7_next 104 = .ok (.istore_n 2, 1) := by decide +kernel
theorem dX7_next_105 : decode cX7_next 105 = .ok (.iload 5, 2) := by decide +kernel
theorem dX7_next_107 : decode cX7_next 107 = .ok (.iload_n 3, 1) := by decide +kernel
theorem dX7_next_108 : decode cX7_next 108 = .ok (.if_icmp .le 8, 3) := by decide +kernel
theorem dX7_next_111 : decode cX7_next 111 = .ok (.iload 5, 2) := by decide +kernel
theorem dX7_next_113 : decode cX7_next 113 = .ok (.goto 4, 3) := by decide +kernel
theorem dX7_next_116 : decode cX7_next 116 = .ok (.iload_n 3, 1) := by decide +kernel
theorem dX7_next_117 : decode cX7_next 117 = .ok (.istore_n 3, 1) := by decide +kernel
theorem dX7_next_118 : decode cX7_next 118 = .ok (.iinc 4 1, 3) := by decide +kernel
theorem dX7_next_121 : decode cX7_next 121 = .ok (.goto (-114), 3) := by decide +kernel
theorem dX7_next_124 : decode cX7_next 124 = .ok (.iload_n 2, 1) := by decide +kernel
theorem dX7_next_125 : decode cX7_next 125 = .ok (.ireturn, 1) := by decide +kernel
set_option maxRecDepth 20000 in
theorem ggX7_liveOf_X7_light : GoodIn wsX7_liveOf wsX7_light := goodIn_r _ [5, 6, 7, 8, 9, 43, 44, 45, 46, 47, 48, 49, 50, 51, 52, 53, 54, 55, 56, 57, 58, 59, 60, 61, 62, 63, 64, 65, 66, 67, 68, 69, 70, 71, 72, 73, 74, 75, 76] (by decide +kernel) (by decide +kernel)
set_option maxRecDepth 20000 in
theorem gX7_liveOf_X7_light : GoodIn wsX7_liveOf (wsV RX7 123 RX7 yX7_light wsX7_light) := goodIn_app (goodIn_of _ (by decide +kernel)) ggX7_liveOf_X7_light
set_option maxRecDepth 20000 in
theorem ggX7_liveOf_X7_fill : GoodIn wsX7_liveOf wsX7_fill := goodIn_r _ [13, 14, 8, 15, 43, 44, 45, 46, 47, 48, 49, 50, 51, 52, 53, 54, 55, 56, 57, 58, 59, 60, 61, 62, 63, 64, 65, 66, 67, 68, 69, 70, 71, 72, 73, 74, 75, 76] (by decide +kernel) (by decide +kernel)
set_option maxRecDepth 20000 in
theorem gX7_liveOf_X7_fill : GoodIn wsX7_liveOf (wsV RX7 133 RX7 yX7_fill wsX7_fill) := goodIn_app (goodIn_of _ (by decide +kernel)) ggX7_liveOf_X7_fill
set_option maxRecDepth 20000 in
theorem ggX7_liveOf_X7_next : GoodIn wsX7_liveOf wsX7_next := goodIn_r _ [19, 20, 21, 8, 22, 23, 6, 7, 24, 25, 26, 4, 27, 28, 29, 30, 43, 44, 45, 46, 47, 48, 49, 50, 51, 52, 53, 54, 55, 56, 57, 58, 59, 60, 61, 62, 63, 64, 65, 66, 67, 68, 69, 70, 71, 72, 73, 74, 75, 76] (by decide +kernel) (by decide +kernel)
set_option maxRecDepth 20000 in
theorem gX7_liveOf_X7_next : GoodIn wsX7_liveOf (wsV RX7 192 RX7 yX7_next wsX7_next) := goodIn_app (goodIn_of _ (by decide +kernel)) ggX7_liveOf_X7_next
set_option maxRecDepth 20000 in
theorem ggX7_liveOf_X7_guard : GoodIn wsX7_liveOf wsX7_guard := goodIn_r _ [34, 7, 8, 9, 35, 36, 37, 4, 38, 20, 21, 43, 44, 45, 46, 47, 48, 49, 50, 51, 52, 53, 54, 55, 56, 57, 58, 59, 60, 61, 62, 63, 64, 65, 66, 67, 68, 69, 70, 71, 72, 73, 74, 75, 76] (by decide +kernel) (by decide +kernel)
set_option maxRecDepth 20000 in
theorem gX7_liveOf_X7_guard : GoodIn wsX7_liveOf (wsV RX7 139 RX7 yX7_guard wsX7_guard) := goodIn_app (goodIn_of _ (by decide +kernel)) ggX7_liveOf_X7_guard
set_option maxRecDepth 20000 in
theorem ggX7_liveOf_X7_spreads : GoodIn wsX7_liveOf wsX7_spreads := goodIn_r _ [42, 6, 24, 25, 26, 4, 27, 20, 23, 7, 43, 44, 45, 46, 47, 48, 49, 50, 51, 52, 53, 54, 55, 56, 57, 58, 59, 60, 61, 62, 63, 64, 65, 66, 67, 68, 69, 70, 71, 72, 73, 74, 75, 76] (by decide +kernel) (by decide +kernel)
set_option maxRecDepth 20000 in
theorem gX7_liveOf_X7_spreads : GoodIn wsX7_liveOf (wsV RX7 142 RX7 yX7_spreads wsX7_spreads) := goodIn_app (goodIn_of _ (by decide +kernel)) ggX7_liveOf_X7_spreads
end
section
theorem dX7_liveOf_0 : decode cX7_liveOf 0 = .ok (.aload_n 0, 1) := by decide +kernel
theorem dX7_liveOf_1 : decode cX7_liveOf 1 = .ok (.iload_n 2, 1) := by decide +kernel
theorem dX7_liveOf_2 : decode cX7_liveOf 2 = .ok (.invokevirtual 123, 3) := by decide +kernel
theorem dX7_liveOf_5 : decode cX7_liveOf 5 = .ok (.iconst 0, 1) := by decide +kernel
theorem dX7_liveOf_6 : decode cX7_liveOf 6 = .ok (.istore_n 3, 1) := by decide +kernel
theorem dX7_liveOf_7 : decode cX7_liveOf 7 = .ok (.iconst 1, 1) := by decide +kernel
theorem dX7_liveOf_8 : decode cX7_liveOf 8 = .ok (.istore 4, 2) := by decide +kernel
theorem dX7_liveOf_10 : decode cX7_liveOf 10 = .ok (.iload 4, 2) := by decide +kernel
theorem dX7_liveOf_12 : decode cX7_liveOf 12 = .ok (.ifCond .eq 50, 3) := by decide +kernel
theorem dX7_liveOf_15 : decode cX7_liveOf 15 = .ok (.iinc 3 1, 3) := by decide +kernel
theorem dX7_liveOf_18 : decode cX7_liveOf 18 = .ok (.aload_n 0, 1) := by decide +kernel
theorem dX7_liveOf_19 : decode cX7_liveOf 19 = .ok (.iload_n 3, 1) := by decide +kernel
theorem dX7_liveOf_20 : decode cX7_liveOf 20 = .ok (.invokevirtual 133, 3) := by decide +kernel
theorem dX7_liveOf_23 : decode cX7_liveOf 23 = .ok (.aload_n 0, 1) := by decide +kernel
theorem dX7_liveOf_24 : decode cX7_liveOf 24 = .ok (.iload_n 1, 1) := by decide +kernel
theorem dX7_liveOf_25 : decode cX7_liveOf 25 = .ok (.invokevirtual 192, 3) := by decide +kernel
theorem dX7_liveOf_28 : decode cX7_liveOf 28 = .ok (.istore 5, 2) := by decide +kernel
theorem dX7_liveOf_30 : decode cX7_liveOf 30 = .ok (.iload 5, 2) := by decide +kernel
theorem dX7_liveOf_32 : decode cX7_liveOf 32 = .ok (.ifCond .lt 21, 3) := by decide +kernel
theorem dX7_liveOf_35 : decode cX7_liveOf 35 = .ok (.aload_n 0, 1) := by decide +kernel
theorem dX7_liveOf_36 : decode cX7_liveOf 36 = .ok (.iconst 1, 1) := by decide +kernel
theorem dX7_liveOf_37 : decode cX7_liveOf 37 = .ok (.iload 5, 2) := by decide +kernel
theorem dX7_liveOf_39 : decode cX7_liveOf 39 = .ok (.ishl, 1) := by decide +kernel
theorem dX7_liveOf_40 : decode cX7_liveOf 40 = .ok (.invokevirtual 139, 3) := by decide +kernel
theorem dX7_liveOf_43 : decode cX7_liveOf 43 = .ok (.aload_n 0, 1) := by decide +kernel
theorem dX7_liveOf_44 : decode cX7_liveOf 44 = .ok (.iload_n 1, 1) := by decide +kernel
theorem dX7_liveOf_45 : decode cX7_liveOf 45 = .ok (.invokevirtual 192, 3) := by decide +kernel
theorem dX7_liveOf_48 : decode cX7_liveOf 48 = .ok (.istore 5, 2) := by decide +kernel
theorem dX7_liveOf_50 : decode cX7_liveOf 50 = .ok (.goto (-20), 3) := by decide +kernel
theorem dX7_liveOf_53 : decode cX7_liveOf 53 = .ok (.aload_n 0, 1) := by decide +kernel
theorem dX7_liveOf_54 : decode cX7_liveOf 54 = .ok (.invokevirtual 142, 3) := by decide +kernel
theorem dX7_liveOf_57 : decode cX7_liveOf 57 = .ok (.istore 4, 2) := by decide +kernel
theorem dX7_liveOf_59 : decode cX7_liveOf 59 = .ok (.goto (-49), 3) := by decide +kernel
theorem dX7_liveOf_62 : decode cX7_liveOf 62 = .ok (.iload_n 3, 1) := by decide +kernel
theorem dX7_liveOf_63 : decode cX7_liveOf 63 = .ok (.ireturn, 1) := by decide +kernel
set_option maxRecDepth 20000 in
theorem ggX7_isRule_X7_in : GoodIn wsX7_isRule wsX7_in := goodIn_r _ [5] (by decide +kernel) (by decide +kernel)
set_option maxRecDepth 20000 in
theorem gX7_isRule_X7_in : GoodIn wsX7_isRule (va_wsS RX7 68 yX7_in wsX7_in) := goodIn_app (goodIn_of _ (by decide +kernel)) ggX7_isRule_X7_in
theorem dX7_isRule_0 : decode cX7_isRule 0 = .ok (.iload_n 0, 1) := by decide +kernel
theorem dX7_isRule_1 : decode cX7_isRule 1 = .ok (.i2l, 1) := by decide +kernel
theorem dX7_isRule_2 : decode cX7_isRule 2 = .ok (.lconst 0, 1) := by decide +kernel
theorem dX7_isRule_3 : decode cX7_isRule 3 = .ok (.ldc2_w 195, 3) := by decide +kernel
theorem dX7_isRule_6 : decode cX7_isRule 6 = .ok (.invokestatic 68, 3) := by decide +kernel
theorem dX7_isRule_9 : decode cX7_isRule 9 = .ok (.ireturn, 1) := by decide +kernel
set_option maxRecDepth 20000 in
theorem ggX7_live_X7_isRule : GoodIn wsX7_live wsX7_isRule := goodIn_r _ [6, 1, 7, 8, 5, 9] (by decide +kernel) (by decide +kernel)
set_option maxRecDepth 20000 in
theorem gX7_live_X7_isRule : GoodIn wsX7_live (va_wsS RX7 197 yX7_isRule wsX7_isRule) := goodIn_app (goodIn_of _ (by decide +kernel)) ggX7_live_X7_isRule
set_option maxRecDepth 20000 in
theorem ggX7_live_X7_isFire : GoodIn wsX7_live wsX7_isFire := goodIn_r _ [13, 14, 15, 16, 5, 17, 18, 7, 8, 9, 70, 71, 72, 73, 74, 75, 76, 77, 78, 79, 80, 81, 82, 83, 84, 85, 86, 87, 88, 89, 90, 91, 92, 93, 94, 95, 96, 97, 98, 99, 100, 101, 102, 103] (by decide +kernel) (by decide +kernel)
set_option maxRecDepth 20000 in
theorem gX7_live_X7_isFire : GoodIn wsX7_live (wsV RX7 146 RX7 yX7_isFire wsX7_isFire) := goodIn_app (goodIn_of _ (by decide +kernel)) ggX7_live_X7_isFire
set_option maxRecDepth 20000 in
theorem ggX7_live_X7_in : GoodIn wsX7_live wsX7_in := goodIn_r _ [9] (by decide +kernel) (by decide +kernel)
set_option maxRecDepth 20000 in
theorem gX7_live_X7_in : GoodIn wsX7_live (va_wsS RX7 68 yX7_in wsX7_in) := goodIn_app (goodIn_of _ (by decide +kernel)) ggX7_live_X7_in
set_option maxRecDepth 20000 in
theorem ggX7_live_X7_liveOf : GoodIn wsX7_live wsX7_liveOf := goodIn_r _ [22, 23, 24, 25, 5, 26, 27, 2, 28, 29, 30, 31, 32, 33, 34, 35, 36, 37, 38, 39, 18, 40, 41, 42, 43, 44, 45, 46, 47, 48, 49, 50, 51, 52, 53, 54, 55, 56, 57, 58, 59, 60, 61, 70, 71, 72, 73, 74, 75, 76, 77, 78, 79, 80, 81, 82, 83, 84, 85, 86, 87, 88, 89, 90, 91, 92, 93, 94, 95, 96, 97, 98, 99, 100, 101, 102, 103] (by decide +kernel) (by decide +kernel)
set_option maxRecDepth 20000 in
theorem gX7_live_X7_liveOf : GoodIn wsX7_live (wsV RX7 200 RX7 yX7_liveOf wsX7_liveOf) := goodIn_app (goodIn_of _ (by decide +kernel)) ggX7_live_X7_liveOf
set_option maxRecDepth 20000 in
theorem ggX7_live_X7_saved : GoodIn wsX7_live wsX7_saved := goodIn_r _ [65, 27, 14, 15, 16, 5, 17, 18, 66, 67, 68, 69, 41, 70, 71, 72, 73, 74, 75, 76, 77, 78, 79, 80, 81, 82, 83, 84, 85, 86, 87, 88, 89, 90, 91, 92, 93, 94, 95, 96, 97, 98, 99, 100, 101, 102, 103] (by decide +kernel) (by decide +kernel)
set_option maxRecDepth 20000 in
theorem gX7_live_X7_saved : GoodIn wsX7_live (wsV RX7 155 RX7 yX7_saved wsX7_saved) := goodIn_app (goodIn_of _ (by decide +kernel)) ggX7_live_X7_saved
theorem dX7_live_0 : decode cX7_live 0 = .ok (.iload_n 1, 1) := by decide +kernel
theorem dX7_live_1 : decode cX7_live 1 = .ok (.invokestatic 197, 3) := by decide +kernel
theorem dX7_live_4 : decode cX7_live 4 = .ok (.ifCond .eq 23, 3) := by decide +kernel
theorem dX7_live_7 : decode cX7_live 7 = .ok (.aload_n 0, 1) := by decide +kernel
theorem dX7_live_8 : decode cX7_live 8 = .ok (.iload_n 2, 1) := by decide +kernel
theorem dX7_live_9 : decode cX7_live 9 = .ok (.invokevirtual 146, 3) := by decide +kernel
theorem dX7_live_12 : decode cX7_live 12 = .ok (.ifCond .eq 15, 3) := by decide +kernel
theorem dX7_live_15 : decode cX7_live 15 = .ok (.iload_n 3, 1) := by decide +kernel
theorem dX7_live_16 : decode cX7_live 16 = .ok (.i2l, 1) := by decide +kernel
theorem dX7_live_17 : decode cX7_live 17 = .ok (.lconst 0, 1) := by decide +kernel
theorem dX7_live_18 : decode cX7_live 18 = .ok (.ldc2_w 195, 3) := by decide +kernel
theorem dX7_live_21 : decode cX7_live 21 = .ok (.invokestatic 68, 3) := by decide +kernel
theorem dX7_live_24 : decode cX7_live 24 = .ok (.ifCond .ne 7, 3) := by decide +kernel
theorem dX7_live_27 : decode cX7_live 27 = .ok (.sipush (-1002), 3) := by decide +kernel
theorem dX7_live_30 : decode cX7_live 30 = .ok (.ireturn, 1) := by decide +kernel
theorem dX7_live_31 : decode cX7_live 31 = .ok (.aload_n 0, 1) := by decide +kernel
theorem dX7_live_32 : decode cX7_live 32 = .ok (.iload_n 1, 1) := by decide +kernel
theorem dX7_live_33 : decode cX7_live 33 = .ok (.iload_n 2, 1) := by decide +kernel
theorem dX7_live_34 : decode cX7_live 34 = .ok (.invokevirtual 200, 3) := by decide +kernel
theorem dX7_live_37 : decode cX7_live 37 = .ok (.istore 4, 2) := by decide +kernel
theorem dX7_live_39 : decode cX7_live 39 = .ok (.iload_n 3, 1) := by decide +kernel
theorem dX7_live_40 : decode cX7_live 40 = .ok (.ifCond .ne 10, 3) := by decide +kernel
theorem dX7_live_43 : decode cX7_live 43 = .ok (.aload_n 0, 1) := by decide +kernel
theorem dX7_live_44 : decode cX7_live 44 = .ok (.invokevirtual 155, 3) := by decide +kernel
theorem dX7_live_47 : decode cX7_live 47 = .ok (.goto 17, 3) := by decide +kernel
theorem dX7_live_50 : decode cX7_live 50 = .ok (.iload_n 3, 1) := by decide +kernel
theorem dX7_live_51 : decode cX7_live 51 = .ok (.iconst 1, 1) := by decide +kernel
theorem dX7_live_52 : decode cX7_live 52 = .ok (.if_icmp .ne 10, 3) := by decide +kernel
theorem dX7_live_55 : decode cX7_live 55 = .ok (.aload_n 0, 1) := by decide +kernel
theorem dX7_live_56 : decode cX7_live 56 = .ok (.getfield 106, 3) := by decide +kernel
theorem dX7_live_59 : decode cX7_live 59 = .ok (.goto 5, 3) := by decide +kernel
theorem dX7_live_62 : decode cX7_live 62 = .ok (.iload 4, 2) := by decide +kernel
theorem dX7_live_64 : decode cX7_live 64 = .ok (.ireturn, 1) := by decide +kernel
theorem dX7_part_0 : decode cX7_part 0 = .ok (.iload_n 0, 1) := by decide +kernel
theorem dX7_part_1 : decode cX7_part 1 = .ok (.istore_n 3, 1) := by decide +kernel
theorem dX7_part_2 : decode cX7_part 2 = .ok (.iload_n 1, 1) := by decide +kernel
theorem dX7_part_3 : decode cX7_part 3 = .ok (.istore 4, 2) := by decide +kernel
theorem dX7_part_5 : decode cX7_part 5 = .ok (.iload 4, 2) := by decide +kernel
theorem dX7_part_7 : decode cX7_part 7 = .ok (.ifCond .eq 19, 3) := by decide +kernel
theorem dX7_part_10 : decode cX7_part 10 = .ok (.iload_n 3, 1) := by decide +kernel
theorem dX7_part_11 : decode cX7_part 11 = .ok (.iload 4, 2) := by decide +kernel
theorem dX7_part_13 : decode cX7_part 13 = .ok (.irem, 1) := by decide +kernel
theorem dX7_part_14 : decode cX7_part 14 = .ok (.istore 5, 2) := by decide +kernel
theorem dX7_part_16 : decode cX7_part 16 = .ok (.iload 4, 2) := by decide +kernel
theorem dX7_part_18 : decode cX7_part 18 = .ok (.istore_n 3, 1) := by decide +kernel
theorem dX7_part_19 : decode cX7_part 19 = .ok (.iload 5, 2) := by decide +kernel
theorem dX7_part_21 : decode cX7_part 21 = .ok (.istore 4, 2) := by decide +kernel
theorem dX7_part_23 : decode cX7_part 23 = .ok (.goto (-18), 3) := by decide +kernel
theorem dX7_part_26 : decode cX7_part 26 = .ok (.iload_n 2, 1) := by decide +kernel
theorem dX7_part_27 : decode cX7_part 27 = .ok (.ifCond .ne 9, 3) := by decide +kernel
theorem dX7_part_30 : decode cX7_part 30 = .ok (.iload_n 0, 1) := by decide +kernel
theorem dX7_part_31 : decode cX7_part 31 = .ok (.iload_n 3, 1) := by decide +kernel
theorem dX7_part_32 : decode cX7_part 32 = .ok (.idiv, 1) := by decide +kernel
theorem dX7_part_33 : decode cX7_part 33 = .ok (.goto 6, 3) := by decide +kernel
theorem dX7_part_36 : decode cX7_part 36 = .ok (.iload_n 1, 1) := by decide +kernel
theorem dX7_part_37 : decode cX7_part 37 = .ok (.iload_n 3, 1) := by decide +kernel
theorem dX7_part_38 : decode cX7_part 38 = .ok (.idiv, 1) := by decide +kernel
theorem dX7_part_39 : decode cX7_part 39 = .ok (.ireturn, 1) := by decide +kernel
set_option maxRecDepth 20000 in
theorem ggX7_findShare_X7_liveOf : GoodIn wsX7_findShare wsX7_liveOf := goodIn_r _ [8, 9, 10, 11, 7, 12, 13, 14, 15, 16, 17, 18, 19, 20, 21, 22, 23, 24, 25, 26, 27, 28, 29, 30, 31, 32, 33, 34, 35, 36, 37, 38, 39, 40, 41, 42, 43, 44, 45, 46, 47, 48, 49, 92, 93, 94, 95, 96, 97, 98, 99, 100, 101, 102, 103, 104, 105, 106, 107, 108, 109, 110, 111, 112, 113, 114, 115, 116, 117, 118, 119, 120, 121, 122, 123, 124, 125] (by decide +kernel) (by decide +kernel)
set_option maxRecDepth 20000 in
theorem gX7_findShare_X7_liveOf : GoodIn wsX7_findShare (wsV RX7 200 RX7 yX7_liveOf wsX7_liveOf) := goodIn_app (goodIn_of _ (by decide +kernel)) ggX7_findShare_X7_liveOf
set_option maxRecDepth 20000 in
theorem ggX7_findShare_X7_saved : GoodIn wsX7_findShare wsX7_saved := goodIn_r _ [53, 13, 54, 55, 56, 7, 57, 27, 58, 59, 60, 61, 29, 92, 93, 94, 95, 96, 97, 98, 99, 100, 101, 102, 103, 104, 105, 106, 107, 108, 109, 110, 111, 112, 113, 114, 115, 116, 117, 118, 119, 120, 121, 122, 123, 124, 125] (by decide +kernel) (by decide +kernel)
set_option maxRecDepth 20000 in
theorem gX7_findShare_X7_saved : GoodIn wsX7_findShare (wsV RX7 155 RX7 yX7_saved wsX7_saved) := goodIn_app (goodIn_of _ (by decide +kernel)) ggX7_findShare_X7_saved
set_option maxRecDepth 20000 in
theorem ggX7_findShare_X7_seek : GoodIn wsX7_findShare wsX7_seek := goodIn_r _ [65, 66, 67, 68, 2, 69, 70, 15, 71, 54, 55, 56, 7, 57, 27, 42, 43, 44, 45, 28, 9, 10, 11, 12, 13, 14, 16, 17, 18, 19, 20, 21, 22, 72, 73, 74, 75, 76, 77, 78, 79, 80, 81, 82, 83, 84, 85, 86, 38, 39, 40, 41, 46, 47, 48, 49, 31, 32, 33, 34, 30, 87, 88, 89, 90, 91, 50, 51, 52, 53, 58, 59, 60, 61, 29, 92, 93, 94, 95, 96, 97, 98, 99, 100, 101, 102, 103, 104, 105, 106, 107, 108, 109, 110, 111, 112, 113, 114, 115, 116, 117, 118, 119, 120, 121, 122, 123, 124, 125] (by decide +kernel) (by decide +kernel)
set_option maxRecDepth 20000 in
theorem gX7_findShare_X7_seek : GoodIn wsX7_findShare (wsV RX7 184 RX7 yX7_seek wsX7_seek) := goodIn_app (goodIn_of _ (by decide +kernel)) ggX7_findShare_X7_seek
theorem dX7_findShare_0 : decode cX7_findShare 0 = .ok (.aload_n 0, 1) := by decide +kernel
theorem dX7_findShare_1 : decode cX7_findShare 1 = .ok (.iload_n 1, 1) := by decide +kernel
theorem dX7_findShare_2 : decode cX7_findShare 2 = .ok (.iload_n 2, 1) := by decide +kernel
theorem dX7_findShare_3 : decode cX7_findShare 3 = .ok (.invokevirtual 200, 3) := by decide +kernel
theorem dX7_findShare_6 : decode cX7_findShare 6 = .ok (.istore_n 3, 1) := by decide +kernel
theorem dX7_findShare_7 : decode cX7_findShare 7 = .ok (.aload_n 0, 1) := by decide +kernel
theorem dX7_findShare_8 : decode cX7_findShare 8 = .ok (.aload_n 0, 1) := by decide +kernel
theorem dX7_findShare_9 : decode cX7_findShare 9 = .ok (.invokevirtual 155, 3) := by decide +kernel
theorem dX7_findShare_12 : decode cX7_findShare 12 = .ok (.putfield 204, 3) := by decide +kernel
theorem dX7_findShare_15 : decode cX7_findShare 15 = .ok (.aload_n 0, 1) := by decide +kernel
theorem dX7_findShare_16 : decode cX7_findShare 16 = .ok (.iload_n 2, 1) := by decide +kernel
theorem dX7_findShare_17 : decode cX7_findShare 17 = .ok (.invokevirtual 184, 3) := by decide +kernel
theorem dX7_findShare_20 : decode cX7_findShare 20 = .ok (.aload_n 0, 1) := by decide +kernel
theorem dX7_findShare_21 : decode cX7_findShare 21 = .ok (.aload_n 0, 1) := by decide +kernel
theorem dX7_findShare_22 : decode cX7_findShare 22 = .ok (.getfield 158, 3) := by decide +kernel
theorem dX7_findShare_25 : decode cX7_findShare 25 = .ok (.putfield 207, 3) := by decide +kernel
theorem dX7_findShare_28 : decode cX7_findShare 28 = .ok (.aload_n 0, 1) := by decide +kernel
theorem dX7_findShare_29 : decode cX7_findShare 29 = .ok (.getfield 207, 3) := by decide +kernel
theorem dX7_findShare_32 : decode cX7_findShare 32 = .ok (.ifCond .ne 13, 3) := by decide +kernel
theorem dX7_findShare_35 : decode cX7_findShare 35 = .ok (.aload_n 0, 1) := by decide +kernel
theorem dX7_findShare_36 : decode cX7_findShare 36 = .ok (.iconst 1, 1) := by decide +kernel
theorem dX7_findShare_37 : decode cX7_findShare 37 = .ok (.putfield 204, 3) := by decide +kernel
theorem dX7_findShare_40 : decode cX7_findShare 40 = .ok (.aload_n 0, 1) := by decide +kernel
theorem dX7_findShare_41 : decode cX7_findShare 41 = .ok (.iconst 1, 1) := by decide +kernel
theorem dX7_findShare_42 : decode cX7_findShare 42 = .ok (.putfield 207, 3) := by decide +kernel
theorem dX7_findShare_45 : decode cX7_findShare 45 = .ok (.return_, 1) := by decide +kernel
set_option maxRecDepth 20000 in
theorem ggX7_share_X7_isRule : GoodIn wsX7_share wsX7_isRule := goodIn_r _ [6, 7, 8, 9, 5, 10] (by decide +kernel) (by decide +kernel)
set_option maxRecDepth 20000 in
theorem gX7_share_X7_isRule : GoodIn wsX7_share (va_wsS RX7 197 yX7_isRule wsX7_isRule) := goodIn_app (goodIn_of _ (by decide +kernel)) ggX7_share_X7_isRule
set_option maxRecDepth 20000 in
theorem ggX7_share_X7_isFire : GoodIn wsX7_share wsX7_isFire := goodIn_r _ [14, 15, 16, 17, 5, 18, 19, 8, 9, 10, 110, 111, 112, 113, 114, 115, 116, 117, 118, 119, 120, 121, 122, 123, 124, 125, 126, 127, 128, 129, 130, 131, 132, 133, 134, 135, 136, 137, 138, 139, 140, 141, 142, 143] (by decide +kernel) (by decide +kernel)
set_option maxRecDepth 20000 in
theorem gX7_share_X7_isFire : GoodIn wsX7_share (wsV RX7 146 RX7 yX7_isFire wsX7_isFire) := goodIn_app (goodIn_of _ (by decide +kernel)) ggX7_share_X7_isFire
set_option maxRecDepth 20000 in
theorem ggX7_share_X7_in : GoodIn wsX7_share wsX7_in := goodIn_r _ [10] (by decide +kernel) (by decide +kernel)
set_option maxRecDepth 20000 in
theorem gX7_share_X7_in : GoodIn wsX7_share (va_wsS RX7 68 yX7_in wsX7_in) := goodIn_app (goodIn_of _ (by decide +kernel)) ggX7_share_X7_in
set_option maxRecDepth 20000 in
theorem ggX7_share_X7_findShare : GoodIn wsX7_share wsX7_findShare := goodIn_r _ [23, 1, 24, 2, 25, 26, 27, 5, 28, 29, 30, 31, 32, 33, 34, 35, 36, 37, 38, 39, 40, 41, 42, 43, 44, 45, 46, 19, 47, 48, 49, 50, 51, 52, 53, 54, 55, 56, 57, 58, 59, 60, 61, 62, 63, 64, 65, 66, 67, 68, 69, 70, 71, 72, 15, 16, 17, 18, 73, 74, 75, 76, 77, 78, 79, 80, 81, 82, 83, 84, 85, 86, 87, 88, 89, 90, 91, 92, 93, 94, 95, 96, 97, 98, 99, 100, 101, 102, 103, 104, 105, 106, 110, 111, 112, 113, 114, 115, 116, 117, 118, 119, 120, 121, 122, 123, 124, 125, 126, 127, 128, 129, 130, 131, 132, 133, 134, 135, 136, 137, 138, 139, 140, 141, 142, 143] (by decide +kernel) (by decide +kernel)
set_option maxRecDepth 20000 in
theorem gX7_share_X7_findShare : GoodIn wsX7_share (wsV RX7 210 RX7 yX7_findShare wsX7_findShare) := goodIn_app (goodIn_of _ (by decide +kernel)) ggX7_share_X7_findShare
set_option maxRecDepth 20000 in
theorem ggX7_share_X7_part : GoodIn wsX7_share wsX7_part := goodIn_r _ [109] (by decide +kernel) (by decide +kernel)
set_option maxRecDepth 20000 in
theorem gX7_share_X7_part : GoodIn wsX7_share (va_wsS RX7 213 yX7_part wsX7_part) := goodIn_app (goodIn_of _ (by decide +kernel)) ggX7_share_X7_part
theorem dX7_share_0 : decode cX7_share 0 = .ok (.iload_n 1, 1) := by decide +kernel
theorem dX7_share_1 : decode cX7_share 1 = .ok (.invokestatic 197, 3) := by decide +kernel
theorem dX7_share_4 : decode cX7_share 4 = .ok (.ifCond .eq 21, 3) := by decide +kernel
theorem dX7_share_7 : decode cX7_share 7 = .ok (.aload_n 0, 1) := by decide +kernel
theorem dX7_share_8 : decode cX7_share 8 = .ok (.iload_n 2, 1) := by decide +kernel
theorem dX7_share_9 : decode cX7_share 9 = .ok (.invokevirtual 146, 3) := by decide +kernel
theorem dX7_share_12 : decode cX7_share 12 = .ok (.ifCond .eq 13, 3) := by decide +kernel
theorem dX7_share_15 : decode cX7_share 15 = .ok (.iload_n 3, 1) := by decide +kernel
theorem dX7_share_16 : decode cX7_share 16 = .ok (.i2l, 1) := by decide +kernel
theorem dX7_share_17 : decode cX7_share 17 = .ok (.lconst 0, 1) := by decide +kernel
theorem dX7_share_18 : decode cX7_share 18 = .ok (.lconst 1, 1) := by decide +kernel
theorem dX7_share_19 : decode cX7_share 19 = .ok (.invokestatic 68, 3) := by decide +kernel
theorem dX7_share_22 : decode cX7_share 22 = .ok (.ifCond .ne 7, 3) := by decide +kernel
theorem dX7_share_25 : decode cX7_share 25 = .ok (.sipush (-1002), 3) := by decide +kernel
theorem dX7_share_28 : decode cX7_share 28 = .ok (.ireturn, 1) := by decide +kernel
theorem dX7_share_29 : decode cX7_share 29 = .ok (.aload_n 0, 1) := by decide +kernel
theorem dX7_share_30 : decode cX7_share 30 = .ok (.iload_n 1, 1) := by decide +kernel
theorem dX7_share_31 : decode cX7_share 31 = .ok (.iload_n 2, 1) := by decide +kernel
theorem dX7_share_32 : decode cX7_share 32 = .ok (.invokevirtual 210, 3) := by decide +kernel
theorem dX7_share_35 : decode cX7_share 35 = .ok (.aload_n 0, 1) := by decide +kernel
theorem dX7_share_36 : decode cX7_share 36 = .ok (.getfield 204, 3) := by decide +kernel
theorem dX7_share_39 : decode cX7_share 39 = .ok (.aload_n 0, 1) := by decide +kernel
theorem dX7_share_40 : decode cX7_share 40 = .ok (.getfield 207, 3) := by decide +kernel
theorem dX7_share_43 : decode cX7_share 43 = .ok (.iload_n 3, 1) := by decide +kernel
theorem dX7_share_44 : decode cX7_share 44 = .ok (.invokestatic 213, 3) := by decide +kernel
theorem dX7_share_47 : decode cX7_share 47 = .ok (.ireturn, 1) := by decide +kernel
set_option maxRecDepth 20000 in
theorem ggX7_worst_X7_isRule : GoodIn wsX7_worst wsX7_isRule := goodIn_r _ [7, 8, 9, 10, 6, 11] (by decide +kernel) (by decide +kernel)
set_option maxRecDepth 20000 in
theorem gX7_worst_X7_isRule : GoodIn wsX7_worst (va_wsS RX7 197 yX7_isRule wsX7_isRule) := goodIn_app (goodIn_of _ (by decide +kernel)) ggX7_worst_X7_isRule
set_option maxRecDepth 20000 in
theorem ggX7_worst_X7_findShare : GoodIn wsX7_worst wsX7_findShare := goodIn_r _ [15, 2, 16, 3, 17, 18, 19, 6, 20, 21, 22, 23, 24, 25, 26, 27, 28, 29, 30, 31, 32, 33, 34, 35, 36, 37, 38, 1, 39, 40, 41, 42, 43, 44, 45, 46, 47, 48, 49, 50, 51, 52, 53, 54, 55, 56, 57, 58, 59, 60, 61, 62, 63, 64, 65, 66, 67, 68, 69, 70, 71, 72, 73, 74, 75, 76, 77, 78, 79, 80, 81, 82, 83, 84, 85, 86, 87, 88, 89, 90, 91, 92, 93, 94, 95, 96, 97, 98, 99, 100, 101, 102, 103, 104, 105, 106, 107, 108, 109, 110, 111, 112, 113, 114, 115, 116, 117, 118, 119, 120, 121, 122, 123, 124, 125, 126, 127, 128, 129, 130, 131, 132, 133, 134, 135, 136] (by decide +kernel) (by decide +kernel)
set_option maxRecDepth 20000 in
theorem gX7_worst_X7_findShare : GoodIn wsX7_worst (wsV RX7 210 RX7 yX7_findShare wsX7_findShare) := goodIn_app (goodIn_of _ (by decide +kernel)) ggX7_worst_X7_findShare
theorem dX7_worst_0 : decode cX7_worst 0 = .ok (.iload_n 1, 1) := by decide +kernel
theorem dX7_worst_1 : decode cX7_worst 1 = .ok (.invokestatic 197, 3) := by decide +kernel
theorem dX7_worst_4 : decode cX7_worst 4 = .ok (.ifCond .ne 7, 3) := by decide +kernel
theorem dX7_worst_7 : decode cX7_worst 7 = .ok (.sipush (-1002), 3) := by decide +kernel
theorem dX7_worst_10 : decode cX7_worst 10 = .ok (.ireturn, 1) := by decide +kernel
theorem dX7_worst_11 : decode cX7_worst 11 = .ok (.iconst (-1), 1) := by decide +kernel
theorem dX7_worst_12 : decode cX7_worst 12 = .ok (.istore_n 2, 1) := by decide +kernel
theorem dX7_worst_13 : decode cX7_worst 13 = .ok (.iconst 0, 1) := by decide +kernel
theorem dX7_worst_14 : decode cX7_worst 14 = .ok (.istore_n 3, 1) := by decide +kernel
theorem dX7_worst_15 : decode cX7_worst 15 = .ok (.iconst 1, 1) := by decide +kernel
theorem dX7_worst_16 : decode cX7_worst 16 = .ok (.istore 4, 2) := by decide +kernel
theorem dX7_worst_18 : decode cX7_worst 18 = .ok (.iconst 0, 1) := by decide +kernel
theorem dX7_worst_19 : decode cX7_worst 19 = .ok (.istore 5, 2) := by decide +kernel
theorem dX7_worst_21 : decode cX7_worst 21 = .ok (.iload 5, 2) := by decide +kernel
theorem dX7_worst_23 : decode cX7_worst 23 = .ok (.aload_n 0, 1) := by decide +kernel
theorem dX7_worst_24 : decode cX7_worst 24 = .ok (.getfield 7, 3) := by decide +kernel
theorem dX7_worst_27 : decode cX7_worst 27 = .ok (.if_icmp .ge 52, 3) := by decide +kernel
theorem dX7_worst_30 : decode cX7_worst 30 = .ok (.aload_n 0, 1) := by decide +kernel
theorem dX7_worst_31 : decode cX7_worst 31 = .ok (.iload_n 1, 1) := by decide +kernel
theorem dX7_worst_32 : decode cX7_worst 32 = .ok (.iconst 1, 1) := by decide +kernel
theorem dX7_worst_33 : decode cX7_worst 33 = .ok (.iload 5, 2) := by decide +kernel
theorem dX7_worst_35 : decode cX7_worst 35 = .ok (.ishl, 1) := by decide +kernel
theorem dX7_worst_36 : decode cX7_worst 36 = .ok (.invokevirtual 210, 3) := by decide +kernel
theorem dX7_worst_39 : decode cX7_worst 39 = .ok (.iload_n 2, 1) := by decide +kernel
theorem dX7_worst_40 : decode cX7_worst 40 = .ok (.ifCond .lt 19, 3) := by decide +kernel
theorem dX7_worst_43 : decode cX7_worst 43 = .ok (.aload_n 0, 1) := by decide +kernel
theorem dX7_worst_44 : decode cX7_worst 44 = .ok (.getfield 204, 3) := by decide +kernel
theorem dX7_worst_47 : decode cX7_worst 47 = .ok (.iload 4, 2) := by decide +kernel
theorem dX7_worst_49 : decode cX7_worst 49 = .ok (.imul, 1) := by decide +kernel
theorem dX7_worst_50 : decode cX7_worst 50 = .ok (.iload_n 3, 1) := by decide +kernel
theorem dX7_worst_51 : decode cX7_worst 51 = .ok (.aload_n 0, 1) := by decide +kernel
theorem dX7_worst_52 : decode cX7_worst 52 = .ok (.getfield 207, 3) := by decide +kernel
theorem dX7_worst_55 : decode cX7_worst 55 = .ok (.imul, 1) := by decide +kernel
theorem dX7_worst_56 : decode cX7_worst 56 = .ok (.if_icmp .ge 17, 3) := by decide +kernel
theorem dX7_worst_59 : decode cX7_worst 59 = .ok (.iload 5, 2) := by decide +kernel
theorem dX7_worst_61 : decode cX7_worst 61 = .ok (.istore_n 2, 1) := by decide +kernel
theorem dX7_worst_62 : decode cX7_worst 62 = .ok (.aload_n 0, 1) := by decide +kernel
theorem dX7_worst_63 : decode cX7_worst 63 = .ok (.getfield 204, 3) := by decide +kernel
theorem dX7_worst_66 : decode cX7_worst 66 = .ok (.istore_n 3, 1) := by decide +kernel
theorem dX7_worst_67 : decode cX7_worst 67 = .ok (.aload_n 0, 1) := by decide +kernel
theorem dX7_worst_68 : decode cX7_worst 68 = .ok (.getfield 207, 3) := by decide +kernel
theorem dX7_worst_71 : decode cX7_worst 71 = .ok (.istore 4, 2) := by decide +kernel
theorem dX7_worst_73 : decode cX7_worst 73 = .ok (.iinc 5 1, 3) := by decide +kernel
theorem dX7_worst_76 : decode cX7_worst 76 = .ok (.goto (-55), 3) := by decide +kernel
theorem dX7_worst_79 : decode cX7_worst 79 = .ok (.iload_n 2, 1) := by decide +kernel
theorem dX7_worst_80 : decode cX7_worst 80 = .ok (.ireturn, 1) := by decide +kernel
set_option maxRecDepth 20000 in
theorem ggX7_mean_X7_isRule : GoodIn wsX7_mean wsX7_isRule := goodIn_r _ [5, 6, 7, 8, 4, 9] (by decide +kernel) (by decide +kernel)
set_option maxRecDepth 20000 in
theorem gX7_mean_X7_isRule : GoodIn wsX7_mean (va_wsS RX7 197 yX7_isRule wsX7_isRule) := goodIn_app (goodIn_of _ (by decide +kernel)) ggX7_mean_X7_isRule
set_option maxRecDepth 20000 in
theorem ggX7_mean_X7_isFire : GoodIn wsX7_mean wsX7_isFire := goodIn_r _ [13, 14, 15, 16, 4, 17, 1, 7, 8, 9, 73, 74, 75, 76, 77, 78, 79, 80, 81, 82, 83, 84, 85, 86, 87, 88, 89, 90, 91, 92, 93, 94, 95, 96, 97, 98, 99, 100, 101, 102, 103, 104, 105, 106] (by decide +kernel) (by decide +kernel)
set_option maxRecDepth 20000 in
theorem gX7_mean_X7_isFire : GoodIn wsX7_mean (wsV RX7 146 RX7 yX7_isFire wsX7_isFire) := goodIn_app (goodIn_of _ (by decide +kernel)) ggX7_mean_X7_isFire
set_option maxRecDepth 20000 in
theorem ggX7_mean_X7_in : GoodIn wsX7_mean wsX7_in := goodIn_r _ [9] (by decide +kernel) (by decide +kernel)
set_option maxRecDepth 20000 in
theorem gX7_mean_X7_in : GoodIn wsX7_mean (va_wsS RX7 68 yX7_in wsX7_in) := goodIn_app (goodIn_of _ (by decide +kernel)) ggX7_mean_X7_in
set_option maxRecDepth 20000 in
theorem ggX7_mean_X7_liveOf : GoodIn wsX7_mean wsX7_liveOf := goodIn_r _ [21, 22, 23, 24, 4, 25, 26, 27, 28, 29, 30, 31, 32, 33, 34, 35, 36, 37, 38, 39, 1, 40, 41, 42, 43, 44, 45, 46, 47, 48, 49, 50, 51, 52, 53, 54, 55, 56, 57, 58, 59, 60, 61, 73, 74, 75, 76, 77, 78, 79, 80, 81, 82, 83, 84, 85, 86, 87, 88, 89, 90, 91, 92, 93, 94, 95, 96, 97, 98, 99, 100, 101, 102, 103, 104, 105, 106] (by decide +kernel) (by decide +kernel)
set_option maxRecDepth 20000 in
theorem gX7_mean_X7_liveOf : GoodIn wsX7_mean (wsV RX7 200 RX7 yX7_liveOf wsX7_liveOf) := goodIn_app (goodIn_of _ (by decide +kernel)) ggX7_mean_X7_liveOf
set_option maxRecDepth 20000 in
theorem ggX7_mean_X7_saved : GoodIn wsX7_mean wsX7_saved := goodIn_r _ [65, 26, 14, 15, 16, 4, 17, 1, 66, 67, 68, 69, 41, 73, 74, 75, 76, 77, 78, 79, 80, 81, 82, 83, 84, 85, 86, 87, 88, 89, 90, 91, 92, 93, 94, 95, 96, 97, 98, 99, 100, 101, 102, 103, 104, 105, 106] (by decide +kernel) (by decide +kernel)
set_option maxRecDepth 20000 in
theorem gX7_mean_X7_saved : GoodIn wsX7_mean (wsV RX7 155 RX7 yX7_saved wsX7_saved) := goodIn_app (goodIn_of _ (by decide +kernel)) ggX7_mean_X7_saved
set_option maxRecDepth 20000 in
theorem ggX7_mean_X7_bits : GoodIn wsX7_mean wsX7_bits := goodIn_r _ [49] (by decide +kernel) (by decide +kernel)
set_option maxRecDepth 20000 in
theorem gX7_mean_X7_bits : GoodIn wsX7_mean (va_wsS RX7 189 yX7_bits wsX7_bits) := goodIn_app (goodIn_of _ (by decide +kernel)) ggX7_mean_X7_bits
set_option maxRecDepth 20000 in
theorem ggX7_mean_X7_part : GoodIn wsX7_mean wsX7_part := goodIn_r _ [72] (by decide +kernel) (by decide +kernel)
set_option maxRecDepth 20000 in
theorem gX7_mean_X7_part : GoodIn wsX7_mean (va_wsS RX7 213 yX7_part wsX7_part) := goodIn_app (goodIn_of _ (by decide +kernel)) ggX7_mean_X7_part
theorem dX7_mean_0 : decode cX7_mean 0 = .ok (.iload_n 1, 1) := by decide +kernel
theorem dX7_mean_1 : decode cX7_mean 1 = .ok (.invokestatic 197, 3) := by decide +kernel
theorem dX7_mean_4 : decode cX7_mean 4 = .ok (.ifCond .eq 21, 3) := by decide +kernel
theorem dX7_mean_7 : decode cX7_mean 7 = .ok (.aload_n 0, 1) := by decide +kernel
theorem dX7_mean_8 : decode cX7_mean 8 = .ok (.iload_n 2, 1) := by decide +kernel
theorem dX7_mean_9 : decode cX7_mean 9 = .ok (.invokevirtual 146, 3) := by decide +kernel
theorem dX7_mean_12 : decode cX7_mean 12 = .ok (.ifCond .eq 13, 3) := by decide +kernel
theorem dX7_mean_15 : decode cX7_mean 15 = .ok (.iload_n 3, 1) := by decide +kernel
theorem dX7_mean_16 : decode cX7_mean 16 = .ok (.i2l, 1) := by decide +kernel
theorem dX7_mean_17 : decode cX7_mean 17 = .ok (.lconst 0, 1) := by decide +kernel
theorem dX7_mean_18 : decode cX7_mean 18 = .ok (.lconst 1, 1) := by decide +kernel
theorem dX7_mean_19 : decode cX7_mean 19 = .ok (.invokestatic 68, 3) := by decide +kernel
theorem dX7_mean_22 : decode cX7_mean 22 = .ok (.ifCond .ne 7, 3) := by decide +kernel
theorem dX7_mean_25 : decode cX7_mean 25 = .ok (.sipush (-1002), 3) := by decide +kernel
theorem dX7_mean_28 : decode cX7_mean 28 = .ok (.ireturn, 1) := by decide +kernel
theorem dX7_mean_29 : decode cX7_mean 29 = .ok (.iconst 0, 1) := by decide +kernel
theorem dX7_mean_30 : decode cX7_mean 30 = .ok (.istore 4, 2) := by decide +kernel
theorem dX7_mean_32 : decode cX7_mean 32 = .ok (.iconst 0, 1) := by decide +kernel
theorem dX7_mean_33 : decode cX7_mean 33 = .ok (.istore 5, 2) := by decide +kernel
theorem dX7_mean_35 : decode cX7_mean 35 = .ok (.iload 5, 2) := by decide +kernel
theorem dX7_mean_37 : decode cX7_mean 37 = .ok (.aload_n 0, 1) := by decide +kernel
theorem dX7_mean_38 : decode cX7_mean 38 = .ok (.getfield 7, 3) := by decide +kernel
theorem dX7_mean_41 : decode cX7_mean 41 = .ok (.if_icmp .ge 39, 3) := by decide +kernel
theorem dX7_mean_44 : decode cX7_mean 44 = .ok (.iload_n 2, 1) := by decide +kernel
theorem dX7_mean_45 : decode cX7_mean 45 = .ok (.iload 5, 2) := by decide +kernel
theorem dX7_mean_47 : decode cX7_mean 47 = .ok (.ishr, 1) := by decide +kernel
theorem dX7_mean_48 : decode cX7_mean 48 = .ok (.iconst 1, 1) := by decide +kernel
theorem dX7_mean_49 : decode cX7_mean 49 = .ok (.iand, 1) := by decide +kernel
theorem dX7_mean_50 : decode cX7_mean 50 = .ok (.iconst 1, 1) := by decide +kernel
theorem dX7_mean_51 : decode cX7_mean 51 = .ok (.if_icmp .ne 23, 3) := by decide +kernel
theorem dX7_mean_54 : decode cX7_mean 54 = .ok (.aload_n 0, 1) := by decide +kernel
theorem dX7_mean_55 : decode cX7_mean 55 = .ok (.iload_n 1, 1) := by decide +kernel
theorem dX7_mean_56 : decode cX7_mean 56 = .ok (.iconst 1, 1) := by decide +kernel
theorem dX7_mean_57 : decode cX7_mean 57 = .ok (.iload 5, 2) := by decide +kernel
theorem dX7_mean_59 : decode cX7_mean 59 = .ok (.ishl, 1) := by decide +kernel
theorem dX7_mean_60 : decode cX7_mean 60 = .ok (.invokevirtual 200, 3) := by decide +kernel
theorem dX7_mean_63 : decode cX7_mean 63 = .ok (.istore 6, 2) := by decide +kernel
theorem dX7_mean_65 : decode cX7_mean 65 = .ok (.iload 4, 2) := by decide +kernel
theorem dX7_mean_67 : decode cX7_mean 67 = .ok (.aload_n 0, 1) := by decide +kernel
theorem dX7_mean_68 : decode cX7_mean 68 = .ok (.invokevirtual 155, 3) := by decide +kernel
theorem dX7_mean_71 : decode cX7_mean 71 = .ok (.iadd, 1) := by decide +kernel
theorem dX7_mean_72 : decode cX7_mean 72 = .ok (.istore 4, 2) := by decide +kernel
theorem dX7_mean_74 : decode cX7_mean 74 = .ok (.iinc 5 1, 3) := by decide +kernel
theorem dX7_mean_77 : decode cX7_mean 77 = .ok (.goto (-42), 3) := by decide +kernel
theorem dX7_mean_80 : decode cX7_mean 80 = .ok (.iload 4, 2) := by decide +kernel
theorem dX7_mean_82 : decode cX7_mean 82 = .ok (.iload_n 2, 1) := by decide +kernel
theorem dX7_mean_83 : decode cX7_mean 83 = .ok (.invokestatic 189, 3) := by decide +kernel
theorem dX7_mean_86 : decode cX7_mean 86 = .ok (.iload_n 3, 1) := by decide +kernel
theorem dX7_mean_87 : decode cX7_mean 87 = .ok (.invokestatic 213, 3) := by decide +kernel
theorem dX7_mean_90 : decode cX7_mean 90 = .ok (.ireturn, 1) := by decide +kernel
theorem dX7_reached_0 : decode cX7_reached 0 = .ok (.iload_n 1, 1) := by decide +kernel
theorem dX7_reached_1 : decode cX7_reached 1 = .ok (.istore 4, 2) := by decide +kernel
theorem dX7_reached_3 : decode cX7_reached 3 = .ok (.iconst 1, 1) := by decide +kernel
theorem dX7_reached_4 : decode cX7_reached 4 = .ok (.istore 5, 2) := by decide +kernel
theorem dX7_reached_6 : decode cX7_reached 6 = .ok (.iload 5, 2) := by decide +kernel
theorem dX7_reached_8 : decode cX7_reached 8 = .ok (.ifCond .eq 117, 3) := by decide +kernel
theorem dX7_reached_11 : decode cX7_reached 11 = .ok (.iload 4, 2) := by decide +kernel
theorem dX7_reached_13 : decode cX7_reached 13 = .ok (.istore 6, 2) := by decide +kernel
theorem dX7_reached_15 : decode cX7_reached 15 = .ok (.iconst 0, 1) := by decide +kernel
theorem dX7_reached_16 : decode cX7_reached 16 = .ok (.istore 7, 2) := by decide +kernel
theorem dX7_reached_18 : decode cX7_reached 18 = .ok (.iload 7, 2) := by decide +kernel
theorem dX7_reached_20 : decode cX7_reached 20 = .ok (.aload_n 0, 1) := by decide +kernel
theorem dX7_reached_21 : decode cX7_reached 21 = .ok (.getfield 65, 3) := by decide +kernel
theorem dX7_reached_24 : decode cX7_reached 24 = .ok (.if_icmp .ge 84, 3) := by decide +kernel
theorem dX7_reached_27 : decode cX7_reached 27 = .ok (.iconst 1, 1) := by decide +kernel
theorem dX7_reached_28 : decode cX7_reached 28 = .ok (.aload_n 0, 1) := by decide +kernel
theorem dX7_reached_29 : decode cX7_reached 29 = .ok (.getfield 13, 3) := by decide +kernel
theorem dX7_reached_32 : decode cX7_reached 32 = .ok (.iconst 2, 1) := by decide +kernel
theorem dX7_reached_33 : decode cX7_reached 33 = .ok (.iload 7, 2) := by decide +kernel
theorem dX7_reached_35 : decode cX7_reached 35 = .ok (.imul, 1) := by decide +kernel
theorem dX7_reached_36 : decode cX7_reached 36 = .ok (.iaload, 1) := by decide +kernel
theorem dX7_reached_37 : decode cX7_reached 37 = .ok (.ishl, 1) := by decide +kernel
theorem dX7_reached_38 : decode cX7_reached 38 = .ok (.iconst 1, 1) := by decide +kernel
theorem dX7_reached_39 : decode cX7_reached 39 = .ok (.aload_n 0, 1) := by decide +kernel
theorem dX7_reached_40 : decode cX7_reached 40 = .ok (.getfield 13, 3) := by decide +kernel
theorem dX7_reached_43 : decode cX7_reached 43 = .ok (.iconst 2, 1) := by decide +kernel
theorem dX7_reached_44 : decode cX7_reached 44 = .ok (.iload 7, 2) := by decide +kernel
theorem dX7_reached_46 : decode cX7_reached 46 = .ok (.imul, 1) := by decide +kernel
theorem dX7_reached_47 : decode cX7_reached 47 = .ok (.iconst 1, 1) := by decide +kernel
theorem dX7_reached_48 : decode cX7_reached 48 = .ok (.iadd, 1) := by decide +kernel
theorem dX7_reached_49 : decode cX7_reached 49 = .ok (.iaload, 1) := by decide +kernel
theorem dX7_reached_50 : decode cX7_reached 50 = .ok (.ishl, 1) := by decide +kernel
theorem dX7_reached_51 : decode cX7_reached 51 = .ok (.ior, 1) := by decide +kernel
theorem dX7_reached_52 : decode cX7_reached 52 = .ok (.istore 8, 2) := by decide +kernel
theorem dX7_reached_54 : decode cX7_reached 54 = .ok (.iload_n 3, 1) := by decide +kernel
theorem dX7_reached_55 : decode cX7_reached 55 = .ok (.iload 7, 2) := by decide +kernel
theorem dX7_reached_57 : decode cX7_reached 57 = .ok (.ishr, 1) := by decide +kernel
theorem dX7_reached_58 : decode cX7_reached 58 = .ok (.iconst 1, 1) := by decide +kernel
theorem dX7_reached_59 : decode cX7_reached 59 = .ok (.iand, 1) := by decide +kernel
theorem dX7_reached_60 : decode cX7_reached 60 = .ok (.iconst 1, 1) := by decide +kernel
theorem dX7_reached_61 : decode cX7_reached 61 = .ok (.if_icmp .ne 22, 3) := by decide +kernel
theorem dX7_reached_64 : decode cX7_reached 64 = .ok (.iload 4, 2) := by decide +kernel
theorem dX7_reached_66 : decode cX7_reached 66 = .ok (.iload 8, 2) := by decide +kernel
theorem dX7_reached_68 : decode cX7_reached 68 = .ok (.iand, 1) := by decide +kernel
theorem dX7_reached_69 : decode cX7_reached 69 = .ok (.ifCond .eq 14, 3) := by decide +kernel
theorem dX7_reached_72 : decode cX7_reached 72 = .ok (.iload 8, 2) := by decide +kernel
theorem dX7_reached_74 : decode cX7_reached 74 = .ok (.iload_n 2, 1) := by decide +kernel
theorem dX7_reached_75 : decode cX7_reached 75 = .ok (.iand, 1) := by decide +kernel
theorem dX7_reached_76 : decode cX7_reached 76 = .ok (.ifCond .ne 7, 3) := by decide +kernel
theorem dX7_reached_79 : decode cX7_reached 79 = .ok (.iconst 1, 1) := by decide +kernel
theorem dX7_reached_80 : decode cX7_reached 80 = .ok (.goto 4, 3) := by decide +kernel
theorem dX7_reached_83 : decode cX7_reached 83 = .ok (.iconst 0, 1) := by decide +kernel
theorem dX7_reached_84 : decode cX7_reached 84 = .ok (.istore 9, 2) := by decide +kernel
theorem dX7_reached_86 : decode cX7_reached 86 = .ok (.iload 4, 2) := by decide +kernel
theorem dX7_reached_88 : decode cX7_reached 88 = .ok (.iload 9, 2) := by decide +kernel
theorem dX7_reached_90 : decode cX7_reached 90 = .ok (.ifCond .eq 8, 3) := by decide +kernel
theorem dX7_reached_93 : decode cX7_reached 93 = .ok (.iload 8, 2) := by decide +kernel
theorem dX7_reached_95 : decode cX7_reached 95 = .ok (.goto 4, 3) := by decide +kernel
theorem dX7_reached_98 : decode cX7_reached 98 = .ok (.iconst 0, 1) := by decide +kernel
theorem dX7_reached_99 : decode cX7_reached 99 = .ok (.ior, 1) := by decide +kernel
theorem dX7_reached_100 : decode cX7_reached 100 = .ok (.istore 4, 2) := by decide +kernel
theorem dX7_reached_102 : decode cX7_reached 102 = .ok (.iinc 7 1, 3) := by decide +kernel
theorem dX7_reached_105 : decode cX7_reached 105 = .ok (.goto (-87), 3) := by decide +kernel
theorem dX7_reached_108 : decode cX7_reached 108 = .ok (.iload 4, 2) := by decide +kernel
theorem dX7_reached_110 : decode cX7_reached 110 = .ok (.iload 6, 2) := by decide +kernel
theorem dX7_reached_112 : decode cX7_reached 112 = .ok (.if_icmp .eq 7, 3) := by decide +kernel
theorem dX7_reached_115 : decode cX7_reached 115 = .ok (.iconst 1, 1) := by decide +kernel
theorem dX7_reached_116 : decode cX7_reached 116 = .ok (.goto 4, 3) := by decide +kernel
theorem dX7_reached_119 : decode cX7_reached 119 = .ok (.iconst 0, 1) := by decide +kernel
theorem dX7_reached_120 : decode cX7_reached 120 = .ok (.istore 5, 2) := by decide +kernel
theorem dX7_reached_122 : decode cX7_reached 122 = .ok (.goto (-116), 3) := by decide +kernel
theorem dX7_reached_125 : decode cX7_reached 125 = .ok (.iload 4, 2) := by decide +kernel
theorem dX7_reached_127 : decode cX7_reached 127 = .ok (.ireturn, 1) := by decide +kernel
theorem dX7_power_0 : decode cX7_power 0 = .ok (.lconst 1, 1) := by decide +kernel
theorem dX7_power_1 : decode cX7_power 1 = .ok (.lstore_n 3, 1) := by decide +kernel
theorem dX7_power_2 : decode cX7_power 2 = .ok (.iconst 0, 1) := by decide +kernel
theorem dX7_power_3 : decode cX7_power 3 = .ok (.istore 5, 2) := by decide +kernel
theorem dX7_power_5 : decode cX7_power 5 = .ok (.iload 5, 2) := by decide +kernel
theorem dX7_power_7 : decode cX7_power 7 = .ok (.iload_n 2, 1) := by decide +kernel
theorem dX7_power_8 : decode cX7_power 8 = .ok (.if_icmp .ge 13, 3) := by decide +kernel
theorem dX7_power_11 : decode cX7_power 11 = .ok (.lload_n 3, 1) := by decide +kernel
theorem dX7_power_12 : decode cX7_power 12 = .ok (.lload_n 0, 1) := by decide +kernel
theorem dX7_power_13 : decode cX7_power 13 = .ok (.lmul, 1) := by decide +kernel
theorem dX7_power_14 : decode cX7_power 14 = .ok (.lstore_n 3, 1) := by decide +kernel
theorem dX7_power_15 : decode cX7_power 15 = .ok (.iinc 5 1, 3) := by decide +kernel
theorem dX7_power_18 : decode cX7_power 18 = .ok (.goto (-13), 3) := by decide +kernel
theorem dX7_power_21 : decode cX7_power 21 = .ok (.lload_n 3, 1) := by decide +kernel
theorem dX7_power_22 : decode cX7_power 22 = .ok (.lreturn, 1) := by decide +kernel
set_option maxRecDepth 20000 in
theorem ggX7_chance_X7_isNode : GoodIn wsX7_chance wsX7_isNode := goodIn_r _ [10, 11, 12, 13, 9, 14, 31, 32, 33, 34, 35, 36, 37, 38, 39, 40, 41, 42, 43, 44, 45, 46, 47, 48, 49, 50, 51, 52, 53, 54, 55, 56, 57, 58, 59, 60, 61, 62, 63, 64] (by decide +kernel) (by decide +kernel)
set_option maxRecDepth 20000 in
theorem gX7_chance_X7_isNode : GoodIn wsX7_chance (wsV RX7 78 RX7 yX7_isNode wsX7_isNode) := goodIn_app (goodIn_of _ (by decide +kernel)) ggX7_chance_X7_isNode
set_option maxRecDepth 20000 in
theorem ggX7_chance_X7_isFire : GoodIn wsX7_chance wsX7_isFire := goodIn_r _ [18, 19, 20, 21, 9, 22, 11, 12, 13, 14, 31, 32, 33, 34, 35, 36, 37, 38, 39, 40, 41, 42, 43, 44, 45, 46, 47, 48, 49, 50, 51, 52, 53, 54, 55, 56, 57, 58, 59, 60, 61, 62, 63, 64] (by decide +kernel) (by decide +kernel)
set_option maxRecDepth 20000 in
theorem gX7_chance_X7_isFire : GoodIn wsX7_chance (wsV RX7 146 RX7 yX7_isFire wsX7_isFire) := goodIn_app (goodIn_of _ (by decide +kernel)) ggX7_chance_X7_isFire
set_option maxRecDepth 20000 in
theorem ggX7_chance_X7_all : GoodIn wsX7_chance wsX7_all := goodIn_r _ [22, 11, 31, 32, 33, 34, 35, 36, 37, 38, 39, 40, 41, 42, 43, 44, 45, 46, 47, 48, 49, 50, 51, 52, 53, 54, 55, 56, 57, 58, 59, 60, 61, 62, 63, 64] (by decide +kernel) (by decide +kernel)
set_option maxRecDepth 20000 in
theorem gX7_chance_X7_all : GoodIn wsX7_chance (wsV RX7 72 RX7 yX7_all wsX7_all) := goodIn_app (goodIn_of _ (by decide +kernel)) ggX7_chance_X7_all
set_option maxRecDepth 20000 in
theorem ggX7_chance_X7_in : GoodIn wsX7_chance wsX7_in := goodIn_r _ [14] (by decide +kernel) (by decide +kernel)
set_option maxRecDepth 20000 in
theorem gX7_chance_X7_in : GoodIn wsX7_chance (va_wsS RX7 68 yX7_in wsX7_in) := goodIn_app (goodIn_of _ (by decide +kernel)) ggX7_chance_X7_in
set_option maxRecDepth 20000 in
theorem ggX7_chance_X7_reached : GoodIn wsX7_chance wsX7_reached := goodIn_r _ [26, 4, 27, 31, 32, 33, 34, 35, 36, 37, 38, 39, 40, 41, 42, 43, 44, 45, 46, 47, 48, 49, 50, 51, 52, 53, 54, 55, 56, 57, 58, 59, 60, 61, 62, 63, 64] (by decide +kernel) (by decide +kernel)
set_option maxRecDepth 20000 in
theorem gX7_chance_X7_reached : GoodIn wsX7_chance (wsV RX7 225 RX7 yX7_reached wsX7_reached) := goodIn_app (goodIn_of _ (by decide +kernel)) ggX7_chance_X7_reached
set_option maxRecDepth 20000 in
theorem ggX7_chance_X7_power : GoodIn wsX7_chance wsX7_power := goodIn_r _ [30] (by decide +kernel) (by decide +kernel)
set_option maxRecDepth 20000 in
theorem gX7_chance_X7_power : GoodIn wsX7_chance (va_wsS RX7 228 yX7_power wsX7_power) := goodIn_app (goodIn_of _ (by decide +kernel)) ggX7_chance_X7_power
theorem dX7_chance_0 : decode cX7_chance 0 = .ok (.aload_n 0, 1) := by decide +kernel
theorem dX7_chance_1 : decode cX7_chance 1 = .ok (.iload_n 1, 1) := by decide +kernel
theorem dX7_chance_2 : decode cX7_chance 2 = .ok (.invokevirtual 78, 3) := by decide +kernel
theorem dX7_chance_5 : decode cX7_chance 5 = .ok (.ifCond .ne 7, 3) := by decide +kernel
theorem dX7_chance_8 : decode cX7_chance 8 = .ok (.ldc2_w 217, 3) := by decide +kernel
theorem dX7_chance_11 : decode cX7_chance 11 = .ok (.lreturn, 1) := by decide +kernel
theorem dX7_chance_12 : decode cX7_chance 12 = .ok (.aload_n 0, 1) := by decide +kernel
theorem dX7_chance_13 : decode cX7_chance 13 = .ok (.iload_n 2, 1) := by decide +kernel
theorem dX7_chance_14 : decode cX7_chance 14 = .ok (.invokevirtual 146, 3) := by decide +kernel
theorem dX7_chance_17 : decode cX7_chance 17 = .ok (.ifCond .eq 54, 3) := by decide +kernel
theorem dX7_chance_20 : decode cX7_chance 20 = .ok (.iload_n 3, 1) := by decide +kernel
theorem dX7_chance_21 : decode cX7_chance 21 = .ok (.i2l, 1) := by decide +kernel
theorem dX7_chance_22 : decode cX7_chance 22 = .ok (.lconst 0, 1) := by decide +kernel
theorem dX7_chance_23 : decode cX7_chance 23 = .ok (.aload_n 0, 1) := by decide +kernel
theorem dX7_chance_24 : decode cX7_chance 24 = .ok (.invokevirtual 72, 3) := by decide +kernel
theorem dX7_chance_27 : decode cX7_chance 27 = .ok (.i2l, 1) := by decide +kernel
theorem dX7_chance_28 : decode cX7_chance 28 = .ok (.invokestatic 68, 3) := by decide +kernel
theorem dX7_chance_31 : decode cX7_chance 31 = .ok (.ifCond .eq 40, 3) := by decide +kernel
theorem dX7_chance_34 : decode cX7_chance 34 = .ok (.iload 5, 2) := by decide +kernel
theorem dX7_chance_36 : decode cX7_chance 36 = .ok (.i2l, 1) := by decide +kernel
theorem dX7_chance_37 : decode cX7_chance 37 = .ok (.lconst 1, 1) := by decide +kernel
theorem dX7_chance_38 : decode cX7_chance 38 = .ok (.ldc2_w 219, 3) := by decide +kernel
theorem dX7_chance_41 : decode cX7_chance 41 = .ok (.invokestatic 68, 3) := by decide +kernel
theorem dX7_chance_44 : decode cX7_chance 44 = .ok (.ifCond .eq 27, 3) := by decide +kernel
theorem dX7_chance_47 : decode cX7_chance 47 = .ok (.iload 4, 2) := by decide +kernel
theorem dX7_chance_49 : decode cX7_chance 49 = .ok (.i2l, 1) := by decide +kernel
theorem dX7_chance_50 : decode cX7_chance 50 = .ok (.lconst 0, 1) := by decide +kernel
theorem dX7_chance_51 : decode cX7_chance 51 = .ok (.iload 5, 2) := by decide +kernel
theorem dX7_chance_53 : decode cX7_chance 53 = .ok (.i2l, 1) := by decide +kernel
theorem dX7_chance_54 : decode cX7_chance 54 = .ok (.invokestatic 68, 3) := by decide +kernel
theorem dX7_chance_57 : decode cX7_chance 57 = .ok (.ifCond .eq 14, 3) := by decide +kernel
theorem dX7_chance_60 : decode cX7_chance 60 = .ok (.iload 6, 2) := by decide +kernel
theorem dX7_chance_62 : decode cX7_chance 62 = .ok (.i2l, 1) := by decide +kernel
theorem dX7_chance_63 : decode cX7_chance 63 = .ok (.lconst 0, 1) := by decide +kernel
theorem dX7_chance_64 : decode cX7_chance 64 = .ok (.lconst 1, 1) := by decide +kernel
theorem dX7_chance_65 : decode cX7_chance 65 = .ok (.invokestatic 68, 3) := by decide +kernel
theorem dX7_chance_68 : decode cX7_chance 68 = .ok (.ifCond .ne 7, 3) := by decide +kernel
theorem dX7_chance_71 : decode cX7_chance 71 = .ok (.ldc2_w 221, 3) := by decide +kernel
theorem dX7_chance_74 : decode cX7_chance 74 = .ok (.lreturn, 1) := by decide +kernel
theorem dX7_chance_75 : decode cX7_chance 75 = .ok (.aload_n 0, 1) := by decide +kernel
theorem dX7_chance_76 : decode cX7_chance 76 = .ok (.getfield 65, 3) := by decide +kernel
theorem dX7_chance_79 : decode cX7_chance 79 = .ok (.bipush 12, 2) := by decide +kernel
theorem dX7_chance_81 : decode cX7_chance 81 = .ok (.if_icmp .le 7, 3) := by decide +kernel
theorem dX7_chance_84 : decode cX7_chance 84 = .ok (.ldc2_w 223, 3) := by decide +kernel
theorem dX7_chance_87 : decode cX7_chance 87 = .ok (.lreturn, 1) := by decide +kernel
theorem dX7_chance_88 : decode cX7_chance 88 = .ok (.lconst 0, 1) := by decide +kernel
theorem dX7_chance_89 : decode cX7_chance 89 = .ok (.lstore 7, 2) := by decide +kernel
theorem dX7_chance_91 : decode cX7_chance 91 = .ok (.iconst 0, 1) := by decide +kernel
theorem dX7_chance_92 : decode cX7_chance 92 = .ok (.istore 9, 2) := by decide +kernel
theorem dX7_chance_94 : decode cX7_chance 94 = .ok (.iload 9, 2) := by decide +kernel
theorem dX7_chance_96 : decode cX7_chance 96 = .ok (.iconst 1, 1) := by decide +kernel
theorem dX7_chance_97 : decode cX7_chance 97 = .ok (.aload_n 0, 1) := by decide +kernel
theorem dX7_chance_98 : decode cX7_chance 98 = .ok (.getfield 65, 3) := by decide +kernel
theorem dX7_chance_101 : decode cX7_chance 101 = .ok (.ishl, 1) := by decide +kernel
theorem dX7_chance_102 : decode cX7_chance 102 = .ok (.if_icmp .ge 108, 3) := by decide +kernel
theorem dX7_chance_105 : decode cX7_chance 105 = .ok (.iconst 0, 1) := by decide +kernel
theorem dX7_chance_106 : decode cX7_chance 106 = .ok (.istore 10, 2) := by decide +kernel
theorem dX7_chance_108 : decode cX7_chance 108 = .ok (.iconst 0, 1) := by decide +kernel
theorem dX7_chance_109 : decode cX7_chance 109 = .ok (.istore 11, 2) := by decide +kernel
theorem dX7_chance_111 : decode cX7_chance 111 = .ok (.iload 11, 2) := by decide +kernel
theorem dX7_chance_113 : decode cX7_chance 113 = .ok (.aload_n 0, 1) := by decide +kernel
theorem dX7_chance_114 : decode cX7_chance 114 = .ok (.getfield 65, 3) := by decide +kernel
theorem dX7_chance_117 : decode cX7_chance 117 = .ok (.if_icmp .ge 21, 3) := by decide +kernel
theorem dX7_chance_120 : decode cX7_chance 120 = .ok (.iload 10, 2) := by decide +kernel
theorem dX7_chance_122 : decode cX7_chance 122 = .ok (.iload 9, 2) := by decide +kernel
theorem dX7_chance_124 : decode cX7_chance 124 = .ok (.iload 11, 2) := by decide +kernel
theorem dX7_chance_126 : decode cX7_chance 126 = .ok (.ishr, 1) := by decide +kernel
theorem dX7_chance_127 : decode cX7_chance 127 = .ok (.iconst 1, 1) := by decide +kernel
theorem dX7_chance_128 : decode cX7_chance 128 = .ok (.iand, 1) := by decide +kernel
theorem dX7_chance_129 : decode cX7_chance 129 = .ok (.iadd, 1) := by decide +kernel
theorem dX7_chance_130 : decode cX7_chance 130 = .ok (.istore 10, 2) := by decide +kernel
theorem dX7_chance_132 : decode cX7_chance 132 = .ok (.iinc 11 1, 3) := by decide +kernel
theorem dX7_chance_135 : decode cX7_chance 135 = .ok (.goto (-24), 3) := by decide +kernel
theorem dX7_chance_138 : decode cX7_chance 138 = .ok (.aload_n 0, 1) := by decide +kernel
theorem dX7_chance_139 : decode cX7_chance 139 = .ok (.iload_n 2, 1) := by decide +kernel
theorem dX7_chance_140 : decode cX7_chance 140 = .ok (.iload_n 3, 1) := by decide +kernel
theorem dX7_chance_141 : decode cX7_chance 141 = .ok (.iload_n 2, 1) := by decide +kernel
theorem dX7_chance_142 : decode cX7_chance 142 = .ok (.iconst (-1), 1) := by decide +kernel
theorem dX7_chance_143 : decode cX7_chance 143 = .ok (.ixor, 1) := by decide +kernel
theorem dX7_chance_144 : decode cX7_chance 144 = .ok (.iand, 1) := by decide +kernel
theorem dX7_chance_145 : decode cX7_chance 145 = .ok (.iload 9, 2) := by decide +kernel
theorem dX7_chance_147 : decode cX7_chance 147 = .ok (.invokevirtual 225, 3) := by decide +kernel
theorem dX7_chance_150 : decode cX7_chance 150 = .ok (.iload_n 1, 1) := by decide +kernel
theorem dX7_chance_151 : decode cX7_chance 151 = .ok (.ishr, 1) := by decide +kernel
theorem dX7_chance_152 : decode cX7_chance 152 = .ok (.iconst 1, 1) := by decide +kernel
theorem dX7_chance_153 : decode cX7_chance 153 = .ok (.iand, 1) := by decide +kernel
theorem dX7_chance_154 : decode cX7_chance 154 = .ok (.iconst 1, 1) := by decide +kernel
theorem dX7_chance_155 : decode cX7_chance 155 = .ok (.if_icmp .ne 7, 3) := by decide +kernel
theorem dX7_chance_158 : decode cX7_chance 158 = .ok (.iconst 1, 1) := by decide +kernel
theorem dX7_chance_159 : decode cX7_chance 159 = .ok (.goto 4, 3) := by decide +kernel
theorem dX7_chance_162 : decode cX7_chance 162 = .ok (.iconst 0, 1) := by decide +kernel
theorem dX7_chance_163 : decode cX7_chance 163 = .ok (.istore 11, 2) := by decide +kernel
theorem dX7_chance_165 : decode cX7_chance 165 = .ok (.lload 7, 2) := by decide +kernel
theorem dX7_chance_167 : decode cX7_chance 167 = .ok (.iload 11, 2) := by decide +kernel
theorem dX7_chance_169 : decode cX7_chance 169 = .ok (.ifCond .eq 31, 3) := by decide +kernel
theorem dX7_chance_172 : decode cX7_chance 172 = .ok (.iload 4, 2) := by decide +kernel
theorem dX7_chance_174 : decode cX7_chance 174 = .ok (.i2l, 1) := by decide +kernel
theorem dX7_chance_175 : decode cX7_chance 175 = .ok (.iload 10, 2) := by decide +kernel
theorem dX7_chance_177 : decode cX7_chance 177 = .ok (.invokestatic 228, 3) := by decide +kernel
theorem dX7_chance_180 : decode cX7_chance 180 = .ok (.iload 5, 2) := by decide +kernel
theorem dX7_chance_182 : decode cX7_chance 182 = .ok (.iload 4, 2) := by decide +kernel
theorem dX7_chance_184 : decode cX7_chance 184 = .ok (.isub, 1) := by decide +kernel
theorem dX7_chance_185 : decode cX7_chance 185 = .ok (.i2l, 1) := by decide +kernel
theorem dX7_chance_186 : decode cX7_chance 186 = .ok (.aload_n 0, 1) := by decide +kernel
theorem dX7_chance_187 : decode cX7_chance 187 = .ok (.getfield 65, 3) := by decide +kernel
theorem dX7_chance_190 : decode cX7_chance 190 = .ok (.iload 10, 2) := by decide +kernel
theorem dX7_chance_192 : decode cX7_chance 192 = .ok (.isub, 1) := by decide +kernel
theorem dX7_chance_193 : decode cX7_chance 193 = .ok (.invokestatic 228, 3) := by decide +kernel
theorem dX7_chance_196 : decode cX7_chance 196 = .ok (.lmul, 1) := by decide +kernel
theorem dX7_chance_197 : decode cX7_chance 197 = .ok (.goto 4, 3) := by decide +kernel
theorem dX7_chance_200 : decode cX7_chance 200 = .ok (.lconst 0, 1) := by decide +kernel
theorem dX7_chance_201 : decode cX7_chance 201 = .ok (.ladd, 1) := by decide +kernel
theorem dX7_chance_202 : decode cX7_chance 202 = .ok (.lstore 7, 2) := by decide +kernel
theorem dX7_chance_204 : decode cX7_chance 204 = .ok (.iinc 9 1, 3) := by decide +kernel
theorem dX7_chance_207 : decode cX7_chance 207 = .ok (.goto (-113), 3) := by decide +kernel
theorem dX7_chance_210 : decode cX7_chance 210 = .ok (.iload 5, 2) := by decide +kernel
theorem dX7_chance_212 : decode cX7_chance 212 = .ok (.i2l, 1) := by decide +kernel
theorem dX7_chance_213 : decode cX7_chance 213 = .ok (.aload_n 0, 1) := by decide +kernel
theorem dX7_chance_214 : decode cX7_chance 214 = .ok (.getfield 65, 3) := by decide +kernel
theorem dX7_chance_217 : decode cX7_chance 217 = .ok (.invokestatic 228, 3) := by decide +kernel
theorem dX7_chance_220 : decode cX7_chance 220 = .ok (.lstore 9, 2) := by decide +kernel
theorem dX7_chance_222 : decode cX7_chance 222 = .ok (.lload 7, 2) := by decide +kernel
theorem dX7_chance_224 : decode cX7_chance 224 = .ok (.lstore 11, 2) := by decide +kernel
theorem dX7_chance_226 : decode cX7_chance 226 = .ok (.lload 9, 2) := by decide +kernel
theorem dX7_chance_228 : decode cX7_chance 228 = .ok (.lstore 13, 2) := by decide +kernel
theorem dX7_chance_230 : decode cX7_chance 230 = .ok (.lload 13, 2) := by decide +kernel
theorem dX7_chance_232 : decode cX7_chance 232 = .ok (.lconst 0, 1) := by decide +kernel
theorem dX7_chance_233 : decode cX7_chance 233 = .ok (.lcmp, 1) := by decide +kernel
theorem dX7_chance_234 : decode cX7_chance 234 = .ok (.ifCond .eq 21, 3) := by decide +kernel
theorem dX7_chance_237 : decode cX7_chance 237 = .ok (.lload 11, 2) := by decide +kernel
theorem dX7_chance_239 : decode cX7_chance 239 = .ok (.lload 13, 2) := by decide +kernel
theorem dX7_chance_241 : decode cX7_chance 241 = .ok (.lrem, 1) := by decide +kernel
theorem dX7_chance_242 : decode cX7_chance 242 = .ok (.lstore 15, 2) := by decide +kernel
theorem dX7_chance_244 : decode cX7_chance 244 = .ok (.lload 13, 2) := by decide +kernel
theorem dX7_chance_246 : decode cX7_chance 246 = .ok (.lstore 11, 2) := by decide +kernel
theorem dX7_chance_248 : decode cX7_chance 248 = .ok (.lload 15, 2) := by decide +kernel
theorem dX7_chance_250 : decode cX7_chance 250 = .ok (.lstore 13, 2) := by decide +kernel
theorem dX7_chance_252 : decode cX7_chance 252 = .ok (.goto (-22), 3) := by decide +kernel
theorem dX7_chance_255 : decode cX7_chance 255 = .ok (.iload 6, 2) := by decide +kernel
theorem dX7_chance_257 : decode cX7_chance 257 = .ok (.ifCond .ne 11, 3) := by decide +kernel
theorem dX7_chance_260 : decode cX7_chance 260 = .ok (.lload 7, 2) := by decide +kernel
theorem dX7_chance_262 : decode cX7_chance 262 = .ok (.lload 11, 2) := by decide +kernel
theorem dX7_chance_264 : decode cX7_chance 264 = .ok (.ldiv, 1) := by decide +kernel
theorem dX7_chance_265 : decode cX7_chance 265 = .ok (.goto 8, 3) := by decide +kernel
theorem dX7_chance_268 : decode cX7_chance 268 = .ok (.lload 9, 2) := by decide +kernel
theorem dX7_chance_270 : decode cX7_chance 270 = .ok (.lload 11, 2) := by decide +kernel
theorem dX7_chance_272 : decode cX7_chance 272 = .ok (.ldiv, 1) := by decide +kernel
theorem dX7_chance_273 : decode cX7_chance 273 = .ok (.lreturn, 1) := by decide +kernel
theorem dX7_square_0 : decode cX7_square 0 = .ok (.bipush 61, 2) := by decide +kernel
theorem dX7_square_2 : decode cX7_square 2 = .ok (.iload_n 1, 1) := by decide +kernel
theorem dX7_square_3 : decode cX7_square 3 = .ok (.bipush 30, 2) := by decide +kernel
theorem dX7_square_5 : decode cX7_square 5 = .ok (.iadd, 1) := by decide +kernel
theorem dX7_square_6 : decode cX7_square 6 = .ok (.imul, 1) := by decide +kernel
theorem dX7_square_7 : decode cX7_square 7 = .ok (.iload_n 0, 1) := by decide +kernel
theorem dX7_square_8 : decode cX7_square 8 = .ok (.iadd, 1) := by decide +kernel
theorem dX7_square_9 : decode cX7_square 9 = .ok (.bipush 30, 2) := by decide +kernel
theorem dX7_square_11 : decode cX7_square 11 = .ok (.iadd, 1) := by decide +kernel
theorem dX7_square_12 : decode cX7_square 12 = .ok (.ireturn, 1) := by decide +kernel
set_option maxRecDepth 20000 in
theorem ggX7_wall_X7_in : GoodIn wsX7_wall wsX7_in := goodIn_r _ [9] (by decide +kernel) (by decide +kernel)
set_option maxRecDepth 20000 in
theorem gX7_wall_X7_in : GoodIn wsX7_wall (va_wsS RX7 68 yX7_in wsX7_in) := goodIn_app (goodIn_of _ (by decide +kernel)) ggX7_wall_X7_in
theorem dX7_wall_0 : decode cX7_wall 0 = .ok (.iload_n 1, 1) := by decide +kernel
theorem dX7_wall_1 : decode cX7_wall 1 = .ok (.i2l, 1) := by decide +kernel
theorem dX7_wall_2 : decode cX7_wall 2 = .ok (.ldc2_w 232, 3) := by decide +kernel
theorem dX7_wall_5 : decode cX7_wall 5 = .ok (.ldc2_w 234, 3) := by decide +kernel
theorem dX7_wall_8 : decode cX7_wall 8 = .ok (.invokestatic 68, 3) := by decide +kernel
theorem dX7_wall_11 : decode cX7_wall 11 = .ok (.ifCond .eq 37, 3) := by decide +kernel
theorem dX7_wall_14 : decode cX7_wall 14 = .ok (.iload_n 2, 1) := by decide +kernel
theorem dX7_wall_15 : decode cX7_wall 15 = .ok (.i2l, 1) := by decide +kernel
theorem dX7_wall_16 : decode cX7_wall 16 = .ok (.ldc2_w 232, 3) := by decide +kernel
theorem dX7_wall_19 : decode cX7_wall 19 = .ok (.ldc2_w 234, 3) := by decide +kernel
theorem dX7_wall_22 : decode cX7_wall 22 = .ok (.invokestatic 68, 3) := by decide +kernel
theorem dX7_wall_25 : decode cX7_wall 25 = .ok (.ifCond .eq 23, 3) := by decide +kernel
theorem dX7_wall_28 : decode cX7_wall 28 = .ok (.iload_n 1, 1) := by decide +kernel
theorem dX7_wall_29 : decode cX7_wall 29 = .ok (.ifCond .ne 7, 3) := by decide +kernel
theorem dX7_wall_32 : decode cX7_wall 32 = .ok (.iload_n 2, 1) := by decide +kernel
theorem dX7_wall_33 : decode cX7_wall 33 = .ok (.ifCond .eq 15, 3) := by decide +kernel
theorem dX7_wall_36 : decode cX7_wall 36 = .ok (.iload_n 3, 1) := by decide +kernel
theorem dX7_wall_37 : decode cX7_wall 37 = .ok (.i2l, 1) := by decide +kernel
theorem dX7_wall_38 : decode cX7_wall 38 = .ok (.lconst 1, 1) := by decide +kernel
theorem dX7_wall_39 : decode cX7_wall 39 = .ok (.ldc2_w 86, 3) := by decide +kernel
theorem dX7_wall_42 : decode cX7_wall 42 = .ok (.invokestatic 68, 3) := by decide +kernel
theorem dX7_wall_45 : decode cX7_wall 45 = .ok (.ifCond .ne 7, 3) := by decide +kernel
theorem dX7_wall_48 : decode cX7_wall 48 = .ok (.sipush (-1002), 3) := by decide +kernel
theorem dX7_wall_51 : decode cX7_wall 51 = .ok (.ireturn, 1) := by decide +kernel
theorem dX7_wall_52 : decode cX7_wall 52 = .ok (.iconst 0, 1) := by decide +kernel
theorem dX7_wall_53 : decode cX7_wall 53 = .ok (.istore 4, 2) := by decide +kernel
theorem dX7_wall_55 : decode cX7_wall 55 = .ok (.iload 4, 2) := by decide +kernel
theorem dX7_wall_57 : decode cX7_wall 57 = .ok (.aload_n 0, 1) := by decide +kernel
theorem dX7_wall_58 : decode cX7_wall 58 = .ok (.getfield 96, 3) := by decide +kernel
theorem dX7_wall_61 : decode cX7_wall 61 = .ok (.if_icmp .ge 41, 3) := by decide +kernel
theorem dX7_wall_64 : decode cX7_wall 64 = .ok (.aload_n 0, 1) := by decide +kernel
theorem dX7_wall_65 : decode cX7_wall 65 = .ok (.getfield 35, 3) := by decide +kernel
theorem dX7_wall_68 : decode cX7_wall 68 = .ok (.iconst 3, 1) := by decide +kernel
theorem dX7_wall_69 : decode cX7_wall 69 = .ok (.iload 4, 2) := by decide +kernel
theorem dX7_wall_71 : decode cX7_wall 71 = .ok (.imul, 1) := by decide +kernel
theorem dX7_wall_72 : decode cX7_wall 72 = .ok (.iaload, 1) := by decide +kernel
theorem dX7_wall_73 : decode cX7_wall 73 = .ok (.iload_n 1, 1) := by decide +kernel
theorem dX7_wall_74 : decode cX7_wall 74 = .ok (.if_icmp .ne 22, 3) := by decide +kernel
theorem dX7_wall_77 : decode cX7_wall 77 = .ok (.aload_n 0, 1) := by decide +kernel
theorem dX7_wall_78 : decode cX7_wall 78 = .ok (.getfield 35, 3) := by decide +kernel
theorem dX7_wall_81 : decode cX7_wall 81 = .ok (.iconst 3, 1) := by decide +kernel
theorem dX7_wall_82 : decode cX7_wall 82 = .ok (.iload 4, 2) := by decide +kernel
theorem dX7_wall_84 : decode cX7_wall 84 = .ok (.imul, 1) := by decide +kernel
theorem dX7_wall_85 : decode cX7_wall 85 = .ok (.iconst 1, 1) := by decide +kernel
theorem dX7_wall_86 : decode cX7_wall 86 = .ok (.iadd, 1) := by decide +kernel
theorem dX7_wall_87 : decode cX7_wall 87 = .ok (.iaload, 1) := by decide +kernel
theorem dX7_wall_88 : decode cX7_wall 88 = .ok (.iload_n 2, 1) := by decide +kernel
theorem dX7_wall_89 : decode cX7_wall 89 = .ok (.if_icmp .ne 7, 3) := by decide +kernel
theorem dX7_wall_92 : decode cX7_wall 92 = .ok (.sipush (-1003), 3) := by decide +kernel
theorem dX7_wall_95 : decode cX7_wall 95 = .ok (.ireturn, 1) := by decide +kernel
theorem dX7_wall_96 : decode cX7_wall 96 = .ok (.iinc 4 1, 3) := by decide +kernel
theorem dX7_wall_99 : decode cX7_wall 99 = .ok (.goto (-44), 3) := by decide +kernel
theorem dX7_wall_102 : decode cX7_wall 102 = .ok (.aload_n 0, 1) := by decide +kernel
theorem dX7_wall_103 : decode cX7_wall 103 = .ok (.getfield 96, 3) := by decide +kernel
theorem dX7_wall_106 : decode cX7_wall 106 = .ok (.bipush 40, 2) := by decide +kernel
theorem dX7_wall_108 : decode cX7_wall 108 = .ok (.if_icmp .ne 7, 3) := by decide +kernel
theorem dX7_wall_111 : decode cX7_wall 111 = .ok (.sipush (-1004), 3) := by decide +kernel
theorem dX7_wall_114 : decode cX7_wall 114 = .ok (.ireturn, 1) := by decide +kernel
theorem dX7_wall_115 : decode cX7_wall 115 = .ok (.aload_n 0, 1) := by decide +kernel
theorem dX7_wall_116 : decode cX7_wall 116 = .ok (.getfield 35, 3) := by decide +kernel
theorem dX7_wall_119 : decode cX7_wall 119 = .ok (.iconst 3, 1) := by decide +kernel
theorem dX7_wall_120 : decode cX7_wall 120 = .ok (.aload_n 0, 1) := by decide +kernel
theorem dX7_wall_121 : decode cX7_wall 121 = .ok (.getfield 96, 3) := by decide +kernel
theorem dX7_wall_124 : decode cX7_wall 124 = .ok (.imul, 1) := by decide +kernel
theorem dX7_wall_125 : decode cX7_wall 125 = .ok (.iload_n 1, 1) := by decide +kernel
theorem dX7_wall_126 : decode cX7_wall 126 = .ok (.iastore, 1) := by decide +kernel
theorem dX7_wall_127 : decode cX7_wall 127 = .ok (.aload_n 0, 1) := by decide +kernel
theorem dX7_wall_128 : decode cX7_wall 128 = .ok (.getfield 35, 3) := by decide +kernel
theorem dX7_wall_131 : decode cX7_wall 131 = .ok (.iconst 3, 1) := by decide +kernel
theorem dX7_wall_132 : decode cX7_wall 132 = .ok (.aload_n 0, 1) := by decide +kernel
theorem dX7_wall_133 : decode cX7_wall 133 = .ok (.getfield 96, 3) := by decide +kernel
theorem dX7_wall_136 : decode cX7_wall 136 = .ok (.imul, 1) := by decide +kernel
theorem dX7_wall_137 : decode cX7_wall 137 = .ok (.iconst 1, 1) := by decide +kernel
theorem dX7_wall_138 : decode cX7_wall 138 = .ok (.iadd, 1) := by decide +kernel
theorem dX7_wall_139 : decode cX7_wall 139 = .ok (.iload_n 2, 1) := by decide +kernel
theorem dX7_wall_140 : decode cX7_wall 140 = .ok (.iastore, 1) := by decide +kernel
theorem dX7_wall_141 : decode cX7_wall 141 = .ok (.aload_n 0, 1) := by decide +kernel
theorem dX7_wall_142 : decode cX7_wall 142 = .ok (.getfield 35, 3) := by decide +kernel
theorem dX7_wall_145 : decode cX7_wall 145 = .ok (.iconst 3, 1) := by decide +kernel
theorem dX7_wall_146 : decode cX7_wall 146 = .ok (.aload_n 0, 1) := by decide +kernel
theorem dX7_wall_147 : decode cX7_wall 147 = .ok (.getfield 96, 3) := by decide +kernel
theorem dX7_wall_150 : decode cX7_wall 150 = .ok (.imul, 1) := by decide +kernel
theorem dX7_wall_151 : decode cX7_wall 151 = .ok (.iconst 2, 1) := by decide +kernel
theorem dX7_wall_152 : decode cX7_wall 152 = .ok (.iadd, 1) := by decide +kernel
theorem dX7_wall_153 : decode cX7_wall 153 = .ok (.iload_n 3, 1) := by decide +kernel
theorem dX7_wall_154 : decode cX7_wall 154 = .ok (.iastore, 1) := by decide +kernel
theorem dX7_wall_155 : decode cX7_wall 155 = .ok (.aload_n 0, 1) := by decide +kernel
theorem dX7_wall_156 : decode cX7_wall 156 = .ok (.dup, 1) := by decide +kernel
theorem dX7_wall_157 : decode cX7_wall 157 = .ok (.getfield 96, 3) := by decide +kernel
theorem dX7_wall_160 : decode cX7_wall 160 = .ok (.iconst 1, 1) := by decide +kernel
theorem dX7_wall_161 : decode cX7_wall 161 = .ok (.iadd, 1) := by decide +kernel
theorem dX7_wall_162 : decode cX7_wall 162 = .ok (.putfield 96, 3) := by decide +kernel
theorem dX7_wall_165 : decode cX7_wall 165 = .ok (.aload_n 0, 1) := by decide +kernel
theorem dX7_wall_166 : decode cX7_wall 166 = .ok (.getfield 96, 3) := by decide +kernel
theorem dX7_wall_169 : decode cX7_wall 169 = .ok (.ireturn, 1) := by decide +kernel
theorem dX7_raze_0 : decode cX7_raze 0 = .ok (.aload_n 0, 1) := by decide +kernel
theorem dX7_raze_1 : decode cX7_raze 1 = .ok (.getfield 96, 3) := by decide +kernel
theorem dX7_raze_4 : decode cX7_raze 4 = .ok (.istore_n 1, 1) := by decide +kernel
theorem dX7_raze_5 : decode cX7_raze 5 = .ok (.aload_n 0, 1) := by decide +kernel
theorem dX7_raze_6 : decode cX7_raze 6 = .ok (.iconst 0, 1) := by decide +kernel
theorem dX7_raze_7 : decode cX7_raze 7 = .ok (.putfield 96, 3) := by decide +kernel
theorem dX7_raze_10 : decode cX7_raze 10 = .ok (.iload_n 1, 1) := by decide +kernel
theorem dX7_raze_11 : decode cX7_raze 11 = .ok (.ireturn, 1) := by decide +kernel
set_option maxRecDepth 20000 in
theorem ggX7_build_X7_square : GoodIn wsX7_build wsX7_square := goodIn_r _ [8] (by decide +kernel) (by decide +kernel)
set_option maxRecDepth 20000 in
theorem gX7_build_X7_square : GoodIn wsX7_build (va_wsS RX7 236 yX7_square wsX7_square) := goodIn_app (goodIn_of _ (by decide +kernel)) ggX7_build_X7_square
theorem dX7_build_0 : decode cX7_build 0 = .ok (.iconst 0, 1) := by decide +kernel
theorem dX7_build_1 : decode cX7_build 1 = .ok (.istore_n 2, 1) := by decide +kernel
theorem dX7_build_2 : decode cX7_build 2 = .ok (.iload_n 2, 1) := by decide +kernel
theorem dX7_build_3 : decode cX7_build 3 = .ok (.aload_n 0, 1) := by decide +kernel
theorem dX7_build_4 : decode cX7_build 4 = .ok (.getfield 96, 3) := by decide +kernel
theorem dX7_build_7 : decode cX7_build 7 = .ok (.if_icmp .ge 90, 3) := by decide +kernel
theorem dX7_build_10 : decode cX7_build 10 = .ok (.aload_n 0, 1) := by decide +kernel
theorem dX7_build_11 : decode cX7_build 11 = .ok (.getfield 35, 3) := by decide +kernel
theorem dX7_build_14 : decode cX7_build 14 = .ok (.iconst 3, 1) := by decide +kernel
theorem dX7_build_15 : decode cX7_build 15 = .ok (.iload_n 2, 1) := by decide +kernel
theorem dX7_build_16 : decode cX7_build 16 = .ok (.imul, 1) := by decide +kernel
theorem dX7_build_17 : decode cX7_build 17 = .ok (.iconst 2, 1) := by decide +kernel
theorem dX7_build_18 : decode cX7_build 18 = .ok (.iadd, 1) := by decide +kernel
theorem dX7_build_19 : decode cX7_build 19 = .ok (.iaload, 1) := by decide +kernel
theorem dX7_build_20 : decode cX7_build 20 = .ok (.iload_n 1, 1) := by decide +kernel
theorem dX7_build_21 : decode cX7_build 21 = .ok (.if_icmp .ne 70, 3) := by decide +kernel
theorem dX7_build_24 : decode cX7_build 24 = .ok (.aload_n 0, 1) := by decide +kernel
theorem dX7_build_25 : decode cX7_build 25 = .ok (.getfield 35, 3) := by decide +kernel
theorem dX7_build_28 : decode cX7_build 28 = .ok (.iconst 3, 1) := by decide +kernel
theorem dX7_build_29 : decode cX7_build 29 = .ok (.iload_n 2, 1) := by decide +kernel
theorem dX7_build_30 : decode cX7_build 30 = .ok (.imul, 1) := by decide +kernel
theorem dX7_build_31 : decode cX7_build 31 = .ok (.iaload, 1) := by decide +kernel
theorem dX7_build_32 : decode cX7_build 32 = .ok (.aload_n 0, 1) := by decide +kernel
theorem dX7_build_33 : decode cX7_build 33 = .ok (.getfield 35, 3) := by decide +kernel
theorem dX7_build_36 : decode cX7_build 36 = .ok (.iconst 3, 1) := by decide +kernel
theorem dX7_build_37 : decode cX7_build 37 = .ok (.iload_n 2, 1) := by decide +kernel
theorem dX7_build_38 : decode cX7_build 38 = .ok (.imul, 1) := by decide +kernel
theorem dX7_build_39 : decode cX7_build 39 = .ok (.iconst 1, 1) := by decide +kernel
theorem dX7_build_40 : decode cX7_build 40 = .ok (.iadd, 1) := by decide +kernel
theorem dX7_build_41 : decode cX7_build 41 = .ok (.iaload, 1) := by decide +kernel
theorem dX7_build_42 : decode cX7_build 42 = .ok (.invokestatic 236, 3) := by decide +kernel
theorem dX7_build_45 : decode cX7_build 45 = .ok (.istore_n 3, 1) := by decide +kernel
theorem dX7_build_46 : decode cX7_build 46 = .ok (.aload_n 0, 1) := by decide +kernel
theorem dX7_build_47 : decode cX7_build 47 = .ok (.dup, 1) := by decide +kernel
theorem dX7_build_48 : decode cX7_build 48 = .ok (.getfield 239, 3) := by decide +kernel
theorem dX7_build_51 : decode cX7_build 51 = .ok (.aload_n 0, 1) := by decide +kernel
theorem dX7_build_52 : decode cX7_build 52 = .ok (.getfield 59, 3) := by decide +kernel
theorem dX7_build_55 : decode cX7_build 55 = .ok (.iload_n 3, 1) := by decide +kernel
theorem dX7_build_56 : decode cX7_build 56 = .ok (.iaload, 1) := by decide +kernel
theorem dX7_build_57 : decode cX7_build 57 = .ok (.iconst 1, 1) := by decide +kernel
theorem dX7_build_58 : decode cX7_build 58 = .ok (.if_icmp .ne 7, 3) := by decide +kernel
theorem dX7_build_61 : decode cX7_build 61 = .ok (.iconst 1, 1) := by decide +kernel
theorem dX7_build_62 : decode cX7_build 62 = .ok (.goto 4, 3) := by decide +kernel
theorem dX7_build_65 : decode cX7_build 65 = .ok (.iconst 0, 1) := by decide +kernel
theorem dX7_build_66 : decode cX7_build 66 = .ok (.iadd, 1) := by decide +kernel
theorem dX7_build_67 : decode cX7_build 67 = .ok (.putfield 239, 3) := by decide +kernel
theorem dX7_build_70 : decode cX7_build 70 = .ok (.aload_n 0, 1) := by decide +kernel
theorem dX7_build_71 : decode cX7_build 71 = .ok (.getfield 59, 3) := by decide +kernel
theorem dX7_build_74 : decode cX7_build 74 = .ok (.iload_n 3, 1) := by decide +kernel
theorem dX7_build_75 : decode cX7_build 75 = .ok (.aload_n 0, 1) := by decide +kernel
theorem dX7_build_76 : decode cX7_build 76 = .ok (.getfield 59, 3) := by decide +kernel
theorem dX7_build_79 : decode cX7_build 79 = .ok (.iload_n 3, 1) := by decide +kernel
theorem dX7_build_80 : decode cX7_build 80 = .ok (.iaload, 1) := by decide +kernel
theorem dX7_build_81 : decode cX7_build 81 = .ok (.iconst 1, 1) := by decide +kernel
theorem dX7_build_82 : decode cX7_build 82 = .ok (.if_icmp .ne 7, 3) := by decide +kernel
theorem dX7_build_85 : decode cX7_build 85 = .ok (.iconst 1, 1) := by decide +kernel
theorem dX7_build_86 : decode cX7_build 86 = .ok (.goto 4, 3) := by decide +kernel
theorem dX7_build_89 : decode cX7_build 89 = .ok (.iconst 2, 1) := by decide +kernel
theorem dX7_build_90 : decode cX7_build 90 = .ok (.iastore, 1) := by decide +kernel
theorem dX7_build_91 : decode cX7_build 91 = .ok (.iinc 2 1, 3) := by decide +kernel
theorem dX7_build_94 : decode cX7_build 94 = .ok (.goto (-92), 3) := by decide +kernel
theorem dX7_build_97 : decode cX7_build 97 = .ok (.return_, 1) := by decide +kernel
set_option maxRecDepth 20000 in
theorem ggX7_touches_X7_square : GoodIn wsX7_touches wsX7_square := goodIn_r _ [5] (by decide +kernel) (by decide +kernel)
set_option maxRecDepth 20000 in
theorem gX7_touches_X7_square : GoodIn wsX7_touches (va_wsS RX7 236 yX7_square wsX7_square) := goodIn_app (goodIn_of _ (by decide +kernel)) ggX7_touches_X7_square
theorem dX7_touches_0 : decode cX7_touches 0 = .ok (.iload_n 1, 1) := by decide +kernel
theorem dX7_touches_1 : decode cX7_touches 1 = .ok (.bipush (-30), 2) := by decide +kernel
theorem dX7_touches_3 : decode cX7_touches 3 = .ok (.if_icmp .le 19, 3) := by decide +kernel
theorem dX7_touches_6 : decode cX7_touches 6 = .ok (.aload_n 0, 1) := by decide +kernel
theorem dX7_touches_7 : decode cX7_touches 7 = .ok (.getfield 59, 3) := by decide +kernel
theorem dX7_touches_10 : decode cX7_touches 10 = .ok (.iload_n 1, 1) := by decide +kernel
theorem dX7_touches_11 : decode cX7_touches 11 = .ok (.iconst 1, 1) := by decide +kernel
theorem dX7_touches_12 : decode cX7_touches 12 = .ok (.isub, 1) := by decide +kernel
theorem dX7_touches_13 : decode cX7_touches 13 = .ok (.iload_n 2, 1) := by decide +kernel
theorem dX7_touches_14 : decode cX7_touches 14 = .ok (.invokestatic 236, 3) := by decide +kernel
theorem dX7_touches_17 : decode cX7_touches 17 = .ok (.iaload, 1) := by decide +kernel
theorem dX7_touches_18 : decode cX7_touches 18 = .ok (.iconst 1, 1) := by decide +kernel
theorem dX7_touches_19 : decode cX7_touches 19 = .ok (.if_icmp .eq 69, 3) := by decide +kernel
theorem dX7_touches_22 : decode cX7_touches 22 = .ok (.iload_n 1, 1) := by decide +kernel
theorem dX7_touches_23 : decode cX7_touches 23 = .ok (.bipush 30, 2) := by decide +kernel
theorem dX7_touches_25 : decode cX7_touches 25 = .ok (.if_icmp .ge 19, 3) := by decide +kernel
theorem dX7_touches_28 : decode cX7_touches 28 = .ok (.aload_n 0, 1) := by decide +kernel
theorem dX7_touches_29 : decode cX7_touches 29 = .ok (.getfield 59, 3) := by decide +kernel
theorem dX7_touches_32 : decode cX7_touches 32 = .ok (.iload_n 1, 1) := by decide +kernel
theorem dX7_touches_33 : decode cX7_touches 33 = .ok (.iconst 1, 1) := by decide +kernel
theorem dX7_touches_34 : decode cX7_touches 34 = .ok (.iadd, 1) := by decide +kernel
theorem dX7_touches_35 : decode cX7_touches 35 = .ok (.iload_n 2, 1) := by decide +kernel
theorem dX7_touches_36 : decode cX7_touches 36 = .ok (.invokestatic 236, 3) := by decide +kernel
theorem dX7_touches_39 : decode cX7_touches 39 = .ok (.iaload, 1) := by decide +kernel
theorem dX7_touches_40 : decode cX7_touches 40 = .ok (.iconst 1, 1) := by decide +kernel
theorem dX7_touches_41 : decode cX7_touches 41 = .ok (.if_icmp .eq 47, 3) := by decide +kernel
theorem dX7_touches_44 : decode cX7_touches 44 = .ok (.iload_n 2, 1) := by decide +kernel
theorem dX7_touches_45 : decode cX7_touches 45 = .ok (.bipush (-30), 2) := by decide +kernel
theorem dX7_touches_47 : decode cX7_touches 47 = .ok (.if_icmp .le 19, 3) := by decide +kernel
theorem dX7_touches_50 : decode cX7_touches 50 = .ok (.aload_n 0, 1) := by decide +kernel
theorem dX7_touches_51 : decode cX7_touches 51 = .ok (.getfield 59, 3) := by decide +kernel
theorem dX7_touches_54 : decode cX7_touches 54 = .ok (.iload_n 1, 1) := by decide +kernel
theorem dX7_touches_55 : decode cX7_touches 55 = .ok (.iload_n 2, 1) := by decide +kernel
theorem dX7_touches_56 : decode cX7_touches 56 = .ok (.iconst 1, 1) := by decide +kernel
theorem dX7_touches_57 : decode cX7_touches 57 = .ok (.isub, 1) := by decide +kernel
theorem dX7_touches_58 : decode cX7_touches 58 = .ok (.invokestatic 236, 3) := by decide +kernel
theorem dX7_touches_61 : decode cX7_touches 61 = .ok (.iaload, 1) := by decide +kernel
theorem dX7_touches_62 : decode cX7_touches 62 = .ok (.iconst 1, 1) := by decide +kernel
theorem dX7_touches_63 : decode cX7_touches 63 = .ok (.if_icmp .eq 25, 3) := by decide +kernel
theorem dX7_touches_66 : decode cX7_touches 66 = .ok (.iload_n 2, 1) := by decide +kernel
theorem dX7_touches_67 : decode cX7_touches 67 = .ok (.bipush 30, 2) := by decide +kernel
theorem dX7_touches_69 : decode cX7_touches 69 = .ok (.if_icmp .ge 23, 3) := by decide +kernel
theorem dX7_touches_72 : decode cX7_touches 72 = .ok (.aload_n 0, 1) := by decide +kernel
theorem dX7_touches_73 : decode cX7_touches 73 = .ok (.getfield 59, 3) := by decide +kernel
theorem dX7_touches_76 : decode cX7_touches 76 = .ok (.iload_n 1, 1) := by decide +kernel
theorem dX7_touches_77 : decode cX7_touches 77 = .ok (.iload_n 2, 1) := by decide +kernel
theorem dX7_touches_78 : decode cX7_touches 78 = .ok (.iconst 1, 1) := by decide +kernel
theorem dX7_touches_79 : decode cX7_touches 79 = .ok (.iadd, 1) := by decide +kernel
theorem dX7_touches_80 : decode cX7_touches 80 = .ok (.invokestatic 236, 3) := by decide +kernel
theorem dX7_touches_83 : decode cX7_touches 83 = .ok (.iaload, 1) := by decide +kernel
theorem dX7_touches_84 : decode cX7_touches 84 = .ok (.iconst 1, 1) := by decide +kernel
theorem dX7_touches_85 : decode cX7_touches 85 = .ok (.if_icmp .ne 7, 3) := by decide +kernel
theorem dX7_touches_88 : decode cX7_touches 88 = .ok (.iconst 1, 1) := by decide +kernel
theorem dX7_touches_89 : decode cX7_touches 89 = .ok (.goto 4, 3) := by decide +kernel
theorem dX7_touches_92 : decode cX7_touches 92 = .ok (.iconst 0, 1) := by decide +kernel
theorem dX7_touches_93 : decode cX7_touches 93 = .ok (.ireturn, 1) := by decide +kernel
set_option maxRecDepth 20000 in
theorem ggX7_burnOn_X7_square : GoodIn wsX7_burnOn wsX7_square := goodIn_r _ [5] (by decide +kernel) (by decide +kernel)
set_option maxRecDepth 20000 in
theorem gX7_burnOn_X7_square : GoodIn wsX7_burnOn (va_wsS RX7 236 yX7_square wsX7_square) := goodIn_app (goodIn_of _ (by decide +kernel)) ggX7_burnOn_X7_square
set_option maxRecDepth 20000 in
theorem ggX7_burnOn_X7_touches : GoodIn wsX7_burnOn wsX7_touches := goodIn_r _ [9, 1, 2, 3, 4, 5, 10, 11, 12, 13, 14, 15, 16, 17, 18, 19, 20, 21, 22, 23, 24, 25, 26, 27, 28, 29, 30, 31, 32, 33, 34, 35, 36, 37, 38, 39, 40, 41, 42, 43] (by decide +kernel) (by decide +kernel)
set_option maxRecDepth 20000 in
theorem gX7_burnOn_X7_touches : GoodIn wsX7_burnOn (wsV RX7 242 RX7 yX7_touches wsX7_touches) := goodIn_app (goodIn_of _ (by decide +kernel)) ggX7_burnOn_X7_touches
theorem dX7_burnOn_0 : decode cX7_burnOn 0 = .ok (.iconst 0, 1) := by decide +kernel
theorem dX7_burnOn_1 : decode cX7_burnOn 1 = .ok (.istore_n 1, 1) := by decide +kernel
theorem dX7_burnOn_2 : decode cX7_burnOn 2 = .ok (.bipush (-30), 2) := by decide +kernel
theorem dX7_burnOn_4 : decode cX7_burnOn 4 = .ok (.istore_n 2, 1) := by decide +kernel
theorem dX7_burnOn_5 : decode cX7_burnOn 5 = .ok (.iload_n 2, 1) := by decide +kernel
theorem dX7_burnOn_6 : decode cX7_burnOn 6 = .ok (.bipush 30, 2) := by decide +kernel
theorem dX7_burnOn_8 : decode cX7_burnOn 8 = .ok (.if_icmp .gt 59, 3) := by decide +kernel
theorem dX7_burnOn_11 : decode cX7_burnOn 11 = .ok (.bipush (-30), 2) := by decide +kernel
theorem dX7_burnOn_13 : decode cX7_burnOn 13 = .ok (.istore_n 3, 1) := by decide +kernel
theorem dX7_burnOn_14 : decode cX7_burnOn 14 = .ok (.iload_n 3, 1) := by decide +kernel
theorem dX7_burnOn_15 : decode cX7_burnOn 15 = .ok (.bipush 30, 2) := by decide +kernel
theorem dX7_burnOn_17 : decode cX7_burnOn 17 = .ok (.if_icmp .gt 44, 3) := by decide +kernel
theorem dX7_burnOn_20 : decode cX7_burnOn 20 = .ok (.aload_n 0, 1) := by decide +kernel
theorem dX7_burnOn_21 : decode cX7_burnOn 21 = .ok (.getfield 59, 3) := by decide +kernel
theorem dX7_burnOn_24 : decode cX7_burnOn 24 = .ok (.iload_n 3, 1) := by decide +kernel
theorem dX7_burnOn_25 : decode cX7_burnOn 25 = .ok (.iload_n 2, 1) := by decide +kernel
theorem dX7_burnOn_26 : decode cX7_burnOn 26 = .ok (.invokestatic 236, 3) := by decide +kernel
theorem dX7_burnOn_29 : decode cX7_burnOn 29 = .ok (.iaload, 1) := by decide +kernel
theorem dX7_burnOn_30 : decode cX7_burnOn 30 = .ok (.ifCond .ne 25, 3) := by decide +kernel
theorem dX7_burnOn_33 : decode cX7_burnOn 33 = .ok (.aload_n 0, 1) := by decide +kernel
theorem dX7_burnOn_34 : decode cX7_burnOn 34 = .ok (.iload_n 3, 1) := by decide +kernel
theorem dX7_burnOn_35 : decode cX7_burnOn 35 = .ok (.iload_n 2, 1) := by decide +kernel
theorem dX7_burnOn_36 : decode cX7_burnOn 36 = .ok (.invokevirtual 242, 3) := by decide +kernel
theorem dX7_burnOn_39 : decode cX7_burnOn 39 = .ok (.ifCond .eq 16, 3) := by decide +kernel
theorem dX7_burnOn_42 : decode cX7_burnOn 42 = .ok (.aload_n 0, 1) := by decide +kernel
theorem dX7_burnOn_43 : decode cX7_burnOn 43 = .ok (.getfield 59, 3) := by decide +kernel
theorem dX7_burnOn_46 : decode cX7_burnOn 46 = .ok (.iload_n 3, 1) := by decide +kernel
theorem dX7_burnOn_47 : decode cX7_burnOn 47 = .ok (.iload_n 2, 1) := by decide +kernel
theorem dX7_burnOn_48 : decode cX7_burnOn 48 = .ok (.invokestatic 236, 3) := by decide +kernel
theorem dX7_burnOn_51 : decode cX7_burnOn 51 = .ok (.iconst 3, 1) := by decide +kernel
theorem dX7_burnOn_52 : decode cX7_burnOn 52 = .ok (.iastore, 1) := by decide +kernel
theorem dX7_burnOn_53 : decode cX7_burnOn 53 = .ok (.iconst 1, 1) := by decide +kernel
theorem dX7_burnOn_54 : decode cX7_burnOn 54 = .ok (.istore_n 1, 1) := by decide +kernel
theorem dX7_burnOn_55 : decode cX7_burnOn 55 = .ok (.iinc 3 1, 3) := by decide +kernel
theorem dX7_burnOn_58 : decode cX7_burnOn 58 = .ok (.goto (-44), 3) := by decide +kernel
theorem dX7_burnOn_61 : decode cX7_burnOn 61 = .ok (.iinc 2 1, 3) := by decide +kernel
theorem dX7_burnOn_64 : decode cX7_burnOn 64 = .ok (.goto (-59), 3) := by decide +kernel
theorem dX7_burnOn_67 : decode cX7_burnOn 67 = .ok (.iconst 0, 1) := by decide +kernel
theorem dX7_burnOn_68 : decode cX7_burnOn 68 = .ok (.istore_n 2, 1) := by decide +kernel
theorem dX7_burnOn_69 : decode cX7_burnOn 69 = .ok (.iload_n 2, 1) := by decide +kernel
theorem dX7_burnOn_70 : decode cX7_burnOn 70 = .ok (.sipush 3721, 3) := by decide +kernel
theorem dX7_burnOn_73 : decode cX7_burnOn 73 = .ok (.if_icmp .ge 35, 3) := by decide +kernel
theorem dX7_burnOn_76 : decode cX7_burnOn 76 = .ok (.aload_n 0, 1) := by decide +kernel
theorem dX7_burnOn_77 : decode cX7_burnOn 77 = .ok (.getfield 59, 3) := by decide +kernel
theorem dX7_burnOn_80 : decode cX7_burnOn 80 = .ok (.iload_n 2, 1) := by decide +kernel
theorem dX7_burnOn_81 : decode cX7_burnOn 81 = .ok (.aload_n 0, 1) := by decide +kernel
theorem dX7_burnOn_82 : decode cX7_burnOn 82 = .ok (.getfield 59, 3) := by decide +kernel
theorem dX7_burnOn_85 : decode cX7_burnOn 85 = .ok (.iload_n 2, 1) := by decide +kernel
theorem dX7_burnOn_86 : decode cX7_burnOn 86 = .ok (.iaload, 1) := by decide +kernel
theorem dX7_burnOn_87 : decode cX7_burnOn 87 = .ok (.iconst 3, 1) := by decide +kernel
theorem dX7_burnOn_88 : decode cX7_burnOn 88 = .ok (.if_icmp .ne 7, 3) := by decide +kernel
theorem dX7_burnOn_91 : decode cX7_burnOn 91 = .ok (.iconst 1, 1) := by decide +kernel
theorem dX7_burnOn_92 : decode cX7_burnOn 92 = .ok (.goto 9, 3) := by decide +kernel
theorem dX7_burnOn_95 : decode cX7_burnOn 95 = .ok (.aload_n 0, 1) := by decide +kernel
theorem dX7_burnOn_96 : decode cX7_burnOn 96 = .ok (.getfield 59, 3) := by decide +kernel
theorem dX7_burnOn_99 : decode cX7_burnOn 99 = .ok (.iload_n 2, 1) := by decide +kernel
theorem dX7_burnOn_100 : decode cX7_burnOn 100 = .ok (.iaload, 1) := by decide +kernel
theorem dX7_burnOn_101 : decode cX7_burnOn 101 = .ok (.iastore, 1) := by decide +kernel
theorem dX7_burnOn_102 : decode cX7_burnOn 102 = .ok (.iinc 2 1, 3) := by decide +kernel
theorem dX7_burnOn_105 : decode cX7_burnOn 105 = .ok (.goto (-36), 3) := by decide +kernel
theorem dX7_burnOn_108 : decode cX7_burnOn 108 = .ok (.iload_n 1, 1) := by decide +kernel
theorem dX7_burnOn_109 : decode cX7_burnOn 109 = .ok (.ireturn, 1) := by decide +kernel
set_option maxRecDepth 20000 in
theorem ggX7_run_X7_square : GoodIn wsX7_run wsX7_square := goodIn_r _ [7] (by decide +kernel) (by decide +kernel)
set_option maxRecDepth 20000 in
theorem gX7_run_X7_square : GoodIn wsX7_run (va_wsS RX7 236 yX7_square wsX7_square) := goodIn_app (goodIn_of _ (by decide +kernel)) ggX7_run_X7_square
set_option maxRecDepth 20000 in
theorem ggX7_run_X7_build : GoodIn wsX7_run wsX7_build := goodIn_r _ [11, 12, 13, 2, 1, 4, 5, 6, 7, 22, 23, 24, 25, 26, 27, 28, 29, 30, 31, 32, 33, 34, 35, 36, 37, 38, 39, 40, 41, 42, 43, 44, 45, 46, 47, 48, 49, 50, 51, 52, 53, 54, 55] (by decide +kernel) (by decide +kernel)
set_option maxRecDepth 20000 in
theorem gX7_run_X7_build : GoodIn wsX7_run (wsV RX7 249 RX7 yX7_build wsX7_build) := goodIn_app (goodIn_of _ (by decide +kernel)) ggX7_run_X7_build
set_option maxRecDepth 20000 in
theorem ggX7_run_X7_burnOn : GoodIn wsX7_run wsX7_burnOn := goodIn_r _ [17, 1, 4, 5, 6, 7, 18, 19, 20, 21, 22, 23, 24, 25, 26, 27, 28, 29, 30, 31, 32, 33, 34, 35, 36, 37, 38, 39, 40, 41, 42, 43, 44, 45, 46, 47, 48, 49, 50, 51, 52, 53, 54, 55] (by decide +kernel) (by decide +kernel)
set_option maxRecDepth 20000 in
theorem gX7_run_X7_burnOn : GoodIn wsX7_run (wsV RX7 252 RX7 yX7_burnOn wsX7_burnOn) := goodIn_app (goodIn_of _ (by decide +kernel)) ggX7_run_X7_burnOn
theorem dX7_run_0 : decode cX7_run 0 = .ok (.iconst 0, 1) := by decide +kernel
theorem dX7_run_1 : decode cX7_run 1 = .ok (.istore_n 1, 1) := by decide +kernel
theorem dX7_run_2 : decode cX7_run 2 = .ok (.iload_n 1, 1) := by decide +kernel
theorem dX7_run_3 : decode cX7_run 3 = .ok (.sipush 3721, 3) := by decide +kernel
theorem dX7_run_6 : decode cX7_run 6 = .ok (.if_icmp .ge 16, 3) := by decide +kernel
theorem dX7_run_9 : decode cX7_run 9 = .ok (.aload_n 0, 1) := by decide +kernel
theorem dX7_run_10 : decode cX7_run 10 = .ok (.getfield 59, 3) := by decide +kernel
theorem dX7_run_13 : decode cX7_run 13 = .ok (.iload_n 1, 1) := by decide +kernel
theorem dX7_run_14 : decode cX7_run 14 = .ok (.iconst 0, 1) := by decide +kernel
theorem dX7_run_15 : decode cX7_run 15 = .ok (.iastore, 1) := by decide +kernel
theorem dX7_run_16 : decode cX7_run 16 = .ok (.iinc 1 1, 3) := by decide +kernel
theorem dX7_run_19 : decode cX7_run 19 = .ok (.goto (-17), 3) := by decide +kernel
theorem dX7_run_22 : decode cX7_run 22 = .ok (.aload_n 0, 1) := by decide +kernel
theorem dX7_run_23 : decode cX7_run 23 = .ok (.getfield 59, 3) := by decide +kernel
theorem dX7_run_26 : decode cX7_run 26 = .ok (.iconst 0, 1) := by decide +kernel
theorem dX7_run_27 : decode cX7_run 27 = .ok (.iconst 0, 1) := by decide +kernel
theorem dX7_run_28 : decode cX7_run 28 = .ok (.invokestatic 236, 3) := by decide +kernel
theorem dX7_run_31 : decode cX7_run 31 = .ok (.iconst 1, 1) := by decide +kernel
theorem dX7_run_32 : decode cX7_run 32 = .ok (.iastore, 1) := by decide +kernel
theorem dX7_run_33 : decode cX7_run 33 = .ok (.aload_n 0, 1) := by decide +kernel
theorem dX7_run_34 : decode cX7_run 34 = .ok (.iconst 0, 1) := by decide +kernel
theorem dX7_run_35 : decode cX7_run 35 = .ok (.putfield 239, 3) := by decide +kernel
theorem dX7_run_38 : decode cX7_run 38 = .ok (.aload_n 0, 1) := by decide +kernel
theorem dX7_run_39 : decode cX7_run 39 = .ok (.iconst (-1), 1) := by decide +kernel
theorem dX7_run_40 : decode cX7_run 40 = .ok (.putfield 246, 3) := by decide +kernel
theorem dX7_run_43 : decode cX7_run 43 = .ok (.iconst 1, 1) := by decide +kernel
theorem dX7_run_44 : decode cX7_run 44 = .ok (.istore_n 1, 1) := by decide +kernel
theorem dX7_run_45 : decode cX7_run 45 = .ok (.iload_n 1, 1) := by decide +kernel
theorem dX7_run_46 : decode cX7_run 46 = .ok (.bipush 24, 2) := by decide +kernel
theorem dX7_run_48 : decode cX7_run 48 = .ok (.if_icmp .gt 37, 3) := by decide +kernel
theorem dX7_run_51 : decode cX7_run 51 = .ok (.aload_n 0, 1) := by decide +kernel
theorem dX7_run_52 : decode cX7_run 52 = .ok (.getfield 246, 3) := by decide +kernel
theorem dX7_run_55 : decode cX7_run 55 = .ok (.ifCond .ge 30, 3) := by decide +kernel
theorem dX7_run_58 : decode cX7_run 58 = .ok (.aload_n 0, 1) := by decide +kernel
theorem dX7_run_59 : decode cX7_run 59 = .ok (.iload_n 1, 1) := by decide +kernel
theorem dX7_run_60 : decode cX7_run 60 = .ok (.invokevirtual 249, 3) := by decide +kernel
theorem dX7_run_63 : decode cX7_run 63 = .ok (.aload_n 0, 1) := by decide +kernel
theorem dX7_run_64 : decode cX7_run 64 = .ok (.aload_n 0, 1) := by decide +kernel
theorem dX7_run_65 : decode cX7_run 65 = .ok (.invokevirtual 252, 3) := by decide +kernel
theorem dX7_run_68 : decode cX7_run 68 = .ok (.ifCond .eq 7, 3) := by decide +kernel
theorem dX7_run_71 : decode cX7_run 71 = .ok (.iconst (-1), 1) := by decide +kernel
theorem dX7_run_72 : decode cX7_run 72 = .ok (.goto 4, 3) := by decide +kernel
theorem dX7_run_75 : decode cX7_run 75 = .ok (.iload_n 1, 1) := by decide +kernel
theorem dX7_run_76 : decode cX7_run 76 = .ok (.putfield 246, 3) := by decide +kernel
theorem dX7_run_79 : decode cX7_run 79 = .ok (.iinc 1 1, 3) := by decide +kernel
theorem dX7_run_82 : decode cX7_run 82 = .ok (.goto (-37), 3) := by decide +kernel
theorem dX7_run_85 : decode cX7_run 85 = .ok (.return_, 1) := by decide +kernel
theorem dX7_size_0 : decode cX7_size 0 = .ok (.iload_n 0, 1) := by decide +kernel
theorem dX7_size_1 : decode cX7_size 1 = .ok (.ifCond .ge 8, 3) := by decide +kernel
theorem dX7_size_4 : decode cX7_size 4 = .ok (.iload_n 0, 1) := by decide +kernel
theorem dX7_size_5 : decode cX7_size 5 = .ok (.ineg, 1) := by decide +kernel
theorem dX7_size_6 : decode cX7_size 6 = .ok (.goto 4, 3) := by decide +kernel
theorem dX7_size_9 : decode cX7_size 9 = .ok (.iload_n 0, 1) := by decide +kernel
theorem dX7_size_10 : decode cX7_size 10 = .ok (.ireturn, 1) := by decide +kernel
set_option maxRecDepth 20000 in
theorem ggX7_board_X7_in : GoodIn wsX7_board wsX7_in := goodIn_r _ [8] (by decide +kernel) (by decide +kernel)
set_option maxRecDepth 20000 in
theorem gX7_board_X7_in : GoodIn wsX7_board (va_wsS RX7 68 yX7_in wsX7_in) := goodIn_app (goodIn_of _ (by decide +kernel)) ggX7_board_X7_in
set_option maxRecDepth 20000 in
theorem ggX7_board_X7_run : GoodIn wsX7_board wsX7_run := goodIn_r _ [12, 2, 4, 3, 13, 14, 7, 15, 16, 17, 18, 19, 20, 21, 22, 23, 24, 25, 26, 27, 28, 29, 33, 34, 35, 36, 37, 38, 39, 40, 41, 42, 43, 44, 45, 46, 47, 48, 49, 50, 51, 52, 53, 54, 55, 56, 57, 58, 59, 60, 61, 62, 63, 64, 65, 66] (by decide +kernel) (by decide +kernel)
set_option maxRecDepth 20000 in
theorem gX7_board_X7_run : GoodIn wsX7_board (wsV RX7 257 RX7 yX7_run wsX7_run) := goodIn_app (goodIn_of _ (by decide +kernel)) ggX7_board_X7_run
set_option maxRecDepth 20000 in
theorem ggX7_board_X7_square : GoodIn wsX7_board wsX7_square := goodIn_r _ [15] (by decide +kernel) (by decide +kernel)
set_option maxRecDepth 20000 in
theorem gX7_board_X7_square : GoodIn wsX7_board (va_wsS RX7 236 yX7_square wsX7_square) := goodIn_app (goodIn_of _ (by decide +kernel)) ggX7_board_X7_square
set_option maxRecDepth 20000 in
theorem ggX7_board_X7_size : GoodIn wsX7_board wsX7_size := goodIn_r _ [32] (by decide +kernel) (by decide +kernel)
set_option maxRecDepth 20000 in
theorem gX7_board_X7_size : GoodIn wsX7_board (va_wsS RX7 260 yX7_size wsX7_size) := goodIn_app (goodIn_of _ (by decide +kernel)) ggX7_board_X7_size
theorem dX7_board_0 : decode cX7_board 0 = .ok (.iload_n 1, 1) := by decide +kernel
theorem dX7_board_1 : decode cX7_board 1 = .ok (.i2l, 1) := by decide +kernel
theorem dX7_board_2 : decode cX7_board 2 = .ok (.lconst 0, 1) := by decide +kernel
theorem dX7_board_3 : decode cX7_board 3 = .ok (.ldc2_w 255, 3) := by decide +kernel
theorem dX7_board_6 : decode cX7_board 6 = .ok (.invokestatic 68, 3) := by decide +kernel
theorem dX7_board_9 : decode cX7_board 9 = .ok (.ifCond .ne 7, 3) := by decide +kernel
theorem dX7_board_12 : decode cX7_board 12 = .ok (.sipush (-1002), 3) := by decide +kernel
theorem dX7_board_15 : decode cX7_board 15 = .ok (.ireturn, 1) := by decide +kernel
theorem dX7_board_16 : decode cX7_board 16 = .ok (.aload_n 0, 1) := by decide +kernel
theorem dX7_board_17 : decode cX7_board 17 = .ok (.invokevirtual 257, 3) := by decide +kernel
theorem dX7_board_20 : decode cX7_board 20 = .ok (.iconst 0, 1) := by decide +kernel
theorem dX7_board_21 : decode cX7_board 21 = .ok (.istore_n 2, 1) := by decide +kernel
theorem dX7_board_22 : decode cX7_board 22 = .ok (.iconst 0, 1) := by decide +kernel
theorem dX7_board_23 : decode cX7_board 23 = .ok (.istore_n 3, 1) := by decide +kernel
theorem dX7_board_24 : decode cX7_board 24 = .ok (.bipush (-30), 2) := by decide +kernel
theorem dX7_board_26 : decode cX7_board 26 = .ok (.istore 4, 2) := by decide +kernel
theorem dX7_board_28 : decode cX7_board 28 = .ok (.iload 4, 2) := by decide +kernel
theorem dX7_board_30 : decode cX7_board 30 = .ok (.bipush 30, 2) := by decide +kernel
theorem dX7_board_32 : decode cX7_board 32 = .ok (.if_icmp .gt 98, 3) := by decide +kernel
theorem dX7_board_35 : decode cX7_board 35 = .ok (.bipush (-30), 2) := by decide +kernel
theorem dX7_board_37 : decode cX7_board 37 = .ok (.istore 5, 2) := by decide +kernel
theorem dX7_board_39 : decode cX7_board 39 = .ok (.iload 5, 2) := by decide +kernel
theorem dX7_board_41 : decode cX7_board 41 = .ok (.bipush 30, 2) := by decide +kernel
theorem dX7_board_43 : decode cX7_board 43 = .ok (.if_icmp .gt 81, 3) := by decide +kernel
theorem dX7_board_46 : decode cX7_board 46 = .ok (.aload_n 0, 1) := by decide +kernel
theorem dX7_board_47 : decode cX7_board 47 = .ok (.getfield 59, 3) := by decide +kernel
theorem dX7_board_50 : decode cX7_board 50 = .ok (.iload 5, 2) := by decide +kernel
theorem dX7_board_52 : decode cX7_board 52 = .ok (.iload 4, 2) := by decide +kernel
theorem dX7_board_54 : decode cX7_board 54 = .ok (.invokestatic 236, 3) := by decide +kernel
theorem dX7_board_57 : decode cX7_board 57 = .ok (.iaload, 1) := by decide +kernel
theorem dX7_board_58 : decode cX7_board 58 = .ok (.iconst 1, 1) := by decide +kernel
theorem dX7_board_59 : decode cX7_board 59 = .ok (.if_icmp .ne 7, 3) := by decide +kernel
theorem dX7_board_62 : decode cX7_board 62 = .ok (.iconst 1, 1) := by decide +kernel
theorem dX7_board_63 : decode cX7_board 63 = .ok (.goto 4, 3) := by decide +kernel
theorem dX7_board_66 : decode cX7_board 66 = .ok (.iconst 0, 1) := by decide +kernel
theorem dX7_board_67 : decode cX7_board 67 = .ok (.istore 6, 2) := by decide +kernel
theorem dX7_board_69 : decode cX7_board 69 = .ok (.iload_n 2, 1) := by decide +kernel
theorem dX7_board_70 : decode cX7_board 70 = .ok (.iload 6, 2) := by decide +kernel
theorem dX7_board_72 : decode cX7_board 72 = .ok (.ifCond .eq 7, 3) := by decide +kernel
theorem dX7_board_75 : decode cX7_board 75 = .ok (.iconst 1, 1) := by decide +kernel
theorem dX7_board_76 : decode cX7_board 76 = .ok (.goto 4, 3) := by decide +kernel
theorem dX7_board_79 : decode cX7_board 79 = .ok (.iconst 0, 1) := by decide +kernel
theorem dX7_board_80 : decode cX7_board 80 = .ok (.iadd, 1) := by decide +kernel
theorem dX7_board_81 : decode cX7_board 81 = .ok (.istore_n 2, 1) := by decide +kernel
theorem dX7_board_82 : decode cX7_board 82 = .ok (.iload 6, 2) := by decide +kernel
theorem dX7_board_84 : decode cX7_board 84 = .ok (.ifCond .eq 32, 3) := by decide +kernel
theorem dX7_board_87 : decode cX7_board 87 = .ok (.iload 5, 2) := by decide +kernel
theorem dX7_board_89 : decode cX7_board 89 = .ok (.invokestatic 260, 3) := by decide +kernel
theorem dX7_board_92 : decode cX7_board 92 = .ok (.iload 4, 2) := by decide +kernel
theorem dX7_board_94 : decode cX7_board 94 = .ok (.invokestatic 260, 3) := by decide +kernel
theorem dX7_board_97 : decode cX7_board 97 = .ok (.iadd, 1) := by decide +kernel
theorem dX7_board_98 : decode cX7_board 98 = .ok (.iload_n 3, 1) := by decide +kernel
theorem dX7_board_99 : decode cX7_board 99 = .ok (.if_icmp .le 17, 3) := by decide +kernel
theorem dX7_board_102 : decode cX7_board 102 = .ok (.iload 5, 2) := by decide +kernel
theorem dX7_board_104 : decode cX7_board 104 = .ok (.invokestatic 260, 3) := by decide +kernel
theorem dX7_board_107 : decode cX7_board 107 = .ok (.iload 4, 2) := by decide +kernel
theorem dX7_board_109 : decode cX7_board 109 = .ok (.invokestatic 260, 3) := by decide +kernel
theorem dX7_board_112 : decode cX7_board 112 = .ok (.iadd, 1) := by decide +kernel
theorem dX7_board_113 : decode cX7_board 113 = .ok (.goto 4, 3) := by decide +kernel
theorem dX7_board_116 : decode cX7_board 116 = .ok (.iload_n 3, 1) := by decide +kernel
theorem dX7_board_117 : decode cX7_board 117 = .ok (.istore_n 3, 1) := by decide +kernel
theorem dX7_board_118 : decode cX7_board 118 = .ok (.iinc 5 1, 3) := by decide +kernel
theorem dX7_board_121 : decode cX7_board 121 = .ok (.goto (-82), 3) := by decide +kernel
theorem dX7_board_124 : decode cX7_board 124 = .ok (.iinc 4 1, 3) := by decide +kernel
theorem dX7_board_127 : decode cX7_board 127 = .ok (.goto (-99), 3) := by decide +kernel
theorem dX7_board_130 : decode cX7_board 130 = .ok (.iload_n 1, 1) := by decide +kernel
theorem dX7_board_131 : decode cX7_board 131 = .ok (.ifCond .ne 10, 3) := by decide +kernel
theorem dX7_board_134 : decode cX7_board 134 = .ok (.aload_n 0, 1) := by decide +kernel
theorem dX7_board_135 : decode cX7_board 135 = .ok (.getfield 246, 3) := by decide +kernel
theorem dX7_board_138 : decode cX7_board 138 = .ok (.goto 25, 3) := by decide +kernel
theorem dX7_board_141 : decode cX7_board 141 = .ok (.iload_n 1, 1) := by decide +kernel
theorem dX7_board_142 : decode cX7_board 142 = .ok (.iconst 1, 1) := by decide +kernel
theorem dX7_board_143 : decode cX7_board 143 = .ok (.if_icmp .ne 7, 3) := by decide +kernel
theorem dX7_board_146 : decode cX7_board 146 = .ok (.iload_n 2, 1) := by decide +kernel
theorem dX7_board_147 : decode cX7_board 147 = .ok (.goto 16, 3) := by decide +kernel
theorem dX7_board_150 : decode cX7_board 150 = .ok (.iload_n 1, 1) := by decide +kernel
theorem dX7_board_151 : decode cX7_board 151 = .ok (.iconst 2, 1) := by decide +kernel
theorem dX7_board_152 : decode cX7_board 152 = .ok (.if_icmp .ne 10, 3) := by decide +kernel
theorem dX7_board_155 : decode cX7_board 155 = .ok (.aload_n 0, 1) := by decide +kernel
theorem dX7_board_156 : decode cX7_board 156 = .ok (.getfield 239, 3) := by decide +kernel
theorem dX7_board_159 : decode cX7_board 159 = .ok (.goto 4, 3) := by decide +kernel
theorem dX7_board_162 : decode cX7_board 162 = .ok (.iload_n 3, 1) := by decide +kernel
theorem dX7_board_163 : decode cX7_board 163 = .ok (.ireturn, 1) := by decide +kernel
theorem dJ6_bitCount_0f7a4_0 : decode cJ6_bitCount_0f7a4 0 = .ok (.iload_n 0, 1) := by decide +kernel
theorem dJ6_bitCount_0f7a4_1 : decode cJ6_bitCount_0f7a4 1 = .ok (.iload_n 0, 1) := by decide +kernel
theorem dJ6_bitCount_0f7a4_2 : decode cJ6_bitCount_0f7a4 2 = .ok (.iconst 1, 1) := by decide +kernel
theorem dJ6_bitCount_0f7a4_3 : decode cJ6_bitCount_0f7a4 3 = .ok (.iushr, 1) := by decide +kernel
theorem dJ6_bitCount_0f7a4_4 : decode cJ6_bitCount_0f7a4 4 = .ok (.ldc_w 265, 3) := by decide +kernel
theorem dJ6_bitCount_0f7a4_7 : decode cJ6_bitCount_0f7a4 7 = .ok (.iand, 1) := by decide +kernel
theorem dJ6_bitCount_0f7a4_8 : decode cJ6_bitCount_0f7a4 8 = .ok (.isub, 1) := by decide +kernel
theorem dJ6_bitCount_0f7a4_9 : decode cJ6_bitCount_0f7a4 9 = .ok (.istore_n 0, 1) := by decide +kernel
theorem dJ6_bitCount_0f7a4_10 : decode cJ6_bitCount_0f7a4 10 = .ok (.iload_n 0, 1) := by decide +kernel
theorem dJ6_bitCount_0f7a4_11 : decode cJ6_bitCount_0f7a4 11 = .ok (.ldc_w 266, 3) := by decide +kernel
theorem dJ6_bitCount_0f7a4_14 : decode cJ6_bitCount_0f7a4 14 = .ok (.iand, 1) := by decide +kernel
theorem dJ6_bitCount_0f7a4_15 : decode cJ6_bitCount_0f7a4 15 = .ok (.iload_n 0, 1) := by decide +kernel
theorem dJ6_bitCount_0f7a4_16 : decode cJ6_bitCount_0f7a4 16 = .ok (.iconst 2, 1) := by decide +kernel
theorem dJ6_bitCount_0f7a4_17 : decode cJ6_bitCount_0f7a4 17 = .ok (.iushr, 1) := by decide +kernel
theorem dJ6_bitCount_0f7a4_18 : decode cJ6_bitCount_0f7a4 18 = .ok (.ldc_w 266, 3) := by decide +kernel
theorem dJ6_bitCount_0f7a4_21 : decode cJ6_bitCount_0f7a4 21 = .ok (.iand, 1) := by decide +kernel
theorem dJ6_bitCount_0f7a4_22 : decode cJ6_bitCount_0f7a4 22 = .ok (.iadd, 1) := by decide +kernel
theorem dJ6_bitCount_0f7a4_23 : decode cJ6_bitCount_0f7a4 23 = .ok (.istore_n 0, 1) := by decide +kernel
theorem dJ6_bitCount_0f7a4_24 : decode cJ6_bitCount_0f7a4 24 = .ok (.iload_n 0, 1) := by decide +kernel
theorem dJ6_bitCount_0f7a4_25 : decode cJ6_bitCount_0f7a4 25 = .ok (.iload_n 0, 1) := by decide +kernel
theorem dJ6_bitCount_0f7a4_26 : decode cJ6_bitCount_0f7a4 26 = .ok (.iconst 4, 1) := by decide +kernel
theorem dJ6_bitCount_0f7a4_27 : decode cJ6_bitCount_0f7a4 27 = .ok (.iushr, 1) := by decide +kernel
theorem dJ6_bitCount_0f7a4_28 : decode cJ6_bitCount_0f7a4 28 = .ok (.iadd, 1) := by decide +kernel
theorem dJ6_bitCount_0f7a4_29 : decode cJ6_bitCount_0f7a4 29 = .ok (.ldc_w 267, 3) := by decide +kernel
theorem dJ6_bitCount_0f7a4_32 : decode cJ6_bitCount_0f7a4 32 = .ok (.iand, 1) := by decide +kernel
theorem dJ6_bitCount_0f7a4_33 : decode cJ6_bitCount_0f7a4 33 = .ok (.istore_n 0, 1) := by decide +kernel
theorem dJ6_bitCount_0f7a4_34 : decode cJ6_bitCount_0f7a4 34 = .ok (.iload_n 0, 1) := by decide +kernel
theorem dJ6_bitCount_0f7a4_35 : decode cJ6_bitCount_0f7a4 35 = .ok (.iload_n 0, 1) := by decide +kernel
theorem dJ6_bitCount_0f7a4_36 : decode cJ6_bitCount_0f7a4 36 = .ok (.bipush 8, 2) := by decide +kernel
theorem dJ6_bitCount_0f7a4_38 : decode cJ6_bitCount_0f7a4 38 = .ok (.iushr, 1) := by decide +kernel
theorem dJ6_bitCount_0f7a4_39 : decode cJ6_bitCount_0f7a4 39 = .ok (.iadd, 1) := by decide +kernel
theorem dJ6_bitCount_0f7a4_40 : decode cJ6_bitCount_0f7a4 40 = .ok (.istore_n 0, 1) := by decide +kernel
theorem dJ6_bitCount_0f7a4_41 : decode cJ6_bitCount_0f7a4 41 = .ok (.iload_n 0, 1) := by decide +kernel
theorem dJ6_bitCount_0f7a4_42 : decode cJ6_bitCount_0f7a4 42 = .ok (.iload_n 0, 1) := by decide +kernel
theorem dJ6_bitCount_0f7a4_43 : decode cJ6_bitCount_0f7a4 43 = .ok (.bipush 16, 2) := by decide +kernel
theorem dJ6_bitCount_0f7a4_45 : decode cJ6_bitCount_0f7a4 45 = .ok (.iushr, 1) := by decide +kernel
theorem dJ6_bitCount_0f7a4_46 : decode cJ6_bitCount_0f7a4 46 = .ok (.iadd, 1) := by decide +kernel
theorem dJ6_bitCount_0f7a4_47 : decode cJ6_bitCount_0f7a4 47 = .ok (.istore_n 0, 1) := by decide +kernel
theorem dJ6_bitCount_0f7a4_48 : decode cJ6_bitCount_0f7a4 48 = .ok (.iload_n 0, 1) := by decide +kernel
theorem dJ6_bitCount_0f7a4_49 : decode cJ6_bitCount_0f7a4 49 = .ok (.bipush 63, 2) := by decide +kernel
theorem dJ6_bitCount_0f7a4_51 : decode cJ6_bitCount_0f7a4 51 = .ok (.iand, 1) := by decide +kernel
theorem dJ6_bitCount_0f7a4_52 : decode cJ6_bitCount_0f7a4 52 = .ok (.ireturn, 1) := by decide +kernel
theorem dJ13_bitCount_95d88_0 : decode cJ13_bitCount_95d88 0 = .ok (.lload_n 0, 1) := by decide +kernel
theorem dJ13_bitCount_95d88_1 : decode cJ13_bitCount_95d88 1 = .ok (.lload_n 0, 1) := by decide +kernel
theorem dJ13_bitCount_95d88_2 : decode cJ13_bitCount_95d88 2 = .ok (.iconst 1, 1) := by decide +kernel
theorem dJ13_bitCount_95d88_3 : decode cJ13_bitCount_95d88 3 = .ok (.lushr, 1) := by decide +kernel
theorem dJ13_bitCount_95d88_4 : decode cJ13_bitCount_95d88 4 = .ok (.ldc2_w 314, 3) := by decide +kernel
theorem dJ13_bitCount_95d88_7 : decode cJ13_bitCount_95d88 7 = .ok (.land, 1) := by decide +kernel
theorem dJ13_bitCount_95d88_8 : decode cJ13_bitCount_95d88 8 = .ok (.lsub, 1) := by decide +kernel
theorem dJ13_bitCount_95d88_9 : decode cJ13_bitCount_95d88 9 = .ok (.lstore_n 0, 1) := by decide +kernel
theorem dJ13_bitCount_95d88_10 : decode cJ13_bitCount_95d88 10 = .ok (.lload_n 0, 1) := by decide +kernel
theorem dJ13_bitCount_95d88_11 : decode cJ13_bitCount_95d88 11 = .ok (.ldc2_w 316, 3) := by decide +kernel
theorem dJ13_bitCount_95d88_14 : decode cJ13_bitCount_95d88 14 = .ok (.land, 1) := by decide +kernel
theorem dJ13_bitCount_95d88_15 : decode cJ13_bitCount_95d88 15 = .ok (.lload_n 0, 1) := by decide +kernel
theorem dJ13_bitCount_95d88_16 : decode cJ13_bitCount_95d88 16 = .ok (.iconst 2, 1) := by decide +kernel
theorem dJ13_bitCount_95d88_17 : decode cJ13_bitCount_95d88 17 = .ok (.lushr, 1) := by decide +kernel
theorem dJ13_bitCount_95d88_18 : decode cJ13_bitCount_95d88 18 = .ok (.ldc2_w 316, 3) := by decide +kernel
theorem dJ13_bitCount_95d88_21 : decode cJ13_bitCount_95d88 21 = .ok (.land, 1) := by decide +kernel
theorem dJ13_bitCount_95d88_22 : decode cJ13_bitCount_95d88 22 = .ok (.ladd, 1) := by decide +kernel
theorem dJ13_bitCount_95d88_23 : decode cJ13_bitCount_95d88 23 = .ok (.lstore_n 0, 1) := by decide +kernel
theorem dJ13_bitCount_95d88_24 : decode cJ13_bitCount_95d88 24 = .ok (.lload_n 0, 1) := by decide +kernel
theorem dJ13_bitCount_95d88_25 : decode cJ13_bitCount_95d88 25 = .ok (.lload_n 0, 1) := by decide +kernel
theorem dJ13_bitCount_95d88_26 : decode cJ13_bitCount_95d88 26 = .ok (.iconst 4, 1) := by decide +kernel
theorem dJ13_bitCount_95d88_27 : decode cJ13_bitCount_95d88 27 = .ok (.lushr, 1) := by decide +kernel
theorem dJ13_bitCount_95d88_28 : decode cJ13_bitCount_95d88 28 = .ok (.ladd, 1) := by decide +kernel
theorem dJ13_bitCount_95d88_29 : decode cJ13_bitCount_95d88 29 = .ok (.ldc2_w 318, 3) := by decide +kernel
theorem dJ13_bitCount_95d88_32 : decode cJ13_bitCount_95d88 32 = .ok (.land, 1) := by decide +kernel
theorem dJ13_bitCount_95d88_33 : decode cJ13_bitCount_95d88 33 = .ok (.lstore_n 0, 1) := by decide +kernel
theorem dJ13_bitCount_95d88_34 : decode cJ13_bitCount_95d88 34 = .ok (.lload_n 0, 1) := by decide +kernel
theorem dJ13_bitCount_95d88_35 : decode cJ13_bitCount_95d88 35 = .ok (.lload_n 0, 1) := by decide +kernel
theorem dJ13_bitCount_95d88_36 : decode cJ13_bitCount_95d88 36 = .ok (.bipush 8, 2) := by decide +kernel
theorem dJ13_bitCount_95d88_38 : decode cJ13_bitCount_95d88 38 = .ok (.lushr, 1) := by decide +kernel
theorem dJ13_bitCount_95d88_39 : decode cJ13_bitCount_95d88 39 = .ok (.ladd, 1) := by decide +kernel
theorem dJ13_bitCount_95d88_40 : decode cJ13_bitCount_95d88 40 = .ok (.lstore_n 0, 1) := by decide +kernel
theorem dJ13_bitCount_95d88_41 : decode cJ13_bitCount_95d88 41 = .ok (.lload_n 0, 1) := by decide +kernel
theorem dJ13_bitCount_95d88_42 : decode cJ13_bitCount_95d88 42 = .ok (.lload_n 0, 1) := by decide +kernel
theorem dJ13_bitCount_95d88_43 : decode cJ13_bitCount_95d88 43 = .ok (.bipush 16, 2) := by decide +kernel
theorem dJ13_bitCount_95d88_45 : decode cJ13_bitCount_95d88 45 = .ok (.lushr, 1) := by decide +kernel
theorem dJ13_bitCount_95d88_46 : decode cJ13_bitCount_95d88 46 = .ok (.ladd, 1) := by decide +kernel
theorem dJ13_bitCount_95d88_47 : decode cJ13_bitCount_95d88 47 = .ok (.lstore_n 0, 1) := by decide +kernel
theorem dJ13_bitCount_95d88_48 : decode cJ13_bitCount_95d88 48 = .ok (.lload_n 0, 1) := by decide +kernel
theorem dJ13_bitCount_95d88_49 : decode cJ13_bitCount_95d88 49 = .ok (.lload_n 0, 1) := by decide +kernel
theorem dJ13_bitCount_95d88_50 : decode cJ13_bitCount_95d88 50 = .ok (.bipush 32, 2) := by decide +kernel
theorem dJ13_bitCount_95d88_52 : decode cJ13_bitCount_95d88 52 = .ok (.lushr, 1) := by decide +kernel
theorem dJ13_bitCount_95d88_53 : decode cJ13_bitCount_95d88 53 = .ok (.ladd, 1) := by decide +kernel
theorem dJ13_bitCount_95d88_54 : decode cJ13_bitCount_95d88 54 = .ok (.lstore_n 0, 1) := by decide +kernel
theorem dJ13_bitCount_95d88_55 : decode cJ13_bitCount_95d88 55 = .ok (.lload_n 0, 1) := by decide +kernel
theorem dJ13_bitCount_95d88_56 : decode cJ13_bitCount_95d88 56 = .ok (.l2i, 1) := by decide +kernel
theorem dJ13_bitCount_95d88_57 : decode cJ13_bitCount_95d88 57 = .ok (.bipush 127, 2) := by decide +kernel
theorem dJ13_bitCount_95d88_59 : decode cJ13_bitCount_95d88 59 = .ok (.iand, 1) := by decide +kernel
theorem dJ13_bitCount_95d88_60 : decode cJ13_bitCount_95d88 60 = .ok (.ireturn, 1) := by decide +kernel
theorem dJ9_abs_0f7a4_0 : decode cJ9_abs_0f7a4 0 = .ok (.iload_n 0, 1) := by decide +kernel
theorem dJ9_abs_0f7a4_1 : decode cJ9_abs_0f7a4 1 = .ok (.ifCond .ge 8, 3) := by decide +kernel
theorem dJ9_abs_0f7a4_4 : decode cJ9_abs_0f7a4 4 = .ok (.iload_n 0, 1) := by decide +kernel
theorem dJ9_abs_0f7a4_5 : decode cJ9_abs_0f7a4 5 = .ok (.ineg, 1) := by decide +kernel
theorem dJ9_abs_0f7a4_6 : decode cJ9_abs_0f7a4 6 = .ok (.goto 4, 3) := by decide +kernel
theorem dJ9_abs_0f7a4_9 : decode cJ9_abs_0f7a4 9 = .ok (.iload_n 0, 1) := by decide +kernel
theorem dJ9_abs_0f7a4_10 : decode cJ9_abs_0f7a4 10 = .ok (.ireturn, 1) := by decide +kernel
theorem dJ9_max_7cf53_0 : decode cJ9_max_7cf53 0 = .ok (.iload_n 0, 1) := by decide +kernel
theorem dJ9_max_7cf53_1 : decode cJ9_max_7cf53 1 = .ok (.iload_n 1, 1) := by decide +kernel
theorem dJ9_max_7cf53_2 : decode cJ9_max_7cf53 2 = .ok (.if_icmp .lt 7, 3) := by decide +kernel
theorem dJ9_max_7cf53_5 : decode cJ9_max_7cf53 5 = .ok (.iload_n 0, 1) := by decide +kernel
theorem dJ9_max_7cf53_6 : decode cJ9_max_7cf53 6 = .ok (.goto 4, 3) := by decide +kernel
theorem dJ9_max_7cf53_9 : decode cJ9_max_7cf53 9 = .ok (.iload_n 1, 1) := by decide +kernel
theorem dJ9_max_7cf53_10 : decode cJ9_max_7cf53 10 = .ok (.ireturn, 1) := by decide +kernel
theorem dJ9_min_7cf53_0 : decode cJ9_min_7cf53 0 = .ok (.iload_n 0, 1) := by decide +kernel
theorem dJ9_min_7cf53_1 : decode cJ9_min_7cf53 1 = .ok (.iload_n 1, 1) := by decide +kernel
theorem dJ9_min_7cf53_2 : decode cJ9_min_7cf53 2 = .ok (.if_icmp .gt 7, 3) := by decide +kernel
theorem dJ9_min_7cf53_5 : decode cJ9_min_7cf53 5 = .ok (.iload_n 0, 1) := by decide +kernel
theorem dJ9_min_7cf53_6 : decode cJ9_min_7cf53 6 = .ok (.goto 4, 3) := by decide +kernel
theorem dJ9_min_7cf53_9 : decode cJ9_min_7cf53 9 = .ok (.iload_n 1, 1) := by decide +kernel
theorem dJ9_min_7cf53_10 : decode cJ9_min_7cf53 10 = .ok (.ireturn, 1) := by decide +kernel
theorem dJ7_fill_d0a16_0 : decode cJ7_fill_d0a16 0 = .ok (.iconst 0, 1) := by decide +kernel
theorem dJ7_fill_d0a16_1 : decode cJ7_fill_d0a16 1 = .ok (.istore_n 3, 1) := by decide +kernel
theorem dJ7_fill_d0a16_2 : decode cJ7_fill_d0a16 2 = .ok (.aload_n 0, 1) := by decide +kernel
theorem dJ7_fill_d0a16_3 : decode cJ7_fill_d0a16 3 = .ok (.arraylength, 1) := by decide +kernel
theorem dJ7_fill_d0a16_4 : decode cJ7_fill_d0a16 4 = .ok (.istore 4, 2) := by decide +kernel
theorem dJ7_fill_d0a16_6 : decode cJ7_fill_d0a16 6 = .ok (.iload_n 3, 1) := by decide +kernel
theorem dJ7_fill_d0a16_7 : decode cJ7_fill_d0a16 7 = .ok (.iload 4, 2) := by decide +kernel
theorem dJ7_fill_d0a16_9 : decode cJ7_fill_d0a16 9 = .ok (.if_icmp .ge 13, 3) := by decide +kernel
theorem dJ7_fill_d0a16_12 : decode cJ7_fill_d0a16 12 = .ok (.aload_n 0, 1) := by decide +kernel
theorem dJ7_fill_d0a16_13 : decode cJ7_fill_d0a16 13 = .ok (.iload_n 3, 1) := by decide +kernel
theorem dJ7_fill_d0a16_14 : decode cJ7_fill_d0a16 14 = .ok (.lload_n 1, 1) := by decide +kernel
theorem dJ7_fill_d0a16_15 : decode cJ7_fill_d0a16 15 = .ok (.lastore, 1) := by decide +kernel
theorem dJ7_fill_d0a16_16 : decode cJ7_fill_d0a16 16 = .ok (.iinc 3 1, 3) := by decide +kernel
theorem dJ7_fill_d0a16_19 : decode cJ7_fill_d0a16 19 = .ok (.goto (-13), 3) := by decide +kernel
theorem dJ7_fill_d0a16_22 : decode cJ7_fill_d0a16 22 = .ok (.return_, 1) := by decide +kernel
theorem dJ7_fill_53178_0 : decode cJ7_fill_53178 0 = .ok (.iconst 0, 1) := by decide +kernel
theorem dJ7_fill_53178_1 : decode cJ7_fill_53178 1 = .ok (.istore_n 2, 1) := by decide +kernel
theorem dJ7_fill_53178_2 : decode cJ7_fill_53178 2 = .ok (.aload_n 0, 1) := by decide +kernel
theorem dJ7_fill_53178_3 : decode cJ7_fill_53178 3 = .ok (.arraylength, 1) := by decide +kernel
theorem dJ7_fill_53178_4 : decode cJ7_fill_53178 4 = .ok (.istore_n 3, 1) := by decide +kernel
theorem dJ7_fill_53178_5 : decode cJ7_fill_53178 5 = .ok (.iload_n 2, 1) := by decide +kernel
theorem dJ7_fill_53178_6 : decode cJ7_fill_53178 6 = .ok (.iload_n 3, 1) := by decide +kernel
theorem dJ7_fill_53178_7 : decode cJ7_fill_53178 7 = .ok (.if_icmp .ge 13, 3) := by decide +kernel
theorem dJ7_fill_53178_10 : decode cJ7_fill_53178 10 = .ok (.aload_n 0, 1) := by decide +kernel
theorem dJ7_fill_53178_11 : decode cJ7_fill_53178 11 = .ok (.iload_n 2, 1) := by decide +kernel
theorem dJ7_fill_53178_12 : decode cJ7_fill_53178 12 = .ok (.iload_n 1, 1) := by decide +kernel
theorem dJ7_fill_53178_13 : decode cJ7_fill_53178 13 = .ok (.iastore, 1) := by decide +kernel
theorem dJ7_fill_53178_14 : decode cJ7_fill_53178 14 = .ok (.iinc 2 1, 3) := by decide +kernel
theorem dJ7_fill_53178_17 : decode cJ7_fill_53178 17 = .ok (.goto (-12), 3) := by decide +kernel
theorem dJ7_fill_53178_20 : decode cJ7_fill_53178 20 = .ok (.return_, 1) := by decide +kernel
set_option maxRecDepth 20000 in
theorem ggL_law_X6_init : GoodIn wsL_law wsX6_init := goodIn_r _ [8, 9, 10, 11, 12, 13, 14, 15, 16, 17, 18, 19, 20, 21, 22, 23, 24, 25, 26, 27, 28, 29, 30, 31, 32, 33, 34, 35, 36, 37, 38, 39, 40, 41, 42, 43, 44, 45, 46, 47, 48, 49, 50, 51, 52, 53, 54, 55, 56, 57, 58, 59, 60, 61, 62, 63, 64, 65, 66, 67, 68, 69, 70, 71, 72, 73, 74, 75, 76, 77, 78, 79, 80, 81, 82, 83, 84, 85, 86, 87, 88, 89, 90, 795, 796, 797, 798, 799, 800, 753, 754, 755, 756, 757, 758, 759, 760, 801, 802, 803, 804, 805, 806, 807, 808, 809, 810, 811, 812, 813, 814, 815, 816, 817, 818, 819, 820, 821, 822, 823, 824, 825, 826, 827, 828, 829, 830, 831] (by decide +kernel) (by decide +kernel)
set_option maxRecDepth 20000 in
theorem gL_law_X6_init : GoodIn wsL_law (wsX6_init) := ggL_law_X6_init
set_option maxRecDepth 20000 in
theorem ggL_law_X7_init : GoodIn wsL_law wsX7_init := goodIn_r _ [93, 94, 10, 11, 95, 20, 96, 97, 98, 99, 100, 101, 102, 103, 104, 105, 106, 107, 108, 109, 110, 111, 112, 113, 114, 5, 115, 116, 761, 762, 763, 764, 765, 766, 767, 768, 769, 770, 771, 772, 773, 774, 775, 776, 777, 778, 779, 780, 781, 782, 783, 784, 785, 786, 787, 788, 789, 790, 791, 792, 793, 794] (by decide +kernel) (by decide +kernel)
set_option maxRecDepth 20000 in
theorem gL_law_X7_init : GoodIn wsL_law (wsX7_init) := ggL_law_X7_init
set_option maxRecDepth 20000 in
theorem ggL_law_X6_net : GoodIn wsL_law wsX6_net := goodIn_r _ [120, 15, 21, 121, 122, 2, 123, 124, 48, 49, 14, 50, 51, 52, 43, 44, 45, 53, 54, 55, 56, 125, 753, 754, 755, 756, 757, 758, 759, 760, 795, 796, 797, 798, 799, 800] (by decide +kernel) (by decide +kernel)
set_option maxRecDepth 20000 in
theorem gL_law_X6_net : GoodIn wsL_law (wsV RL 13 RX6 yX6_net wsX6_net) := goodIn_app (goodIn_of _ (by decide +kernel)) ggL_law_X6_net
set_option maxRecDepth 20000 in
theorem ggL_law_X7_net : GoodIn wsL_law wsX7_net := goodIn_r _ [129, 130, 95, 131, 132, 5, 133, 112, 113, 114, 115, 116, 97, 98, 99, 102, 761, 762, 763, 764, 765, 766, 767, 768, 769, 770, 771, 772, 773, 774, 775, 776, 777, 778, 779, 780, 781, 782, 783, 784, 785, 786, 787, 788, 789, 790, 791, 792, 793, 794] (by decide +kernel) (by decide +kernel)
set_option maxRecDepth 20000 in
theorem gL_law_X7_net : GoodIn wsL_law (wsV RL 17 RX7 yX7_net wsX7_net) := goodIn_app (goodIn_of _ (by decide +kernel)) ggL_law_X7_net
set_option maxRecDepth 20000 in
theorem ggL_law_X6_line : GoodIn wsL_law wsX6_line := goodIn_r _ [137, 15, 138, 139, 140, 141, 14, 142, 51, 122, 2, 123, 143, 144, 145, 146, 147, 148, 149, 150, 45, 151, 152, 153, 154, 155, 156, 52, 46, 157, 753, 754, 755, 756, 757, 758, 759, 760, 795, 796, 797, 798, 799, 800] (by decide +kernel) (by decide +kernel)
set_option maxRecDepth 20000 in
theorem gL_law_X6_line : GoodIn wsL_law (wsV RL 18 RX6 yX6_line wsX6_line) := goodIn_app (goodIn_of _ (by decide +kernel)) ggL_law_X6_line
set_option maxRecDepth 20000 in
theorem ggL_law_X7_line : GoodIn wsL_law wsX7_line := goodIn_r _ [161, 97, 116, 96, 162, 163, 164, 5, 165, 95, 131, 132, 133, 761, 762, 763, 764, 765, 766, 767, 768, 769, 770, 771, 772, 773, 774, 775, 776, 777, 778, 779, 780, 781, 782, 783, 784, 785, 786, 787, 788, 789, 790, 791, 792, 793, 794] (by decide +kernel) (by decide +kernel)
set_option maxRecDepth 20000 in
theorem gL_law_X7_line : GoodIn wsL_law (wsV RL 22 RX7 yX7_line wsX7_line) := goodIn_app (goodIn_of _ (by decide +kernel)) ggL_law_X7_line
set_option maxRecDepth 20000 in
theorem ggL_law_X6_node : GoodIn wsL_law wsX6_node := goodIn_r _ [169, 15, 170, 171, 139, 140, 141, 14, 142, 51, 122, 2, 123, 121, 172, 173, 174, 753, 754, 755, 756, 757, 758, 759, 760, 795, 796, 797, 798, 799, 800] (by decide +kernel) (by decide +kernel)
set_option maxRecDepth 20000 in
theorem gL_law_X6_node : GoodIn wsL_law (wsV RL 23 RX6 yX6_node wsX6_node) := goodIn_app (goodIn_of _ (by decide +kernel)) ggL_law_X6_node
set_option maxRecDepth 20000 in
theorem ggL_law_X7_node : GoodIn wsL_law wsX7_node := goodIn_r _ [178, 179, 98, 99, 162, 163, 164, 5, 165, 95, 131, 132, 133, 761, 762, 763, 764, 765, 766, 767, 768, 769, 770, 771, 772, 773, 774, 775, 776, 777, 778, 779, 780, 781, 782, 783, 784, 785, 786, 787, 788, 789, 790, 791, 792, 793, 794] (by decide +kernel) (by decide +kernel)
set_option maxRecDepth 20000 in
theorem gL_law_X7_node : GoodIn wsL_law (wsV RL 27 RX7 yX7_node wsX7_node) := goodIn_app (goodIn_of _ (by decide +kernel)) ggL_law_X7_node
set_option maxRecDepth 20000 in
theorem ggL_law_X6_purse : GoodIn wsL_law wsX6_purse := goodIn_r _ [183, 19, 184, 121, 122, 2, 123, 172, 173, 174, 753, 754, 755, 756, 757, 758, 759, 760, 801, 802] (by decide +kernel) (by decide +kernel)
set_option maxRecDepth 20000 in
theorem gL_law_X6_purse : GoodIn wsL_law (wsV RL 28 RX6 yX6_purse wsX6_purse) := goodIn_app (goodIn_of _ (by decide +kernel)) ggL_law_X6_purse
set_option maxRecDepth 20000 in
theorem ggL_law_X7_purse : GoodIn wsL_law wsX7_purse := goodIn_r _ [188, 189, 190, 100, 131, 132, 5, 133, 761, 762, 763, 764, 765, 766, 767, 768, 769, 770, 771, 772, 773, 774, 775, 776, 777, 778, 779, 780, 781, 782, 783, 784, 785, 786, 787, 788, 789, 790, 791, 792, 793, 794] (by decide +kernel) (by decide +kernel)
set_option maxRecDepth 20000 in
theorem gL_law_X7_purse : GoodIn wsL_law (wsV RL 31 RX7 yX7_purse wsX7_purse) := goodIn_app (goodIn_of _ (by decide +kernel)) ggL_law_X7_purse
set_option maxRecDepth 20000 in
theorem ggL_law_X6_rule : GoodIn wsL_law wsX6_rule := goodIn_r _ [194, 19, 195, 38, 121, 122, 2, 123, 753, 754, 755, 756, 757, 758, 759, 760, 801, 802] (by decide +kernel) (by decide +kernel)
set_option maxRecDepth 20000 in
theorem gL_law_X6_rule : GoodIn wsL_law (wsV RL 32 RX6 yX6_rule wsX6_rule) := goodIn_app (goodIn_of _ (by decide +kernel)) ggL_law_X6_rule
set_option maxRecDepth 20000 in
theorem ggL_law_X7_rule : GoodIn wsL_law wsX7_rule := goodIn_r _ [199, 200, 201, 202, 101, 131, 132, 5, 133, 761, 762, 763, 764, 765, 766, 767, 768, 769, 770, 771, 772, 773, 774, 775, 776, 777, 778, 779, 780, 781, 782, 783, 784, 785, 786, 787, 788, 789, 790, 791, 792, 793, 794] (by decide +kernel) (by decide +kernel)
set_option maxRecDepth 20000 in
theorem gL_law_X7_rule : GoodIn wsL_law (wsV RL 35 RX7 yX7_rule wsX7_rule) := goodIn_app (goodIn_of _ (by decide +kernel)) ggL_law_X7_rule
set_option maxRecDepth 20000 in
theorem ggL_law_X6_count : GoodIn wsL_law wsX6_count := goodIn_r _ [206, 15, 207, 138, 37, 208, 209, 210, 211, 14, 212, 51, 213, 214, 215, 216, 43, 217, 218, 219, 220, 221, 222, 36, 223, 224, 86, 225, 226, 227, 228, 753, 754, 755, 756, 757, 758, 759, 760, 795, 796, 797, 798, 799, 800, 823, 824, 825, 826, 827, 828, 829, 830, 831] (by decide +kernel) (by decide +kernel)
set_option maxRecDepth 20000 in
theorem gL_law_X6_count : GoodIn wsL_law (wsV RL 36 RX6 yX6_count wsX6_count) := goodIn_app (goodIn_of _ (by decide +kernel)) ggL_law_X6_count
set_option maxRecDepth 20000 in
theorem ggL_law_X7_count : GoodIn wsL_law wsX7_count := goodIn_r _ [232, 233, 103, 95, 116, 234, 235, 236, 5, 237, 238, 239, 240, 241, 98, 761, 762, 763, 764, 765, 766, 767, 768, 769, 770, 771, 772, 773, 774, 775, 776, 777, 778, 779, 780, 781, 782, 783, 784, 785, 786, 787, 788, 789, 790, 791, 792, 793, 794] (by decide +kernel) (by decide +kernel)
set_option maxRecDepth 20000 in
theorem gL_law_X7_count : GoodIn wsL_law (wsV RL 39 RX7 yX7_count wsX7_count) := goodIn_app (goodIn_of _ (by decide +kernel)) ggL_law_X7_count
set_option maxRecDepth 20000 in
theorem ggL_law_X6_plan : GoodIn wsL_law wsX6_plan := goodIn_r _ [245, 21, 121, 122, 2, 123, 172, 173, 174, 753, 754, 755, 756, 757, 758, 759, 760] (by decide +kernel) (by decide +kernel)
set_option maxRecDepth 20000 in
theorem gL_law_X6_plan : GoodIn wsL_law (wsV RL 40 RX6 yX6_plan wsX6_plan) := goodIn_app (goodIn_of _ (by decide +kernel)) ggL_law_X6_plan
set_option maxRecDepth 20000 in
theorem ggL_law_X7_plan : GoodIn wsL_law wsX7_plan := goodIn_r _ [249, 189, 250, 102, 131, 132, 5, 133, 761, 762, 763, 764, 765, 766, 767, 768, 769, 770, 771, 772, 773, 774, 775, 776, 777, 778, 779, 780, 781, 782, 783, 784, 785, 786, 787, 788, 789, 790, 791, 792, 793, 794] (by decide +kernel) (by decide +kernel)
set_option maxRecDepth 20000 in
theorem gL_law_X7_plan : GoodIn wsL_law (wsV RL 43 RX7 yX7_plan wsX7_plan) := goodIn_app (goodIn_of _ (by decide +kernel)) ggL_law_X7_plan
set_option maxRecDepth 20000 in
theorem ggL_law_X6_play : GoodIn wsL_law wsX6_play := goodIn_r _ [254, 15, 25, 255, 256, 257, 258, 259, 260, 261, 262, 14, 263, 264, 210, 211, 212, 51, 122, 2, 123, 121, 265, 266, 267, 268, 19, 21, 269, 270, 271, 24, 272, 273, 274, 275, 276, 277, 278, 279, 280, 281, 282, 283, 284, 285, 286, 287, 288, 289, 290, 18, 291, 292, 293, 227, 294, 295, 226, 228, 61, 296, 297, 298, 299, 300, 301, 302, 303, 304, 305, 306, 307, 308, 44, 217, 218, 219, 309, 310, 311, 312, 313, 314, 315, 316, 317, 318, 319, 320, 321, 45, 151, 152, 322, 323, 324, 325, 326, 214, 215, 216, 43, 753, 754, 755, 756, 757, 758, 759, 760, 803, 804, 805, 806, 807, 808, 809, 795, 796, 797, 798, 799, 800, 801, 802] (by decide +kernel) (by decide +kernel)
set_option maxRecDepth 20000 in
theorem gL_law_X6_play : GoodIn wsL_law (wsV RL 44 RX6 yX6_play wsX6_play) := goodIn_app (goodIn_of _ (by decide +kernel)) ggL_law_X6_play
set_option maxRecDepth 20000 in
theorem ggL_law_X7_play : GoodIn wsL_law wsX7_play := goodIn_r _ [330, 331, 332, 333, 334, 335, 336, 337, 338, 339, 5, 340, 234, 235, 236, 237, 95, 131, 132, 133, 341, 342, 343, 344, 102, 345, 346, 347, 348, 349, 350, 351, 352, 353, 202, 100, 354, 355, 356, 357, 358, 359, 360, 361, 99, 362, 363, 364, 365, 366, 367, 368, 369, 370, 371, 372, 373, 97, 374, 375, 376, 377, 238, 239, 240, 241, 98, 761, 762, 763, 764, 765, 766, 767, 768, 769, 770, 771, 772, 773, 774, 775, 776, 777, 778, 779, 780, 781, 782, 783, 784, 785, 786, 787, 788, 789, 790, 791, 792, 793, 794] (by decide +kernel) (by decide +kernel)
set_option maxRecDepth 20000 in
theorem gL_law_X7_play : GoodIn wsL_law (wsV RL 47 RX7 yX7_play wsX7_play) := goodIn_app (goodIn_of _ (by decide +kernel)) ggL_law_X7_play
set_option maxRecDepth 20000 in
theorem ggL_law_X6_burns : GoodIn wsL_law wsX6_burns := goodIn_r _ [381, 15, 25, 256, 260, 261, 262, 14, 263, 264, 210, 211, 212, 51, 122, 2, 123, 121, 265, 266, 267, 268, 19, 21, 269, 270, 271, 24, 272, 273, 274, 275, 276, 277, 278, 279, 280, 281, 282, 283, 284, 285, 286, 287, 288, 289, 290, 18, 291, 292, 293, 227, 294, 295, 226, 228, 61, 296, 297, 298, 299, 300, 301, 302, 303, 304, 305, 306, 307, 308, 44, 217, 218, 219, 309, 310, 311, 312, 313, 314, 315, 316, 317, 318, 319, 320, 321, 45, 151, 152, 753, 754, 755, 756, 757, 758, 759, 760, 803, 804, 805, 806, 807, 808, 809, 795, 796, 797, 798, 799, 800, 801, 802] (by decide +kernel) (by decide +kernel)
set_option maxRecDepth 20000 in
theorem gL_law_X6_burns : GoodIn wsL_law (wsV RL 48 RX6 yX6_burns wsX6_burns) := goodIn_app (goodIn_of _ (by decide +kernel)) ggL_law_X6_burns
set_option maxRecDepth 20000 in
theorem ggL_law_X7_burns : GoodIn wsL_law wsX7_burns := goodIn_r _ [385, 190, 333, 337, 338, 339, 5, 340, 234, 235, 236, 237, 95, 131, 132, 133, 341, 342, 343, 344, 332, 335, 102, 345, 346, 347, 348, 334, 349, 336, 350, 351, 352, 353, 202, 100, 354, 355, 356, 357, 358, 359, 360, 361, 99, 362, 363, 364, 365, 366, 367, 368, 369, 370, 371, 372, 373, 97, 761, 762, 763, 764, 765, 766, 767, 768, 769, 770, 771, 772, 773, 774, 775, 776, 777, 778, 779, 780, 781, 782, 783, 784, 785, 786, 787, 788, 789, 790, 791, 792, 793, 794] (by decide +kernel) (by decide +kernel)
set_option maxRecDepth 20000 in
theorem gL_law_X7_burns : GoodIn wsL_law (wsV RL 51 RX7 yX7_burns wsX7_burns) := goodIn_app (goodIn_of _ (by decide +kernel)) ggL_law_X7_burns
set_option maxRecDepth 20000 in
theorem ggL_law_X6_best : GoodIn wsL_law wsX6_best := goodIn_r _ [389, 15, 29, 390, 391, 392, 393, 260, 261, 262, 14, 263, 264, 210, 211, 212, 51, 122, 2, 123, 121, 394, 395, 396, 397, 398, 19, 38, 399, 400, 401, 18, 402, 61, 403, 404, 405, 406, 296, 407, 408, 409, 28, 410, 411, 412, 413, 414, 71, 415, 289, 290, 291, 292, 293, 227, 294, 295, 226, 228, 416, 417, 418, 419, 420, 421, 306, 307, 308, 44, 217, 218, 219, 422, 423, 424, 425, 426, 427, 428, 429, 430, 431, 72, 432, 319, 320, 321, 45, 151, 152, 433, 434, 435, 436, 437, 73, 438, 323, 324, 325, 326, 214, 215, 216, 43, 439, 440, 441, 442, 753, 754, 755, 756, 757, 758, 759, 760, 810, 811, 812, 813, 814, 815, 816, 817, 795, 796, 797, 798, 799, 800, 801, 802] (by decide +kernel) (by decide +kernel)
set_option maxRecDepth 20000 in
theorem gL_law_X6_best : GoodIn wsL_law (wsV RL 52 RX6 yX6_best wsX6_best) := goodIn_app (goodIn_of _ (by decide +kernel)) ggL_law_X6_best
set_option maxRecDepth 20000 in
theorem ggL_law_X7_best : GoodIn wsL_law wsX7_best := goodIn_r _ [446, 447, 448, 449, 450, 451, 108, 337, 338, 339, 5, 340, 234, 235, 236, 237, 95, 131, 132, 133, 452, 453, 454, 455, 109, 104, 349, 101, 358, 359, 360, 361, 99, 345, 346, 347, 348, 333, 334, 336, 350, 351, 352, 353, 202, 100, 456, 457, 458, 459, 105, 106, 107, 460, 461, 462, 463, 464, 465, 466, 467, 362, 363, 364, 365, 366, 367, 368, 369, 370, 371, 372, 373, 97, 468, 469, 470, 471, 374, 375, 376, 377, 238, 239, 240, 241, 98, 761, 762, 763, 764, 765, 766, 767, 768, 769, 770, 771, 772, 773, 774, 775, 776, 777, 778, 779, 780, 781, 782, 783, 784, 785, 786, 787, 788, 789, 790, 791, 792, 793, 794] (by decide +kernel) (by decide +kernel)
set_option maxRecDepth 20000 in
theorem gL_law_X7_best : GoodIn wsL_law (wsV RL 55 RX7 yX7_best wsX7_best) := goodIn_app (goodIn_of _ (by decide +kernel)) ggL_law_X7_best
set_option maxRecDepth 20000 in
theorem ggL_law_X6_take : GoodIn wsL_law wsX6_take := goodIn_r _ [475, 15, 21, 29, 390, 260, 261, 262, 14, 263, 264, 210, 211, 212, 51, 122, 2, 123, 394, 395, 396, 397, 398, 19, 38, 399, 400, 401, 18, 402, 61, 403, 404, 405, 406, 296, 407, 408, 409, 28, 410, 411, 412, 413, 414, 71, 415, 289, 290, 291, 292, 293, 227, 294, 295, 226, 228, 416, 417, 418, 419, 420, 421, 306, 307, 308, 44, 217, 218, 219, 422, 423, 424, 425, 426, 427, 428, 429, 430, 431, 72, 432, 319, 320, 321, 45, 151, 152, 433, 434, 435, 436, 437, 73, 438, 323, 324, 325, 326, 214, 215, 216, 43, 439, 440, 441, 442, 753, 754, 755, 756, 757, 758, 759, 760, 810, 811, 812, 813, 814, 815, 816, 817, 795, 796, 797, 798, 799, 800, 801, 802] (by decide +kernel) (by decide +kernel)
set_option maxRecDepth 20000 in
theorem gL_law_X6_take : GoodIn wsL_law (wsV RL 56 RX6 yX6_take wsX6_take) := goodIn_app (goodIn_of _ (by decide +kernel)) ggL_law_X6_take
set_option maxRecDepth 20000 in
theorem ggL_law_X7_take : GoodIn wsL_law wsX7_take := goodIn_r _ [479, 102, 108, 448, 337, 338, 339, 5, 340, 234, 235, 236, 237, 95, 131, 132, 133, 452, 453, 454, 455, 109, 449, 450, 451, 104, 349, 101, 358, 359, 360, 361, 99, 345, 346, 347, 348, 333, 334, 336, 350, 351, 352, 353, 202, 100, 456, 457, 458, 459, 105, 106, 107, 460, 461, 462, 463, 464, 465, 466, 467, 362, 363, 364, 365, 366, 367, 368, 369, 370, 371, 372, 373, 97, 468, 469, 470, 471, 374, 375, 376, 377, 238, 239, 240, 241, 98, 761, 762, 763, 764, 765, 766, 767, 768, 769, 770, 771, 772, 773, 774, 775, 776, 777, 778, 779, 780, 781, 782, 783, 784, 785, 786, 787, 788, 789, 790, 791, 792, 793, 794] (by decide +kernel) (by decide +kernel)
set_option maxRecDepth 20000 in
theorem gL_law_X7_take : GoodIn wsL_law (wsV RL 59 RX7 yX7_take wsX7_take) := goodIn_app (goodIn_of _ (by decide +kernel)) ggL_law_X7_take
set_option maxRecDepth 20000 in
theorem ggL_law_X6_least : GoodIn wsL_law wsX6_least := goodIn_r _ [483, 15, 29, 398, 19, 195, 184, 38, 390, 260, 261, 262, 14, 263, 264, 210, 211, 212, 51, 122, 2, 123, 121, 125, 54, 55, 56, 407, 408, 409, 28, 410, 411, 412, 413, 414, 71, 415, 289, 290, 18, 291, 292, 293, 227, 294, 295, 226, 228, 61, 296, 416, 417, 418, 419, 420, 421, 306, 307, 308, 44, 217, 218, 219, 422, 423, 424, 425, 426, 427, 428, 429, 430, 431, 72, 432, 319, 320, 321, 45, 151, 152, 433, 434, 435, 436, 437, 73, 438, 323, 324, 325, 326, 214, 215, 216, 43, 753, 754, 755, 756, 757, 758, 759, 760, 810, 811, 812, 813, 814, 815, 816, 817, 801, 802, 795, 796, 797, 798, 799, 800] (by decide +kernel) (by decide +kernel)
set_option maxRecDepth 20000 in
theorem gL_law_X6_least : GoodIn wsL_law (wsV RL 60 RX6 yX6_least wsX6_least) := goodIn_app (goodIn_of _ (by decide +kernel)) ggL_law_X6_least
set_option maxRecDepth 20000 in
theorem ggL_law_X7_least : GoodIn wsL_law wsX7_least := goodIn_r _ [487, 488, 110, 100, 448, 337, 338, 339, 5, 340, 234, 235, 236, 237, 95, 131, 132, 133, 452, 453, 454, 455, 109, 449, 450, 451, 104, 349, 101, 358, 359, 360, 361, 99, 345, 346, 347, 348, 333, 334, 336, 350, 351, 352, 353, 202, 456, 457, 458, 459, 105, 106, 107, 460, 461, 462, 463, 464, 465, 466, 467, 362, 363, 364, 365, 366, 367, 368, 369, 370, 371, 372, 373, 97, 468, 469, 470, 471, 108, 374, 375, 376, 377, 238, 239, 240, 241, 98, 761, 762, 763, 764, 765, 766, 767, 768, 769, 770, 771, 772, 773, 774, 775, 776, 777, 778, 779, 780, 781, 782, 783, 784, 785, 786, 787, 788, 789, 790, 791, 792, 793, 794] (by decide +kernel) (by decide +kernel)
set_option maxRecDepth 20000 in
theorem gL_law_X7_least : GoodIn wsL_law (wsV RL 63 RX7 yX7_least wsX7_least) := goodIn_app (goodIn_of _ (by decide +kernel)) ggL_law_X7_least
set_option maxRecDepth 20000 in
theorem ggL_law_X6_live : GoodIn wsL_law wsX6_live := goodIn_r _ [492, 15, 25, 256, 257, 258, 493, 494, 2, 495, 121, 122, 123, 260, 261, 262, 14, 263, 264, 210, 211, 212, 51, 496, 497, 498, 499, 19, 269, 270, 271, 24, 272, 273, 274, 275, 276, 277, 278, 279, 280, 281, 282, 283, 284, 285, 286, 287, 288, 289, 290, 18, 291, 292, 293, 227, 294, 295, 226, 228, 61, 296, 500, 501, 502, 503, 504, 505, 506, 507, 44, 508, 319, 320, 321, 45, 151, 152, 509, 510, 511, 512, 43, 513, 514, 515, 516, 517, 518, 519, 309, 306, 307, 308, 217, 218, 219, 310, 311, 312, 313, 314, 315, 316, 317, 318, 322, 323, 324, 325, 326, 214, 215, 216, 753, 754, 755, 756, 757, 758, 759, 760, 803, 804, 805, 806, 807, 808, 809, 795, 796, 797, 798, 799, 800, 801, 802] (by decide +kernel) (by decide +kernel)
set_option maxRecDepth 20000 in
theorem gL_law_X6_live : GoodIn wsL_law (wsV RL 64 RX6 yX6_live wsX6_live) := goodIn_app (goodIn_of _ (by decide +kernel)) ggL_law_X6_live
set_option maxRecDepth 20000 in
theorem ggL_law_X7_live : GoodIn wsL_law wsX7_live := goodIn_r _ [523, 524, 334, 525, 526, 5, 527, 131, 132, 133, 337, 338, 339, 340, 234, 235, 236, 237, 95, 528, 529, 530, 531, 345, 346, 347, 348, 333, 349, 336, 350, 351, 352, 353, 202, 100, 532, 533, 534, 535, 99, 98, 97, 370, 371, 372, 373, 536, 537, 538, 362, 363, 364, 365, 358, 359, 360, 361, 366, 367, 368, 369, 374, 375, 376, 377, 238, 239, 240, 241, 761, 762, 763, 764, 765, 766, 767, 768, 769, 770, 771, 772, 773, 774, 775, 776, 777, 778, 779, 780, 781, 782, 783, 784, 785, 786, 787, 788, 789, 790, 791, 792, 793, 794] (by decide +kernel) (by decide +kernel)
set_option maxRecDepth 20000 in
theorem gL_law_X7_live : GoodIn wsL_law (wsV RL 67 RX7 yX7_live wsX7_live) := goodIn_app (goodIn_of _ (by decide +kernel)) ggL_law_X7_live
set_option maxRecDepth 20000 in
theorem ggL_law_X6_share : GoodIn wsL_law wsX6_share := goodIn_r _ [542, 15, 29, 390, 493, 494, 2, 495, 121, 122, 123, 260, 261, 262, 14, 263, 264, 210, 211, 212, 51, 543, 544, 545, 546, 25, 256, 496, 497, 498, 499, 19, 269, 270, 271, 24, 272, 273, 274, 275, 276, 277, 278, 279, 280, 281, 282, 283, 284, 285, 286, 287, 288, 289, 290, 18, 291, 292, 293, 227, 294, 295, 226, 228, 61, 296, 500, 501, 502, 503, 504, 505, 506, 507, 44, 508, 319, 320, 321, 45, 151, 152, 509, 510, 511, 512, 43, 513, 514, 515, 516, 517, 518, 519, 309, 306, 307, 308, 217, 218, 219, 310, 311, 312, 313, 314, 315, 316, 317, 318, 322, 323, 324, 325, 326, 214, 215, 216, 394, 395, 396, 397, 398, 38, 399, 400, 401, 402, 403, 404, 405, 406, 407, 408, 409, 28, 410, 411, 412, 413, 414, 71, 415, 416, 417, 418, 419, 420, 421, 422, 423, 424, 425, 426, 427, 428, 429, 430, 431, 72, 432, 433, 434, 435, 436, 437, 73, 438, 547, 548, 549, 550, 551, 552, 753, 754, 755, 756, 757, 758, 759, 760, 810, 811, 812, 813, 814, 815, 816, 817, 795, 796, 797, 798, 799, 800, 803, 804, 805, 806, 807, 808, 809, 801, 802] (by decide +kernel) (by decide +kernel)
set_option maxRecDepth 20000 in
theorem gL_law_X6_share : GoodIn wsL_law (wsV RL 68 RX6 yX6_share wsX6_share) := goodIn_app (goodIn_of _ (by decide +kernel)) ggL_law_X6_share
set_option maxRecDepth 20000 in
theorem ggL_law_X7_share : GoodIn wsL_law wsX7_share := goodIn_r _ [556, 557, 558, 525, 526, 5, 527, 524, 131, 132, 133, 337, 338, 339, 340, 234, 235, 236, 237, 95, 559, 560, 561, 562, 448, 528, 529, 530, 531, 345, 346, 347, 348, 333, 334, 349, 336, 350, 351, 352, 353, 202, 100, 532, 533, 534, 535, 99, 98, 97, 370, 371, 372, 373, 536, 537, 538, 362, 363, 364, 365, 358, 359, 360, 361, 366, 367, 368, 369, 374, 375, 376, 377, 238, 239, 240, 241, 452, 453, 454, 455, 109, 449, 450, 451, 104, 101, 456, 457, 458, 459, 105, 106, 107, 460, 461, 462, 463, 464, 465, 466, 467, 468, 469, 470, 471, 108, 563, 564, 565, 761, 762, 763, 764, 765, 766, 767, 768, 769, 770, 771, 772, 773, 774, 775, 776, 777, 778, 779, 780, 781, 782, 783, 784, 785, 786, 787, 788, 789, 790, 791, 792, 793, 794] (by decide +kernel) (by decide +kernel)
set_option maxRecDepth 20000 in
theorem gL_law_X7_share : GoodIn wsL_law (wsV RL 71 RX7 yX7_share wsX7_share) := goodIn_app (goodIn_of _ (by decide +kernel)) ggL_law_X7_share
set_option maxRecDepth 20000 in
theorem ggL_law_X6_worst : GoodIn wsL_law wsX6_worst := goodIn_r _ [569, 15, 207, 29, 390, 493, 494, 2, 495, 121, 122, 123, 543, 544, 545, 546, 25, 256, 496, 497, 498, 499, 19, 269, 270, 271, 24, 272, 273, 274, 275, 276, 277, 278, 279, 280, 281, 282, 283, 284, 285, 286, 287, 288, 289, 290, 18, 291, 292, 293, 227, 294, 295, 226, 228, 61, 296, 500, 501, 502, 503, 504, 505, 506, 14, 507, 44, 508, 319, 320, 321, 45, 151, 152, 509, 510, 511, 512, 43, 513, 514, 515, 516, 517, 518, 519, 309, 306, 307, 308, 217, 218, 219, 310, 311, 312, 313, 314, 315, 316, 317, 318, 322, 323, 324, 325, 264, 210, 211, 212, 51, 326, 214, 215, 216, 394, 395, 396, 397, 398, 38, 399, 400, 401, 402, 403, 404, 405, 406, 407, 408, 409, 28, 410, 411, 412, 413, 414, 71, 415, 416, 417, 418, 419, 420, 421, 422, 423, 424, 425, 426, 427, 428, 429, 430, 431, 72, 432, 433, 434, 435, 436, 437, 73, 438, 753, 754, 755, 756, 757, 758, 759, 760, 795, 796, 797, 798, 799, 800, 810, 811, 812, 813, 814, 815, 816, 817, 803, 804, 805, 806, 807, 808, 809, 801, 802] (by decide +kernel) (by decide +kernel)
set_option maxRecDepth 20000 in
theorem gL_law_X6_worst : GoodIn wsL_law (wsV RL 72 RX6 yX6_worst wsX6_worst) := goodIn_app (goodIn_of _ (by decide +kernel)) ggL_law_X6_worst
set_option maxRecDepth 20000 in
theorem ggL_law_X7_worst : GoodIn wsL_law wsX7_worst := goodIn_r _ [573, 95, 557, 558, 525, 526, 5, 527, 524, 131, 132, 133, 559, 560, 561, 562, 448, 528, 529, 530, 531, 345, 346, 347, 348, 333, 334, 349, 336, 350, 351, 352, 353, 202, 100, 532, 533, 534, 535, 99, 98, 97, 370, 371, 372, 373, 536, 537, 538, 362, 363, 364, 365, 358, 359, 360, 361, 366, 367, 368, 369, 374, 375, 376, 377, 234, 235, 236, 237, 238, 239, 240, 241, 452, 453, 454, 455, 109, 449, 450, 451, 104, 101, 456, 457, 458, 459, 105, 106, 107, 460, 461, 462, 463, 464, 465, 466, 467, 468, 469, 470, 471, 108, 761, 762, 763, 764, 765, 766, 767, 768, 769, 770, 771, 772, 773, 774, 775, 776, 777, 778, 779, 780, 781, 782, 783, 784, 785, 786, 787, 788, 789, 790, 791, 792, 793, 794] (by decide +kernel) (by decide +kernel)
set_option maxRecDepth 20000 in
theorem gL_law_X7_worst : GoodIn wsL_law (wsV RL 75 RX7 yX7_worst wsX7_worst) := goodIn_app (goodIn_of _ (by decide +kernel)) ggL_law_X7_worst
set_option maxRecDepth 20000 in
theorem ggL_law_X6_mean : GoodIn wsL_law wsX6_mean := goodIn_r _ [577, 15, 493, 494, 2, 495, 121, 122, 123, 260, 261, 262, 14, 263, 264, 210, 211, 212, 51, 578, 151, 152, 543, 544, 545, 546, 25, 256, 496, 497, 498, 499, 19, 269, 270, 271, 24, 272, 273, 274, 275, 276, 277, 278, 279, 280, 281, 282, 283, 284, 285, 286, 287, 288, 289, 290, 18, 291, 292, 293, 227, 294, 295, 226, 228, 61, 296, 500, 501, 502, 503, 504, 505, 506, 507, 44, 508, 319, 320, 321, 45, 509, 510, 511, 512, 43, 513, 514, 515, 516, 517, 518, 519, 309, 306, 307, 308, 217, 218, 219, 310, 311, 312, 313, 314, 315, 316, 317, 318, 322, 323, 324, 325, 326, 214, 215, 216, 579, 547, 548, 549, 550, 551, 552, 753, 754, 755, 756, 757, 758, 759, 760, 795, 796, 797, 798, 799, 800, 803, 804, 805, 806, 807, 808, 809, 801, 802] (by decide +kernel) (by decide +kernel)
set_option maxRecDepth 20000 in
theorem gL_law_X6_mean : GoodIn wsL_law (wsV RL 76 RX6 yX6_mean wsX6_mean) := goodIn_app (goodIn_of _ (by decide +kernel)) ggL_law_X6_mean
set_option maxRecDepth 20000 in
theorem ggL_law_X7_mean : GoodIn wsL_law wsX7_mean := goodIn_r _ [583, 95, 525, 526, 5, 527, 524, 131, 132, 133, 337, 338, 339, 340, 234, 235, 236, 237, 528, 529, 530, 531, 345, 346, 347, 348, 333, 334, 349, 336, 350, 351, 352, 353, 202, 100, 532, 533, 534, 535, 99, 98, 97, 370, 371, 372, 373, 536, 537, 538, 362, 363, 364, 365, 358, 359, 360, 361, 366, 367, 368, 369, 374, 375, 376, 377, 238, 239, 240, 241, 563, 564, 565, 761, 762, 763, 764, 765, 766, 767, 768, 769, 770, 771, 772, 773, 774, 775, 776, 777, 778, 779, 780, 781, 782, 783, 784, 785, 786, 787, 788, 789, 790, 791, 792, 793, 794] (by decide +kernel) (by decide +kernel)
set_option maxRecDepth 20000 in
theorem gL_law_X7_mean : GoodIn wsL_law (wsV RL 79 RX7 yX7_mean wsX7_mean) := goodIn_app (goodIn_of _ (by decide +kernel)) ggL_law_X7_mean
set_option maxRecDepth 20000 in
theorem ggL_law_X6_chance : GoodIn wsL_law wsX6_chance := goodIn_r _ [587, 15, 588, 589, 138, 590, 33, 139, 140, 141, 14, 142, 51, 122, 2, 123, 260, 261, 262, 263, 264, 210, 211, 212, 209, 121, 591, 592, 593, 32, 594, 595, 596, 293, 227, 294, 597, 79, 598, 599, 600, 601, 602, 603, 604, 46, 605, 606, 607, 608, 609, 610, 611, 612, 613, 614, 615, 616, 617, 618, 619, 151, 152, 620, 621, 622, 623, 624, 625, 626, 627, 547, 548, 549, 550, 551, 552, 753, 754, 755, 756, 757, 758, 759, 760, 795, 796, 797, 798, 799, 800, 818, 819, 820, 821, 822] (by decide +kernel) (by decide +kernel)
set_option maxRecDepth 20000 in
theorem gL_law_X6_chance : GoodIn wsL_law (wsV RL 80 RX6 yX6_chance wsX6_chance) := goodIn_app (goodIn_of _ (by decide +kernel)) ggL_law_X6_chance
set_option maxRecDepth 20000 in
theorem ggL_law_X7_chance : GoodIn wsL_law wsX7_chance := goodIn_r _ [631, 632, 633, 634, 116, 635, 162, 163, 164, 5, 165, 95, 131, 132, 133, 337, 338, 339, 340, 234, 235, 236, 237, 636, 637, 638, 639, 96, 640, 641, 642, 761, 762, 763, 764, 765, 766, 767, 768, 769, 770, 771, 772, 773, 774, 775, 776, 777, 778, 779, 780, 781, 782, 783, 784, 785, 786, 787, 788, 789, 790, 791, 792, 793, 794] (by decide +kernel) (by decide +kernel)
set_option maxRecDepth 20000 in
theorem gL_law_X7_chance : GoodIn wsL_law (wsV RL 84 RX7 yX7_chance wsX7_chance) := goodIn_app (goodIn_of _ (by decide +kernel)) ggL_law_X7_chance
set_option maxRecDepth 20000 in
theorem ggL_law_X6_wall : GoodIn wsL_law wsX6_wall := goodIn_r _ [646, 37, 208, 121, 122, 2, 123, 647, 648, 649, 36, 650, 224, 84, 85, 651, 652, 653, 654, 86, 753, 754, 755, 756, 757, 758, 759, 760, 823, 824, 825, 826, 827, 828, 829, 830, 831] (by decide +kernel) (by decide +kernel)
set_option maxRecDepth 20000 in
theorem gL_law_X6_wall : GoodIn wsL_law (wsV RL 85 RX6 yX6_wall wsX6_wall) := goodIn_app (goodIn_of _ (by decide +kernel)) ggL_law_X6_wall
set_option maxRecDepth 20000 in
theorem ggL_law_X7_wall : GoodIn wsL_law wsX7_wall := goodIn_r _ [658, 659, 660, 190, 233, 103, 131, 132, 5, 133, 761, 762, 763, 764, 765, 766, 767, 768, 769, 770, 771, 772, 773, 774, 775, 776, 777, 778, 779, 780, 781, 782, 783, 784, 785, 786, 787, 788, 789, 790, 791, 792, 793, 794] (by decide +kernel) (by decide +kernel)
set_option maxRecDepth 20000 in
theorem gL_law_X7_wall : GoodIn wsL_law (wsV RL 88 RX7 yX7_wall wsX7_wall) := goodIn_app (goodIn_of _ (by decide +kernel)) ggL_law_X7_wall
set_option maxRecDepth 20000 in
theorem ggL_law_X6_raze : GoodIn wsL_law wsX6_raze := goodIn_r _ [664, 37, 208, 753, 754, 755, 756, 757, 758, 759, 760, 823, 824, 825, 826, 827, 828, 829, 830, 831] (by decide +kernel) (by decide +kernel)
set_option maxRecDepth 20000 in
theorem gL_law_X6_raze : GoodIn wsL_law (wsV RL 89 RX6 yX6_raze wsX6_raze) := goodIn_app (goodIn_of _ (by decide +kernel)) ggL_law_X6_raze
set_option maxRecDepth 20000 in
theorem ggL_law_X7_raze : GoodIn wsL_law wsX7_raze := goodIn_r _ [668, 233, 761, 762, 763, 764, 765, 766, 767, 768, 769, 770, 771, 772, 773, 774, 775, 776, 777, 778, 779, 780, 781, 782, 783, 784, 785, 786, 787, 788, 789, 790, 791, 792, 793, 794] (by decide +kernel) (by decide +kernel)
set_option maxRecDepth 20000 in
theorem gL_law_X7_raze : GoodIn wsL_law (wsV RL 93 RX7 yX7_raze wsX7_raze) := goodIn_app (goodIn_of _ (by decide +kernel)) ggL_law_X7_raze
set_option maxRecDepth 20000 in
theorem ggL_law_X6_board : GoodIn wsL_law wsX6_board := goodIn_r _ [672, 37, 673, 674, 121, 122, 2, 123, 675, 676, 677, 36, 678, 88, 90, 679, 680, 681, 682, 683, 55, 684, 685, 686, 687, 688, 224, 86, 84, 85, 689, 690, 691, 692, 693, 694, 695, 696, 697, 698, 699, 89, 700, 701, 404, 405, 406, 702, 703, 704, 705, 706, 707, 708, 709, 710, 711, 712, 713, 714, 715, 716, 717, 718, 719, 720, 721, 722, 227, 723, 225, 226, 228, 753, 754, 755, 756, 757, 758, 759, 760, 823, 824, 825, 826, 827, 828, 829, 830, 831] (by decide +kernel) (by decide +kernel)
set_option maxRecDepth 20000 in
theorem gL_law_X6_board : GoodIn wsL_law (wsV RL 94 RX6 yX6_board wsX6_board) := goodIn_app (goodIn_of _ (by decide +kernel)) ggL_law_X6_board
set_option maxRecDepth 20000 in
theorem ggL_law_X7_board : GoodIn wsL_law wsX7_board := goodIn_r _ [727, 728, 111, 729, 730, 131, 132, 5, 133, 731, 732, 733, 734, 735, 736, 737, 738, 739, 740, 741, 233, 103, 742, 743, 744, 745, 746, 747, 748, 749, 750, 751, 752, 761, 762, 763, 764, 765, 766, 767, 768, 769, 770, 771, 772, 773, 774, 775, 776, 777, 778, 779, 780, 781, 782, 783, 784, 785, 786, 787, 788, 789, 790, 791, 792, 793, 794] (by decide +kernel) (by decide +kernel)
set_option maxRecDepth 20000 in
theorem gL_law_X7_board : GoodIn wsL_law (wsV RL 97 RX7 yX7_board wsX7_board) := goodIn_app (goodIn_of _ (by decide +kernel)) ggL_law_X7_board
theorem dL_law_0 : decode cL_law 0 = .ok (.new 7, 3) := by decide +kernel
theorem dL_law_3 : decode cL_law 3 = .ok (.dup, 1) := by decide +kernel
theorem dL_law_4 : decode cL_law 4 = .ok (.invokespecial 9, 3) := by decide +kernel
theorem dL_law_7 : decode cL_law 7 = .ok (.astore_n 1, 1) := by decide +kernel
theorem dL_law_8 : decode cL_law 8 = .ok (.new 10, 3) := by decide +kernel
theorem dL_law_11 : decode cL_law 11 = .ok (.dup, 1) := by decide +kernel
theorem dL_law_12 : decode cL_law 12 = .ok (.invokespecial 12, 3) := by decide +kernel
theorem dL_law_15 : decode cL_law 15 = .ok (.astore_n 2, 1) := by decide +kernel
theorem dL_law_16 : decode cL_law 16 = .ok (.iconst 0, 1) := by decide +kernel
theorem dL_law_17 : decode cL_law 17 = .ok (.istore_n 3, 1) := by decide +kernel
theorem dL_law_18 : decode cL_law 18 = .ok (.iload_n 3, 1) := by decide +kernel
theorem dL_law_19 : decode cL_law 19 = .ok (.aload_n 0, 1) := by decide +kernel
theorem dL_law_20 : decode cL_law 20 = .ok (.arraylength, 1) := by decide +kernel
theorem dL_law_21 : decode cL_law 21 = .ok (.bipush 7, 2) := by decide +kernel
theorem dL_law_23 : decode cL_law 23 = .ok (.isub, 1) := by decide +kernel
theorem dL_law_24 : decode cL_law 24 = .ok (.if_icmp .gt 793, 3) := by decide +kernel
theorem dL_law_27 : decode cL_law 27 = .ok (.aload_n 0, 1) := by decide +kernel
theorem dL_law_28 : decode cL_law 28 = .ok (.iload_n 3, 1) := by decide +kernel
theorem dL_law_29 : decode cL_law 29 = .ok (.iaload, 1) := by decide +kernel
theorem dL_law_30 : decode cL_law 30 = .ok (.bipush 31, 2) := by decide +kernel
theorem dL_law_32 : decode cL_law 32 = .ok (.iand, 1) := by decide +kernel
theorem dL_law_33 : decode cL_law 33 = .ok (.tableswitch 778 0 19 #[95, 118, 151, 194, 227, 260, 283, 316, 349, 382, 415, 438, 471, 514, 557, 580, 623, 699, 742, 755], 95) := by decide +kernel
theorem dL_law_128 : decode cL_law 128 = .ok (.aload_n 1, 1) := by decide +kernel
theorem dL_law_129 : decode cL_law 129 = .ok (.aload_n 0, 1) := by decide +kernel
theorem dL_law_130 : decode cL_law 130 = .ok (.iload_n 3, 1) := by decide +kernel
theorem dL_law_131 : decode cL_law 131 = .ok (.iconst 1, 1) := by decide +kernel
theorem dL_law_132 : decode cL_law 132 = .ok (.iadd, 1) := by decide +kernel
theorem dL_law_133 : decode cL_law 133 = .ok (.iaload, 1) := by decide +kernel
theorem dL_law_134 : decode cL_law 134 = .ok (.invokevirtual 13, 3) := by decide +kernel
theorem dL_law_137 : decode cL_law 137 = .ok (.aload_n 2, 1) := by decide +kernel
theorem dL_law_138 : decode cL_law 138 = .ok (.aload_n 0, 1) := by decide +kernel
theorem dL_law_139 : decode cL_law 139 = .ok (.iload_n 3, 1) := by decide +kernel
theorem dL_law_140 : decode cL_law 140 = .ok (.iconst 1, 1) := by decide +kernel
theorem dL_law_141 : decode cL_law 141 = .ok (.iadd, 1) := by decide +kernel
theorem dL_law_142 : decode cL_law 142 = .ok (.iaload, 1) := by decide +kernel
theorem dL_law_143 : decode cL_law 143 = .ok (.invokevirtual 17, 3) := by decide +kernel
theorem dL_law_146 : decode cL_law 146 = .ok (.if_icmp .eq 665, 3) := by decide +kernel
theorem dL_law_149 : decode cL_law 149 = .ok (.iconst 0, 1) := by decide +kernel
theorem dL_law_150 : decode cL_law 150 = .ok (.ireturn, 1) := by decide +kernel
theorem dL_law_151 : decode cL_law 151 = .ok (.aload_n 1, 1) := by decide +kernel
theorem dL_law_152 : decode cL_law 152 = .ok (.aload_n 0, 1) := by decide +kernel
theorem dL_law_153 : decode cL_law 153 = .ok (.iload_n 3, 1) := by decide +kernel
theorem dL_law_154 : decode cL_law 154 = .ok (.iconst 1, 1) := by decide +kernel
theorem dL_law_155 : decode cL_law 155 = .ok (.iadd, 1) := by decide +kernel
theorem dL_law_156 : decode cL_law 156 = .ok (.iaload, 1) := by decide +kernel
theorem dL_law_157 : decode cL_law 157 = .ok (.aload_n 0, 1) := by decide +kernel
theorem dL_law_158 : decode cL_law 158 = .ok (.iload_n 3, 1) := by decide +kernel
theorem dL_law_159 : decode cL_law 159 = .ok (.iconst 2, 1) := by decide +kernel
theorem dL_law_160 : decode cL_law 160 = .ok (.iadd, 1) := by decide +kernel
theorem dL_law_161 : decode cL_law 161 = .ok (.iaload, 1) := by decide +kernel
theorem dL_law_162 : decode cL_law 162 = .ok (.invokevirtual 18, 3) := by decide +kernel
theorem dL_law_165 : decode cL_law 165 = .ok (.aload_n 2, 1) := by decide +kernel
theorem dL_law_166 : decode cL_law 166 = .ok (.aload_n 0, 1) := by decide +kernel
theorem dL_law_167 : decode cL_law 167 = .ok (.iload_n 3, 1) := by decide +kernel
theorem dL_law_168 : decode cL_law 168 = .ok (.iconst 1, 1) := by decide +kernel
theorem dL_law_169 : decode cL_law 169 = .ok (.iadd, 1) := by decide +kernel
theorem dL_law_170 : decode cL_law 170 = .ok (.iaload, 1) := by decide +kernel
theorem dL_law_171 : decode cL_law 171 = .ok (.aload_n 0, 1) := by decide +kernel
theorem dL_law_172 : decode cL_law 172 = .ok (.iload_n 3, 1) := by decide +kernel
theorem dL_law_173 : decode cL_law 173 = .ok (.iconst 2, 1) := by decide +kernel
theorem dL_law_174 : decode cL_law 174 = .ok (.iadd, 1) := by decide +kernel
theorem dL_law_175 : decode cL_law 175 = .ok (.iaload, 1) := by decide +kernel
theorem dL_law_176 : decode cL_law 176 = .ok (.invokevirtual 22, 3) := by decide +kernel
theorem dL_law_179 : decode cL_law 179 = .ok (.if_icmp .eq 632, 3) := by decide +kernel
theorem dL_law_182 : decode cL_law 182 = .ok (.iconst 0, 1) := by decide +kernel
theorem dL_law_183 : decode cL_law 183 = .ok (.ireturn, 1) := by decide +kernel
theorem dL_law_184 : decode cL_law 184 = .ok (.aload_n 1, 1) := by decide +kernel
theorem dL_law_185 : decode cL_law 185 = .ok (.aload_n 0, 1) := by decide +kernel
theorem dL_law_186 : decode cL_law 186 = .ok (.iload_n 3, 1) := by decide +kernel
theorem dL_law_187 : decode cL_law 187 = .ok (.iconst 1, 1) := by decide +kernel
theorem dL_law_188 : decode cL_law 188 = .ok (.iadd, 1) := by decide +kernel
theorem dL_law_189 : decode cL_law 189 = .ok (.iaload, 1) := by decide +kernel
theorem dL_law_190 : decode cL_law 190 = .ok (.aload_n 0, 1) := by decide +kernel
theorem dL_law_191 : decode cL_law 191 = .ok (.iload_n 3, 1) := by decide +kernel
theorem dL_law_192 : decode cL_law 192 = .ok (.iconst 2, 1) := by decide +kernel
theorem dL_law_193 : decode cL_law 193 = .ok (.iadd, 1) := by decide +kernel
theorem dL_law_194 : decode cL_law 194 = .ok (.iaload, 1) := by decide +kernel
theorem dL_law_195 : decode cL_law 195 = .ok (.aload_n 0, 1) := by decide +kernel
theorem dL_law_196 : decode cL_law 196 = .ok (.iload_n 3, 1) := by decide +kernel
theorem dL_law_197 : decode cL_law 197 = .ok (.iconst 3, 1) := by decide +kernel
theorem dL_law_198 : decode cL_law 198 = .ok (.iadd, 1) := by decide +kernel
theorem dL_law_199 : decode cL_law 199 = .ok (.iaload, 1) := by decide +kernel
theorem dL_law_200 : decode cL_law 200 = .ok (.invokevirtual 23, 3) := by decide +kernel
theorem dL_law_203 : decode cL_law 203 = .ok (.aload_n 2, 1) := by decide +kernel
theorem dL_law_204 : decode cL_law 204 = .ok (.aload_n 0, 1) := by decide +kernel
theorem dL_law_205 : decode cL_law 205 = .ok (.iload_n 3, 1) := by decide +kernel
theorem dL_law_206 : decode cL_law 206 = .ok (.iconst 1, 1) := by decide +kernel
theorem dL_law_207 : decode cL_law 207 = .ok (.iadd, 1) := by decide +kernel
theorem dL_law_208 : decode cL_law 208 = .ok (.iaload, 1) := by decide +kernel
theorem dL_law_209 : decode cL_law 209 = .ok (.aload_n 0, 1) := by decide +kernel
theorem dL_law_210 : decode cL_law 210 = .ok (.iload_n 3, 1) := by decide +kernel
theorem dL_law_211 : decode cL_law 211 = .ok (.iconst 2, 1) := by decide +kernel
theorem dL_law_212 : decode cL_law 212 = .ok (.iadd, 1) := by decide +kernel
theorem dL_law_213 : decode cL_law 213 = .ok (.iaload, 1) := by decide +kernel
theorem dL_law_214 : decode cL_law 214 = .ok (.aload_n 0, 1) := by decide +kernel
theorem dL_law_215 : decode cL_law 215 = .ok (.iload_n 3, 1) := by decide +kernel
theorem dL_law_216 : decode cL_law 216 = .ok (.iconst 3, 1) := by decide +kernel
theorem dL_law_217 : decode cL_law 217 = .ok (.iadd, 1) := by decide +kernel
theorem dL_law_218 : decode cL_law 218 = .ok (.iaload, 1) := by decide +kernel
theorem dL_law_219 : decode cL_law 219 = .ok (.invokevirtual 27, 3) := by decide +kernel
theorem dL_law_222 : decode cL_law 222 = .ok (.if_icmp .eq 589, 3) := by decide +kernel
theorem dL_law_225 : decode cL_law 225 = .ok (.iconst 0, 1) := by decide +kernel
theorem dL_law_226 : decode cL_law 226 = .ok (.ireturn, 1) := by decide +kernel
theorem dL_law_227 : decode cL_law 227 = .ok (.aload_n 1, 1) := by decide +kernel
theorem dL_law_228 : decode cL_law 228 = .ok (.aload_n 0, 1) := by decide +kernel
theorem dL_law_229 : decode cL_law 229 = .ok (.iload_n 3, 1) := by decide +kernel
theorem dL_law_230 : decode cL_law 230 = .ok (.iconst 1, 1) := by decide +kernel
theorem dL_law_231 : decode cL_law 231 = .ok (.iadd, 1) := by decide +kernel
theorem dL_law_232 : decode cL_law 232 = .ok (.iaload, 1) := by decide +kernel
theorem dL_law_233 : decode cL_law 233 = .ok (.aload_n 0, 1) := by decide +kernel
theorem dL_law_234 : decode cL_law 234 = .ok (.iload_n 3, 1) := by decide +kernel
theorem dL_law_235 : decode cL_law 235 = .ok (.iconst 2, 1) := by decide +kernel
theorem dL_law_236 : decode cL_law 236 = .ok (.iadd, 1) := by decide +kernel
theorem dL_law_237 : decode cL_law 237 = .ok (.iaload, 1) := by decide +kernel
theorem dL_law_238 : decode cL_law 238 = .ok (.invokevirtual 28, 3) := by decide +kernel
theorem dL_law_241 : decode cL_law 241 = .ok (.aload_n 2, 1) := by decide +kernel
theorem dL_law_242 : decode cL_law 242 = .ok (.aload_n 0, 1) := by decide +kernel
theorem dL_law_243 : decode cL_law 243 = .ok (.iload_n 3, 1) := by decide +kernel
theorem dL_law_244 : decode cL_law 244 = .ok (.iconst 1, 1) := by decide +kernel
theorem dL_law_245 : decode cL_law 245 = .ok (.iadd, 1) := by decide +kernel
theorem dL_law_246 : decode cL_law 246 = .ok (.iaload, 1) := by decide +kernel
theorem dL_law_247 : decode cL_law 247 = .ok (.aload_n 0, 1) := by decide +kernel
theorem dL_law_248 : decode cL_law 248 = .ok (.iload_n 3, 1) := by decide +kernel
theorem dL_law_249 : decode cL_law 249 = .ok (.iconst 2, 1) := by decide +kernel
theorem dL_law_250 : decode cL_law 250 = .ok (.iadd, 1) := by decide +kernel
theorem dL_law_251 : decode cL_law 251 = .ok (.iaload, 1) := by decide +kernel
theorem dL_law_252 : decode cL_law 252 = .ok (.invokevirtual 31, 3) := by decide +kernel
theorem dL_law_255 : decode cL_law 255 = .ok (.if_icmp .eq 556, 3) := by decide +kernel
theorem dL_law_258 : decode cL_law 258 = .ok (.iconst 0, 1) := by decide +kernel
theorem dL_law_259 : decode cL_law 259 = .ok (.ireturn, 1) := by decide +kernel
theorem dL_law_260 : decode cL_law 260 = .ok (.aload_n 1, 1) := by decide +kernel
theorem dL_law_261 : decode cL_law 261 = .ok (.aload_n 0, 1) := by decide +kernel
theorem dL_law_262 : decode cL_law 262 = .ok (.iload_n 3, 1) := by decide +kernel
theorem dL_law_263 : decode cL_law 263 = .ok (.iconst 1, 1) := by decide +kernel
theorem dL_law_264 : decode cL_law 264 = .ok (.iadd, 1) := by decide +kernel
theorem dL_law_265 : decode cL_law 265 = .ok (.iaload, 1) := by decide +kernel
theorem dL_law_266 : decode cL_law 266 = .ok (.aload_n 0, 1) := by decide +kernel
theorem dL_law_267 : decode cL_law 267 = .ok (.iload_n 3, 1) := by decide +kernel
theorem dL_law_268 : decode cL_law 268 = .ok (.iconst 2, 1) := by decide +kernel
theorem dL_law_269 : decode cL_law 269 = .ok (.iadd, 1) := by decide +kernel
theorem dL_law_270 : decode cL_law 270 = .ok (.iaload, 1) := by decide +kernel
theorem dL_law_271 : decode cL_law 271 = .ok (.invokevirtual 32, 3) := by decide +kernel
theorem dL_law_274 : decode cL_law 274 = .ok (.aload_n 2, 1) := by decide +kernel
theorem dL_law_275 : decode cL_law 275 = .ok (.aload_n 0, 1) := by decide +kernel
theorem dL_law_276 : decode cL_law 276 = .ok (.iload_n 3, 1) := by decide +kernel
theorem dL_law_277 : decode cL_law 277 = .ok (.iconst 1, 1) := by decide +kernel
theorem dL_law_278 : decode cL_law 278 = .ok (.iadd, 1) := by decide +kernel
theorem dL_law_279 : decode cL_law 279 = .ok (.iaload, 1) := by decide +kernel
theorem dL_law_280 : decode cL_law 280 = .ok (.aload_n 0, 1) := by decide +kernel
theorem dL_law_281 : decode cL_law 281 = .ok (.iload_n 3, 1) := by decide +kernel
theorem dL_law_282 : decode cL_law 282 = .ok (.iconst 2, 1) := by decide +kernel
theorem dL_law_283 : decode cL_law 283 = .ok (.iadd, 1) := by decide +kernel
theorem dL_law_284 : decode cL_law 284 = .ok (.iaload, 1) := by decide +kernel
theorem dL_law_285 : decode cL_law 285 = .ok (.invokevirtual 35, 3) := by decide +kernel
theorem dL_law_288 : decode cL_law 288 = .ok (.if_icmp .eq 523, 3) := by decide +kernel
theorem dL_law_291 : decode cL_law 291 = .ok (.iconst 0, 1) := by decide +kernel
theorem dL_law_292 : decode cL_law 292 = .ok (.ireturn, 1) := by decide +kernel
theorem dL_law_293 : decode cL_law 293 = .ok (.aload_n 1, 1) := by decide +kernel
theorem dL_law_294 : decode cL_law 294 = .ok (.aload_n 0, 1) := by decide +kernel
theorem dL_law_295 : decode cL_law 295 = .ok (.iload_n 3, 1) := by decide +kernel
theorem dL_law_296 : decode cL_law 296 = .ok (.iconst 1, 1) := by decide +kernel
theorem dL_law_297 : decode cL_law 297 = .ok (.iadd, 1) := by decide +kernel
theorem dL_law_298 : decode cL_law 298 = .ok (.iaload, 1) := by decide +kernel
theorem dL_law_299 : decode cL_law 299 = .ok (.invokevirtual 36, 3) := by decide +kernel
theorem dL_law_302 : decode cL_law 302 = .ok (.aload_n 2, 1) := by decide +kernel
theorem dL_law_303 : decode cL_law 303 = .ok (.aload_n 0, 1) := by decide +kernel
theorem dL_law_304 : decode cL_law 304 = .ok (.iload_n 3, 1) := by decide +kernel
theorem dL_law_305 : decode cL_law 305 = .ok (.iconst 1, 1) := by decide +kernel
theorem dL_law_306 : decode cL_law 306 = .ok (.iadd, 1) := by decide +kernel
theorem dL_law_307 : decode cL_law 307 = .ok (.iaload, 1) := by decide +kernel
theorem dL_law_308 : decode cL_law 308 = .ok (.invokevirtual 39, 3) := by decide +kernel
theorem dL_law_311 : decode cL_law 311 = .ok (.if_icmp .eq 500, 3) := by decide +kernel
theorem dL_law_314 : decode cL_law 314 = .ok (.iconst 0, 1) := by decide +kernel
theorem dL_law_315 : decode cL_law 315 = .ok (.ireturn, 1) := by decide +kernel
theorem dL_law_316 : decode cL_law 316 = .ok (.aload_n 1, 1) := by decide +kernel
theorem dL_law_317 : decode cL_law 317 = .ok (.aload_n 0, 1) := by decide +kernel
theorem dL_law_318 : decode cL_law 318 = .ok (.iload_n 3, 1) := by decide +kernel
theorem dL_law_319 : decode cL_law 319 = .ok (.iconst 1, 1) := by decide +kernel
theorem dL_law_320 : decode cL_law 320 = .ok (.iadd, 1) := by decide +kernel
theorem dL_law_321 : decode cL_law 321 = .ok (.iaload, 1) := by decide +kernel
theorem dL_law_322 : decode cL_law 322 = .ok (.aload_n 0, 1) := by decide +kernel
theorem dL_law_323 : decode cL_law 323 = .ok (.iload_n 3, 1) := by decide +kernel
theorem dL_law_324 : decode cL_law 324 = .ok (.iconst 2, 1) := by decide +kernel
theorem dL_law_325 : decode cL_law 325 = .ok (.iadd, 1) := by decide +kernel
theorem dL_law_326 : decode cL_law 326 = .ok (.iaload, 1) := by decide +kernel
theorem dL_law_327 : decode cL_law 327 = .ok (.invokevirtual 40, 3) := by decide +kernel
theorem dL_law_330 : decode cL_law 330 = .ok (.aload_n 2, 1) := by decide +kernel
theorem dL_law_331 : decode cL_law 331 = .ok (.aload_n 0, 1) := by decide +kernel
theorem dL_law_332 : decode cL_law 332 = .ok (.iload_n 3, 1) := by decide +kernel
theorem dL_law_333 : decode cL_law 333 = .ok (.iconst 1, 1) := by decide +kernel
theorem dL_law_334 : decode cL_law 334 = .ok (.iadd, 1) := by decide +kernel
theorem dL_law_335 : decode cL_law 335 = .ok (.iaload, 1) := by decide +kernel
theorem dL_law_336 : decode cL_law 336 = .ok (.aload_n 0, 1) := by decide +kernel
theorem dL_law_337 : decode cL_law 337 = .ok (.iload_n 3, 1) := by decide +kernel
theorem dL_law_338 : decode cL_law 338 = .ok (.iconst 2, 1) := by decide +kernel
theorem dL_law_339 : decode cL_law 339 = .ok (.iadd, 1) := by decide +kernel
theorem dL_law_340 : decode cL_law 340 = .ok (.iaload, 1) := by decide +kernel
theorem dL_law_341 : decode cL_law 341 = .ok (.invokevirtual 43, 3) := by decide +kernel
theorem dL_law_344 : decode cL_law 344 = .ok (.if_icmp .eq 467, 3) := by decide +kernel
theorem dL_law_347 : decode cL_law 347 = .ok (.iconst 0, 1) := by decide +kernel
theorem dL_law_348 : decode cL_law 348 = .ok (.ireturn, 1) := by decide +kernel
theorem dL_law_349 : decode cL_law 349 = .ok (.aload_n 1, 1) := by decide +kernel
theorem dL_law_350 : decode cL_law 350 = .ok (.aload_n 0, 1) := by decide +kernel
theorem dL_law_351 : decode cL_law 351 = .ok (.iload_n 3, 1) := by decide +kernel
theorem dL_law_352 : decode cL_law 352 = .ok (.iconst 1, 1) := by decide +kernel
theorem dL_law_353 : decode cL_law 353 = .ok (.iadd, 1) := by decide +kernel
theorem dL_law_354 : decode cL_law 354 = .ok (.iaload, 1) := by decide +kernel
theorem dL_law_355 : decode cL_law 355 = .ok (.aload_n 0, 1) := by decide +kernel
theorem dL_law_356 : decode cL_law 356 = .ok (.iload_n 3, 1) := by decide +kernel
theorem dL_law_357 : decode cL_law 357 = .ok (.iconst 2, 1) := by decide +kernel
theorem dL_law_358 : decode cL_law 358 = .ok (.iadd, 1) := by decide +kernel
theorem dL_law_359 : decode cL_law 359 = .ok (.iaload, 1) := by decide +kernel
theorem dL_law_360 : decode cL_law 360 = .ok (.invokevirtual 44, 3) := by decide +kernel
theorem dL_law_363 : decode cL_law 363 = .ok (.aload_n 2, 1) := by decide +kernel
theorem dL_law_364 : decode cL_law 364 = .ok (.aload_n 0, 1) := by decide +kernel
theorem dL_law_365 : decode cL_law 365 = .ok (.iload_n 3, 1) := by decide +kernel
theorem dL_law_366 : decode cL_law 366 = .ok (.iconst 1, 1) := by decide +kernel
theorem dL_law_367 : decode cL_law 367 = .ok (.iadd, 1) := by decide +kernel
theorem dL_law_368 : decode cL_law 368 = .ok (.iaload, 1) := by decide +kernel
theorem dL_law_369 : decode cL_law 369 = .ok (.aload_n 0, 1) := by decide +kernel
theorem dL_law_370 : decode cL_law 370 = .ok (.iload_n 3, 1) := by decide +kernel
theorem dL_law_371 : decode cL_law 371 = .ok (.iconst 2, 1) := by decide +kernel
theorem dL_law_372 : decode cL_law 372 = .ok (.iadd, 1) := by decide +kernel
theorem dL_law_373 : decode cL_law 373 = .ok (.iaload, 1) := by decide +kernel
theorem dL_law_374 : decode cL_law 374 = .ok (.invokevirtual 47, 3) := by decide +kernel
theorem dL_law_377 : decode cL_law 377 = .ok (.if_icmp .eq 434, 3) := by decide +kernel
theorem dL_law_380 : decode cL_law 380 = .ok (.iconst 0, 1) := by decide +kernel
theorem dL_law_381 : decode cL_law 381 = .ok (.ireturn, 1) := by decide +kernel
theorem dL_law_382 : decode cL_law 382 = .ok (.aload_n 1, 1) := by decide +kernel
theorem dL_law_383 : decode cL_law 383 = .ok (.aload_n 0, 1) := by decide +kernel
theorem dL_law_384 : decode cL_law 384 = .ok (.iload_n 3, 1) := by decide +kernel
theorem dL_law_385 : decode cL_law 385 = .ok (.iconst 1, 1) := by decide +kernel
theorem dL_law_386 : decode cL_law 386 = .ok (.iadd, 1) := by decide +kernel
theorem dL_law_387 : decode cL_law 387 = .ok (.iaload, 1) := by decide +kernel
theorem dL_law_388 : decode cL_law 388 = .ok (.aload_n 0, 1) := by decide +kernel
theorem dL_law_389 : decode cL_law 389 = .ok (.iload_n 3, 1) := by decide +kernel
theorem dL_law_390 : decode cL_law 390 = .ok (.iconst 2, 1) := by decide +kernel
theorem dL_law_391 : decode cL_law 391 = .ok (.iadd, 1) := by decide +kernel
theorem dL_law_392 : decode cL_law 392 = .ok (.iaload, 1) := by decide +kernel
theorem dL_law_393 : decode cL_law 393 = .ok (.invokevirtual 48, 3) := by decide +kernel
theorem dL_law_396 : decode cL_law 396 = .ok (.aload_n 2, 1) := by decide +kernel
theorem dL_law_397 : decode cL_law 397 = .ok (.aload_n 0, 1) := by decide +kernel
theorem dL_law_398 : decode cL_law 398 = .ok (.iload_n 3, 1) := by decide +kernel
theorem dL_law_399 : decode cL_law 399 = .ok (.iconst 1, 1) := by decide +kernel
theorem dL_law_400 : decode cL_law 400 = .ok (.iadd, 1) := by decide +kernel
theorem dL_law_401 : decode cL_law 401 = .ok (.iaload, 1) := by decide +kernel
theorem dL_law_402 : decode cL_law 402 = .ok (.aload_n 0, 1) := by decide +kernel
theorem dL_law_403 : decode cL_law 403 = .ok (.iload_n 3, 1) := by decide +kernel
theorem dL_law_404 : decode cL_law 404 = .ok (.iconst 2, 1) := by decide +kernel
theorem dL_law_405 : decode cL_law 405 = .ok (.iadd, 1) := by decide +kernel
theorem dL_law_406 : decode cL_law 406 = .ok (.iaload, 1) := by decide +kernel
theorem dL_law_407 : decode cL_law 407 = .ok (.invokevirtual 51, 3) := by decide +kernel
theorem dL_law_410 : decode cL_law 410 = .ok (.if_icmp .eq 401, 3) := by decide +kernel
theorem dL_law_413 : decode cL_law 413 = .ok (.iconst 0, 1) := by decide +kernel
theorem dL_law_414 : decode cL_law 414 = .ok (.ireturn, 1) := by decide +kernel
theorem dL_law_415 : decode cL_law 415 = .ok (.aload_n 1, 1) := by decide +kernel
theorem dL_law_416 : decode cL_law 416 = .ok (.aload_n 0, 1) := by decide +kernel
theorem dL_law_417 : decode cL_law 417 = .ok (.iload_n 3, 1) := by decide +kernel
theorem dL_law_418 : decode cL_law 418 = .ok (.iconst 1, 1) := by decide +kernel
theorem dL_law_419 : decode cL_law 419 = .ok (.iadd, 1) := by decide +kernel
theorem dL_law_420 : decode cL_law 420 = .ok (.iaload, 1) := by decide +kernel
theorem dL_law_421 : decode cL_law 421 = .ok (.aload_n 0, 1) := by decide +kernel
theorem dL_law_422 : decode cL_law 422 = .ok (.iload_n 3, 1) := by decide +kernel
theorem dL_law_423 : decode cL_law 423 = .ok (.iconst 2, 1) := by decide +kernel
theorem dL_law_424 : decode cL_law 424 = .ok (.iadd, 1) := by decide +kernel
theorem dL_law_425 : decode cL_law 425 = .ok (.iaload, 1) := by decide +kernel
theorem dL_law_426 : decode cL_law 426 = .ok (.invokevirtual 52, 3) := by decide +kernel
theorem dL_law_429 : decode cL_law 429 = .ok (.aload_n 2, 1) := by decide +kernel
theorem dL_law_430 : decode cL_law 430 = .ok (.aload_n 0, 1) := by decide +kernel
theorem dL_law_431 : decode cL_law 431 = .ok (.iload_n 3, 1) := by decide +kernel
theorem dL_law_432 : decode cL_law 432 = .ok (.iconst 1, 1) := by decide +kernel
theorem dL_law_433 : decode cL_law 433 = .ok (.iadd, 1) := by decide +kernel
theorem dL_law_434 : decode cL_law 434 = .ok (.iaload, 1) := by decide +kernel
theorem dL_law_435 : decode cL_law 435 = .ok (.aload_n 0, 1) := by decide +kernel
theorem dL_law_436 : decode cL_law 436 = .ok (.iload_n 3, 1) := by decide +kernel
theorem dL_law_437 : decode cL_law 437 = .ok (.iconst 2, 1) := by decide +kernel
theorem dL_law_438 : decode cL_law 438 = .ok (.iadd, 1) := by decide +kernel
theorem dL_law_439 : decode cL_law 439 = .ok (.iaload, 1) := by decide +kernel
theorem dL_law_440 : decode cL_law 440 = .ok (.invokevirtual 55, 3) := by decide +kernel
theorem dL_law_443 : decode cL_law 443 = .ok (.if_icmp .eq 368, 3) := by decide +kernel
theorem dL_law_446 : decode cL_law 446 = .ok (.iconst 0, 1) := by decide +kernel
theorem dL_law_447 : decode cL_law 447 = .ok (.ireturn, 1) := by decide +kernel
theorem dL_law_448 : decode cL_law 448 = .ok (.aload_n 1, 1) := by decide +kernel
theorem dL_law_449 : decode cL_law 449 = .ok (.aload_n 0, 1) := by decide +kernel
theorem dL_law_450 : decode cL_law 450 = .ok (.iload_n 3, 1) := by decide +kernel
theorem dL_law_451 : decode cL_law 451 = .ok (.iconst 1, 1) := by decide +kernel
theorem dL_law_452 : decode cL_law 452 = .ok (.iadd, 1) := by decide +kernel
theorem dL_law_453 : decode cL_law 453 = .ok (.iaload, 1) := by decide +kernel
theorem dL_law_454 : decode cL_law 454 = .ok (.invokevirtual 56, 3) := by decide +kernel
theorem dL_law_457 : decode cL_law 457 = .ok (.aload_n 2, 1) := by decide +kernel
theorem dL_law_458 : decode cL_law 458 = .ok (.aload_n 0, 1) := by decide +kernel
theorem dL_law_459 : decode cL_law 459 = .ok (.iload_n 3, 1) := by decide +kernel
theorem dL_law_460 : decode cL_law 460 = .ok (.iconst 1, 1) := by decide +kernel
theorem dL_law_461 : decode cL_law 461 = .ok (.iadd, 1) := by decide +kernel
theorem dL_law_462 : decode cL_law 462 = .ok (.iaload, 1) := by decide +kernel
theorem dL_law_463 : decode cL_law 463 = .ok (.invokevirtual 59, 3) := by decide +kernel
theorem dL_law_466 : decode cL_law 466 = .ok (.if_icmp .eq 345, 3) := by decide +kernel
theorem dL_law_469 : decode cL_law 469 = .ok (.iconst 0, 1) := by decide +kernel
theorem dL_law_470 : decode cL_law 470 = .ok (.ireturn, 1) := by decide +kernel
theorem dL_law_471 : decode cL_law 471 = .ok (.aload_n 1, 1) := by decide +kernel
theorem dL_law_472 : decode cL_law 472 = .ok (.aload_n 0, 1) := by decide +kernel
theorem dL_law_473 : decode cL_law 473 = .ok (.iload_n 3, 1) := by decide +kernel
theorem dL_law_474 : decode cL_law 474 = .ok (.iconst 1, 1) := by decide +kernel
theorem dL_law_475 : decode cL_law 475 = .ok (.iadd, 1) := by decide +kernel
theorem dL_law_476 : decode cL_law 476 = .ok (.iaload, 1) := by decide +kernel
theorem dL_law_477 : decode cL_law 477 = .ok (.aload_n 0, 1) := by decide +kernel
theorem dL_law_478 : decode cL_law 478 = .ok (.iload_n 3, 1) := by decide +kernel
theorem dL_law_479 : decode cL_law 479 = .ok (.iconst 2, 1) := by decide +kernel
theorem dL_law_480 : decode cL_law 480 = .ok (.iadd, 1) := by decide +kernel
theorem dL_law_481 : decode cL_law 481 = .ok (.iaload, 1) := by decide +kernel
theorem dL_law_482 : decode cL_law 482 = .ok (.invokevirtual 60, 3) := by decide +kernel
theorem dL_law_485 : decode cL_law 485 = .ok (.aload_n 2, 1) := by decide +kernel
theorem dL_law_486 : decode cL_law 486 = .ok (.aload_n 0, 1) := by decide +kernel
theorem dL_law_487 : decode cL_law 487 = .ok (.iload_n 3, 1) := by decide +kernel
theorem dL_law_488 : decode cL_law 488 = .ok (.iconst 1, 1) := by decide +kernel
theorem dL_law_489 : decode cL_law 489 = .ok (.iadd, 1) := by decide +kernel
theorem dL_law_490 : decode cL_law 490 = .ok (.iaload, 1) := by decide +kernel
theorem dL_law_491 : decode cL_law 491 = .ok (.aload_n 0, 1) := by decide +kernel
theorem dL_law_492 : decode cL_law 492 = .ok (.iload_n 3, 1) := by decide +kernel
theorem dL_law_493 : decode cL_law 493 = .ok (.iconst 2, 1) := by decide +kernel
theorem dL_law_494 : decode cL_law 494 = .ok (.iadd, 1) := by decide +kernel
theorem dL_law_495 : decode cL_law 495 = .ok (.iaload, 1) := by decide +kernel
theorem dL_law_496 : decode cL_law 496 = .ok (.invokevirtual 63, 3) := by decide +kernel
theorem dL_law_499 : decode cL_law 499 = .ok (.if_icmp .eq 312, 3) := by decide +kernel
theorem dL_law_502 : decode cL_law 502 = .ok (.iconst 0, 1) := by decide +kernel
theorem dL_law_503 : decode cL_law 503 = .ok (.ireturn, 1) := by decide +kernel
theorem dL_law_504 : decode cL_law 504 = .ok (.aload_n 1, 1) := by decide +kernel
theorem dL_law_505 : decode cL_law 505 = .ok (.aload_n 0, 1) := by decide +kernel
theorem dL_law_506 : decode cL_law 506 = .ok (.iload_n 3, 1) := by decide +kernel
theorem dL_law_507 : decode cL_law 507 = .ok (.iconst 1, 1) := by decide +kernel
theorem dL_law_508 : decode cL_law 508 = .ok (.iadd, 1) := by decide +kernel
theorem dL_law_509 : decode cL_law 509 = .ok (.iaload, 1) := by decide +kernel
theorem dL_law_510 : decode cL_law 510 = .ok (.aload_n 0, 1) := by decide +kernel
theorem dL_law_511 : decode cL_law 511 = .ok (.iload_n 3, 1) := by decide +kernel
theorem dL_law_512 : decode cL_law 512 = .ok (.iconst 2, 1) := by decide +kernel
theorem dL_law_513 : decode cL_law 513 = .ok (.iadd, 1) := by decide +kernel
theorem dL_law_514 : decode cL_law 514 = .ok (.iaload, 1) := by decide +kernel
theorem dL_law_515 : decode cL_law 515 = .ok (.aload_n 0, 1) := by decide +kernel
theorem dL_law_516 : decode cL_law 516 = .ok (.iload_n 3, 1) := by decide +kernel
theorem dL_law_517 : decode cL_law 517 = .ok (.iconst 3, 1) := by decide +kernel
theorem dL_law_518 : decode cL_law 518 = .ok (.iadd, 1) := by decide +kernel
theorem dL_law_519 : decode cL_law 519 = .ok (.iaload, 1) := by decide +kernel
theorem dL_law_520 : decode cL_law 520 = .ok (.invokevirtual 64, 3) := by decide +kernel
theorem dL_law_523 : decode cL_law 523 = .ok (.aload_n 2, 1) := by decide +kernel
theorem dL_law_524 : decode cL_law 524 = .ok (.aload_n 0, 1) := by decide +kernel
theorem dL_law_525 : decode cL_law 525 = .ok (.iload_n 3, 1) := by decide +kernel
theorem dL_law_526 : decode cL_law 526 = .ok (.iconst 1, 1) := by decide +kernel
theorem dL_law_527 : decode cL_law 527 = .ok (.iadd, 1) := by decide +kernel
theorem dL_law_528 : decode cL_law 528 = .ok (.iaload, 1) := by decide +kernel
theorem dL_law_529 : decode cL_law 529 = .ok (.aload_n 0, 1) := by decide +kernel
theorem dL_law_530 : decode cL_law 530 = .ok (.iload_n 3, 1) := by decide +kernel
theorem dL_law_531 : decode cL_law 531 = .ok (.iconst 2, 1) := by decide +kernel
theorem dL_law_532 : decode cL_law 532 = .ok (.iadd, 1) := by decide +kernel
theorem dL_law_533 : decode cL_law 533 = .ok (.iaload, 1) := by decide +kernel
theorem dL_law_534 : decode cL_law 534 = .ok (.aload_n 0, 1) := by decide +kernel
theorem dL_law_535 : decode cL_law 535 = .ok (.iload_n 3, 1) := by decide +kernel
theorem dL_law_536 : decode cL_law 536 = .ok (.iconst 3, 1) := by decide +kernel
theorem dL_law_537 : decode cL_law 537 = .ok (.iadd, 1) := by decide +kernel
theorem dL_law_538 : decode cL_law 538 = .ok (.iaload, 1) := by decide +kernel
theorem dL_law_539 : decode cL_law 539 = .ok (.invokevirtual 67, 3) := by decide +kernel
theorem dL_law_542 : decode cL_law 542 = .ok (.if_icmp .eq 269, 3) := by decide +kernel
theorem dL_law_545 : decode cL_law 545 = .ok (.iconst 0, 1) := by decide +kernel
theorem dL_law_546 : decode cL_law 546 = .ok (.ireturn, 1) := by decide +kernel
theorem dL_law_547 : decode cL_law 547 = .ok (.aload_n 1, 1) := by decide +kernel
theorem dL_law_548 : decode cL_law 548 = .ok (.aload_n 0, 1) := by decide +kernel
theorem dL_law_549 : decode cL_law 549 = .ok (.iload_n 3, 1) := by decide +kernel
theorem dL_law_550 : decode cL_law 550 = .ok (.iconst 1, 1) := by decide +kernel
theorem dL_law_551 : decode cL_law 551 = .ok (.iadd, 1) := by decide +kernel
theorem dL_law_552 : decode cL_law 552 = .ok (.iaload, 1) := by decide +kernel
theorem dL_law_553 : decode cL_law 553 = .ok (.aload_n 0, 1) := by decide +kernel
theorem dL_law_554 : decode cL_law 554 = .ok (.iload_n 3, 1) := by decide +kernel
theorem dL_law_555 : decode cL_law 555 = .ok (.iconst 2, 1) := by decide +kernel
theorem dL_law_556 : decode cL_law 556 = .ok (.iadd, 1) := by decide +kernel
theorem dL_law_557 : decode cL_law 557 = .ok (.iaload, 1) := by decide +kernel
theorem dL_law_558 : decode cL_law 558 = .ok (.aload_n 0, 1) := by decide +kernel
theorem dL_law_559 : decode cL_law 559 = .ok (.iload_n 3, 1) := by decide +kernel
theorem dL_law_560 : decode cL_law 560 = .ok (.iconst 3, 1) := by decide +kernel
theorem dL_law_561 : decode cL_law 561 = .ok (.iadd, 1) := by decide +kernel
theorem dL_law_562 : decode cL_law 562 = .ok (.iaload, 1) := by decide +kernel
theorem dL_law_563 : decode cL_law 563 = .ok (.invokevirtual 68, 3) := by decide +kernel
theorem dL_law_566 : decode cL_law 566 = .ok (.aload_n 2, 1) := by decide +kernel
theorem dL_law_567 : decode cL_law 567 = .ok (.aload_n 0, 1) := by decide +kernel
theorem dL_law_568 : decode cL_law 568 = .ok (.iload_n 3, 1) := by decide +kernel
theorem dL_law_569 : decode cL_law 569 = .ok (.iconst 1, 1) := by decide +kernel
theorem dL_law_570 : decode cL_law 570 = .ok (.iadd, 1) := by decide +kernel
theorem dL_law_571 : decode cL_law 571 = .ok (.iaload, 1) := by decide +kernel
theorem dL_law_572 : decode cL_law 572 = .ok (.aload_n 0, 1) := by decide +kernel
theorem dL_law_573 : decode cL_law 573 = .ok (.iload_n 3, 1) := by decide +kernel
theorem dL_law_574 : decode cL_law 574 = .ok (.iconst 2, 1) := by decide +kernel
theorem dL_law_575 : decode cL_law 575 = .ok (.iadd, 1) := by decide +kernel
theorem dL_law_576 : decode cL_law 576 = .ok (.iaload, 1) := by decide +kernel
theorem dL_law_577 : decode cL_law 577 = .ok (.aload_n 0, 1) := by decide +kernel
theorem dL_law_578 : decode cL_law 578 = .ok (.iload_n 3, 1) := by decide +kernel
theorem dL_law_579 : decode cL_law 579 = .ok (.iconst 3, 1) := by decide +kernel
theorem dL_law_580 : decode cL_law 580 = .ok (.iadd, 1) := by decide +kernel
theorem dL_law_581 : decode cL_law 581 = .ok (.iaload, 1) := by decide +kernel
theorem dL_law_582 : decode cL_law 582 = .ok (.invokevirtual 71, 3) := by decide +kernel
theorem dL_law_585 : decode cL_law 585 = .ok (.if_icmp .eq 226, 3) := by decide +kernel
theorem dL_law_588 : decode cL_law 588 = .ok (.iconst 0, 1) := by decide +kernel
theorem dL_law_589 : decode cL_law 589 = .ok (.ireturn, 1) := by decide +kernel
theorem dL_law_590 : decode cL_law 590 = .ok (.aload_n 1, 1) := by decide +kernel
theorem dL_law_591 : decode cL_law 591 = .ok (.aload_n 0, 1) := by decide +kernel
theorem dL_law_592 : decode cL_law 592 = .ok (.iload_n 3, 1) := by decide +kernel
theorem dL_law_593 : decode cL_law 593 = .ok (.iconst 1, 1) := by decide +kernel
theorem dL_law_594 : decode cL_law 594 = .ok (.iadd, 1) := by decide +kernel
theorem dL_law_595 : decode cL_law 595 = .ok (.iaload, 1) := by decide +kernel
theorem dL_law_596 : decode cL_law 596 = .ok (.invokevirtual 72, 3) := by decide +kernel
theorem dL_law_599 : decode cL_law 599 = .ok (.aload_n 2, 1) := by decide +kernel
theorem dL_law_600 : decode cL_law 600 = .ok (.aload_n 0, 1) := by decide +kernel
theorem dL_law_601 : decode cL_law 601 = .ok (.iload_n 3, 1) := by decide +kernel
theorem dL_law_602 : decode cL_law 602 = .ok (.iconst 1, 1) := by decide +kernel
theorem dL_law_603 : decode cL_law 603 = .ok (.iadd, 1) := by decide +kernel
theorem dL_law_604 : decode cL_law 604 = .ok (.iaload, 1) := by decide +kernel
theorem dL_law_605 : decode cL_law 605 = .ok (.invokevirtual 75, 3) := by decide +kernel
theorem dL_law_608 : decode cL_law 608 = .ok (.if_icmp .eq 203, 3) := by decide +kernel
theorem dL_law_611 : decode cL_law 611 = .ok (.iconst 0, 1) := by decide +kernel
theorem dL_law_612 : decode cL_law 612 = .ok (.ireturn, 1) := by decide +kernel
theorem dL_law_613 : decode cL_law 613 = .ok (.aload_n 1, 1) := by decide +kernel
theorem dL_law_614 : decode cL_law 614 = .ok (.aload_n 0, 1) := by decide +kernel
theorem dL_law_615 : decode cL_law 615 = .ok (.iload_n 3, 1) := by decide +kernel
theorem dL_law_616 : decode cL_law 616 = .ok (.iconst 1, 1) := by decide +kernel
theorem dL_law_617 : decode cL_law 617 = .ok (.iadd, 1) := by decide +kernel
theorem dL_law_618 : decode cL_law 618 = .ok (.iaload, 1) := by decide +kernel
theorem dL_law_619 : decode cL_law 619 = .ok (.aload_n 0, 1) := by decide +kernel
theorem dL_law_620 : decode cL_law 620 = .ok (.iload_n 3, 1) := by decide +kernel
theorem dL_law_621 : decode cL_law 621 = .ok (.iconst 2, 1) := by decide +kernel
theorem dL_law_622 : decode cL_law 622 = .ok (.iadd, 1) := by decide +kernel
theorem dL_law_623 : decode cL_law 623 = .ok (.iaload, 1) := by decide +kernel
theorem dL_law_624 : decode cL_law 624 = .ok (.aload_n 0, 1) := by decide +kernel
theorem dL_law_625 : decode cL_law 625 = .ok (.iload_n 3, 1) := by decide +kernel
theorem dL_law_626 : decode cL_law 626 = .ok (.iconst 3, 1) := by decide +kernel
theorem dL_law_627 : decode cL_law 627 = .ok (.iadd, 1) := by decide +kernel
theorem dL_law_628 : decode cL_law 628 = .ok (.iaload, 1) := by decide +kernel
theorem dL_law_629 : decode cL_law 629 = .ok (.invokevirtual 76, 3) := by decide +kernel
theorem dL_law_632 : decode cL_law 632 = .ok (.aload_n 2, 1) := by decide +kernel
theorem dL_law_633 : decode cL_law 633 = .ok (.aload_n 0, 1) := by decide +kernel
theorem dL_law_634 : decode cL_law 634 = .ok (.iload_n 3, 1) := by decide +kernel
theorem dL_law_635 : decode cL_law 635 = .ok (.iconst 1, 1) := by decide +kernel
theorem dL_law_636 : decode cL_law 636 = .ok (.iadd, 1) := by decide +kernel
theorem dL_law_637 : decode cL_law 637 = .ok (.iaload, 1) := by decide +kernel
theorem dL_law_638 : decode cL_law 638 = .ok (.aload_n 0, 1) := by decide +kernel
theorem dL_law_639 : decode cL_law 639 = .ok (.iload_n 3, 1) := by decide +kernel
theorem dL_law_640 : decode cL_law 640 = .ok (.iconst 2, 1) := by decide +kernel
theorem dL_law_641 : decode cL_law 641 = .ok (.iadd, 1) := by decide +kernel
theorem dL_law_642 : decode cL_law 642 = .ok (.iaload, 1) := by decide +kernel
theorem dL_law_643 : decode cL_law 643 = .ok (.aload_n 0, 1) := by decide +kernel
theorem dL_law_644 : decode cL_law 644 = .ok (.iload_n 3, 1) := by decide +kernel
theorem dL_law_645 : decode cL_law 645 = .ok (.iconst 3, 1) := by decide +kernel
theorem dL_law_646 : decode cL_law 646 = .ok (.iadd, 1) := by decide +kernel
theorem dL_law_647 : decode cL_law 647 = .ok (.iaload, 1) := by decide +kernel
theorem dL_law_648 : decode cL_law 648 = .ok (.invokevirtual 79, 3) := by decide +kernel
theorem dL_law_651 : decode cL_law 651 = .ok (.if_icmp .eq 160, 3) := by decide +kernel
theorem dL_law_654 : decode cL_law 654 = .ok (.iconst 0, 1) := by decide +kernel
theorem dL_law_655 : decode cL_law 655 = .ok (.ireturn, 1) := by decide +kernel
theorem dL_law_656 : decode cL_law 656 = .ok (.aload_n 1, 1) := by decide +kernel
theorem dL_law_657 : decode cL_law 657 = .ok (.aload_n 0, 1) := by decide +kernel
theorem dL_law_658 : decode cL_law 658 = .ok (.iload_n 3, 1) := by decide +kernel
theorem dL_law_659 : decode cL_law 659 = .ok (.iconst 1, 1) := by decide +kernel
theorem dL_law_660 : decode cL_law 660 = .ok (.iadd, 1) := by decide +kernel
theorem dL_law_661 : decode cL_law 661 = .ok (.iaload, 1) := by decide +kernel
theorem dL_law_662 : decode cL_law 662 = .ok (.aload_n 0, 1) := by decide +kernel
theorem dL_law_663 : decode cL_law 663 = .ok (.iload_n 3, 1) := by decide +kernel
theorem dL_law_664 : decode cL_law 664 = .ok (.iconst 2, 1) := by decide +kernel
theorem dL_law_665 : decode cL_law 665 = .ok (.iadd, 1) := by decide +kernel
theorem dL_law_666 : decode cL_law 666 = .ok (.iaload, 1) := by decide +kernel
theorem dL_law_667 : decode cL_law 667 = .ok (.aload_n 0, 1) := by decide +kernel
theorem dL_law_668 : decode cL_law 668 = .ok (.iload_n 3, 1) := by decide +kernel
theorem dL_law_669 : decode cL_law 669 = .ok (.iconst 3, 1) := by decide +kernel
theorem dL_law_670 : decode cL_law 670 = .ok (.iadd, 1) := by decide +kernel
theorem dL_law_671 : decode cL_law 671 = .ok (.iaload, 1) := by decide +kernel
theorem dL_law_672 : decode cL_law 672 = .ok (.aload_n 0, 1) := by decide +kernel
theorem dL_law_673 : decode cL_law 673 = .ok (.iload_n 3, 1) := by decide +kernel
theorem dL_law_674 : decode cL_law 674 = .ok (.iconst 4, 1) := by decide +kernel
theorem dL_law_675 : decode cL_law 675 = .ok (.iadd, 1) := by decide +kernel
theorem dL_law_676 : decode cL_law 676 = .ok (.iaload, 1) := by decide +kernel
theorem dL_law_677 : decode cL_law 677 = .ok (.aload_n 0, 1) := by decide +kernel
theorem dL_law_678 : decode cL_law 678 = .ok (.iload_n 3, 1) := by decide +kernel
theorem dL_law_679 : decode cL_law 679 = .ok (.iconst 5, 1) := by decide +kernel
theorem dL_law_680 : decode cL_law 680 = .ok (.iadd, 1) := by decide +kernel
theorem dL_law_681 : decode cL_law 681 = .ok (.iaload, 1) := by decide +kernel
theorem dL_law_682 : decode cL_law 682 = .ok (.aload_n 0, 1) := by decide +kernel
theorem dL_law_683 : decode cL_law 683 = .ok (.iload_n 3, 1) := by decide +kernel
theorem dL_law_684 : decode cL_law 684 = .ok (.bipush 6, 2) := by decide +kernel
theorem dL_law_686 : decode cL_law 686 = .ok (.iadd, 1) := by decide +kernel
theorem dL_law_687 : decode cL_law 687 = .ok (.iaload, 1) := by decide +kernel
theorem dL_law_688 : decode cL_law 688 = .ok (.invokevirtual 80, 3) := by decide +kernel
theorem dL_law_691 : decode cL_law 691 = .ok (.aload_n 2, 1) := by decide +kernel
theorem dL_law_692 : decode cL_law 692 = .ok (.aload_n 0, 1) := by decide +kernel
theorem dL_law_693 : decode cL_law 693 = .ok (.iload_n 3, 1) := by decide +kernel
theorem dL_law_694 : decode cL_law 694 = .ok (.iconst 1, 1) := by decide +kernel
theorem dL_law_695 : decode cL_law 695 = .ok (.iadd, 1) := by decide +kernel
theorem dL_law_696 : decode cL_law 696 = .ok (.iaload, 1) := by decide +kernel
theorem dL_law_697 : decode cL_law 697 = .ok (.aload_n 0, 1) := by decide +kernel
theorem dL_law_698 : decode cL_law 698 = .ok (.iload_n 3, 1) := by decide +kernel
theorem dL_law_699 : decode cL_law 699 = .ok (.iconst 2, 1) := by decide +kernel
theorem dL_law_700 : decode cL_law 700 = .ok (.iadd, 1) := by decide +kernel
theorem dL_law_701 : decode cL_law 701 = .ok (.iaload, 1) := by decide +kernel
theorem dL_law_702 : decode cL_law 702 = .ok (.aload_n 0, 1) := by decide +kernel
theorem dL_law_703 : decode cL_law 703 = .ok (.iload_n 3, 1) := by decide +kernel
theorem dL_law_704 : decode cL_law 704 = .ok (.iconst 3, 1) := by decide +kernel
theorem dL_law_705 : decode cL_law 705 = .ok (.iadd, 1) := by decide +kernel
theorem dL_law_706 : decode cL_law 706 = .ok (.iaload, 1) := by decide +kernel
theorem dL_law_707 : decode cL_law 707 = .ok (.aload_n 0, 1) := by decide +kernel
theorem dL_law_708 : decode cL_law 708 = .ok (.iload_n 3, 1) := by decide +kernel
theorem dL_law_709 : decode cL_law 709 = .ok (.iconst 4, 1) := by decide +kernel
theorem dL_law_710 : decode cL_law 710 = .ok (.iadd, 1) := by decide +kernel
theorem dL_law_711 : decode cL_law 711 = .ok (.iaload, 1) := by decide +kernel
theorem dL_law_712 : decode cL_law 712 = .ok (.aload_n 0, 1) := by decide +kernel
theorem dL_law_713 : decode cL_law 713 = .ok (.iload_n 3, 1) := by decide +kernel
theorem dL_law_714 : decode cL_law 714 = .ok (.iconst 5, 1) := by decide +kernel
theorem dL_law_715 : decode cL_law 715 = .ok (.iadd, 1) := by decide +kernel
theorem dL_law_716 : decode cL_law 716 = .ok (.iaload, 1) := by decide +kernel
theorem dL_law_717 : decode cL_law 717 = .ok (.aload_n 0, 1) := by decide +kernel
theorem dL_law_718 : decode cL_law 718 = .ok (.iload_n 3, 1) := by decide +kernel
theorem dL_law_719 : decode cL_law 719 = .ok (.bipush 6, 2) := by decide +kernel
theorem dL_law_721 : decode cL_law 721 = .ok (.iadd, 1) := by decide +kernel
theorem dL_law_722 : decode cL_law 722 = .ok (.iaload, 1) := by decide +kernel
theorem dL_law_723 : decode cL_law 723 = .ok (.invokevirtual 84, 3) := by decide +kernel
theorem dL_law_726 : decode cL_law 726 = .ok (.lcmp, 1) := by decide +kernel
theorem dL_law_727 : decode cL_law 727 = .ok (.ifCond .eq 84, 3) := by decide +kernel
theorem dL_law_730 : decode cL_law 730 = .ok (.iconst 0, 1) := by decide +kernel
theorem dL_law_731 : decode cL_law 731 = .ok (.ireturn, 1) := by decide +kernel
theorem dL_law_732 : decode cL_law 732 = .ok (.aload_n 1, 1) := by decide +kernel
theorem dL_law_733 : decode cL_law 733 = .ok (.aload_n 0, 1) := by decide +kernel
theorem dL_law_734 : decode cL_law 734 = .ok (.iload_n 3, 1) := by decide +kernel
theorem dL_law_735 : decode cL_law 735 = .ok (.iconst 1, 1) := by decide +kernel
theorem dL_law_736 : decode cL_law 736 = .ok (.iadd, 1) := by decide +kernel
theorem dL_law_737 : decode cL_law 737 = .ok (.iaload, 1) := by decide +kernel
theorem dL_law_738 : decode cL_law 738 = .ok (.aload_n 0, 1) := by decide +kernel
theorem dL_law_739 : decode cL_law 739 = .ok (.iload_n 3, 1) := by decide +kernel
theorem dL_law_740 : decode cL_law 740 = .ok (.iconst 2, 1) := by decide +kernel
theorem dL_law_741 : decode cL_law 741 = .ok (.iadd, 1) := by decide +kernel
theorem dL_law_742 : decode cL_law 742 = .ok (.iaload, 1) := by decide +kernel
theorem dL_law_743 : decode cL_law 743 = .ok (.aload_n 0, 1) := by decide +kernel
theorem dL_law_744 : decode cL_law 744 = .ok (.iload_n 3, 1) := by decide +kernel
theorem dL_law_745 : decode cL_law 745 = .ok (.iconst 3, 1) := by decide +kernel
theorem dL_law_746 : decode cL_law 746 = .ok (.iadd, 1) := by decide +kernel
theorem dL_law_747 : decode cL_law 747 = .ok (.iaload, 1) := by decide +kernel
theorem dL_law_748 : decode cL_law 748 = .ok (.invokevirtual 85, 3) := by decide +kernel
theorem dL_law_751 : decode cL_law 751 = .ok (.aload_n 2, 1) := by decide +kernel
theorem dL_law_752 : decode cL_law 752 = .ok (.aload_n 0, 1) := by decide +kernel
theorem dL_law_753 : decode cL_law 753 = .ok (.iload_n 3, 1) := by decide +kernel
theorem dL_law_754 : decode cL_law 754 = .ok (.iconst 1, 1) := by decide +kernel
theorem dL_law_755 : decode cL_law 755 = .ok (.iadd, 1) := by decide +kernel
theorem dL_law_756 : decode cL_law 756 = .ok (.iaload, 1) := by decide +kernel
theorem dL_law_757 : decode cL_law 757 = .ok (.aload_n 0, 1) := by decide +kernel
theorem dL_law_758 : decode cL_law 758 = .ok (.iload_n 3, 1) := by decide +kernel
theorem dL_law_759 : decode cL_law 759 = .ok (.iconst 2, 1) := by decide +kernel
theorem dL_law_760 : decode cL_law 760 = .ok (.iadd, 1) := by decide +kernel
theorem dL_law_761 : decode cL_law 761 = .ok (.iaload, 1) := by decide +kernel
theorem dL_law_762 : decode cL_law 762 = .ok (.aload_n 0, 1) := by decide +kernel
theorem dL_law_763 : decode cL_law 763 = .ok (.iload_n 3, 1) := by decide +kernel
theorem dL_law_764 : decode cL_law 764 = .ok (.iconst 3, 1) := by decide +kernel
theorem dL_law_765 : decode cL_law 765 = .ok (.iadd, 1) := by decide +kernel
theorem dL_law_766 : decode cL_law 766 = .ok (.iaload, 1) := by decide +kernel
theorem dL_law_767 : decode cL_law 767 = .ok (.invokevirtual 88, 3) := by decide +kernel
theorem dL_law_770 : decode cL_law 770 = .ok (.if_icmp .eq 41, 3) := by decide +kernel
theorem dL_law_773 : decode cL_law 773 = .ok (.iconst 0, 1) := by decide +kernel
theorem dL_law_774 : decode cL_law 774 = .ok (.ireturn, 1) := by decide +kernel
theorem dL_law_775 : decode cL_law 775 = .ok (.aload_n 1, 1) := by decide +kernel
theorem dL_law_776 : decode cL_law 776 = .ok (.invokevirtual 89, 3) := by decide +kernel
theorem dL_law_779 : decode cL_law 779 = .ok (.aload_n 2, 1) := by decide +kernel
theorem dL_law_780 : decode cL_law 780 = .ok (.invokevirtual 93, 3) := by decide +kernel
theorem dL_law_783 : decode cL_law 783 = .ok (.if_icmp .eq 28, 3) := by decide +kernel
theorem dL_law_786 : decode cL_law 786 = .ok (.iconst 0, 1) := by decide +kernel
theorem dL_law_787 : decode cL_law 787 = .ok (.ireturn, 1) := by decide +kernel
theorem dL_law_788 : decode cL_law 788 = .ok (.aload_n 1, 1) := by decide +kernel
theorem dL_law_789 : decode cL_law 789 = .ok (.aload_n 0, 1) := by decide +kernel
theorem dL_law_790 : decode cL_law 790 = .ok (.iload_n 3, 1) := by decide +kernel
theorem dL_law_791 : decode cL_law 791 = .ok (.iconst 1, 1) := by decide +kernel
theorem dL_law_792 : decode cL_law 792 = .ok (.iadd, 1) := by decide +kernel
theorem dL_law_793 : decode cL_law 793 = .ok (.iaload, 1) := by decide +kernel
theorem dL_law_794 : decode cL_law 794 = .ok (.invokevirtual 94, 3) := by decide +kernel
theorem dL_law_797 : decode cL_law 797 = .ok (.aload_n 2, 1) := by decide +kernel
theorem dL_law_798 : decode cL_law 798 = .ok (.aload_n 0, 1) := by decide +kernel
theorem dL_law_799 : decode cL_law 799 = .ok (.iload_n 3, 1) := by decide +kernel
theorem dL_law_800 : decode cL_law 800 = .ok (.iconst 1, 1) := by decide +kernel
theorem dL_law_801 : decode cL_law 801 = .ok (.iadd, 1) := by decide +kernel
theorem dL_law_802 : decode cL_law 802 = .ok (.iaload, 1) := by decide +kernel
theorem dL_law_803 : decode cL_law 803 = .ok (.invokevirtual 97, 3) := by decide +kernel
theorem dL_law_806 : decode cL_law 806 = .ok (.if_icmp .eq 5, 3) := by decide +kernel
theorem dL_law_809 : decode cL_law 809 = .ok (.iconst 0, 1) := by decide +kernel
theorem dL_law_810 : decode cL_law 810 = .ok (.ireturn, 1) := by decide +kernel
theorem dL_law_811 : decode cL_law 811 = .ok (.iinc 3 7, 3) := by decide +kernel
theorem dL_law_814 : decode cL_law 814 = .ok (.goto (-796), 3) := by decide +kernel
theorem dL_law_817 : decode cL_law 817 = .ok (.iconst 1, 1) := by decide +kernel
theorem dL_law_818 : decode cL_law 818 = .ok (.ireturn, 1) := by decide +kernel
abbrev vwCl : List vw_C := [(RX0, TX0, 9), (RX1, TX1, 5), (RX2, TX2, 7), (RX3, TX3, 6), (RX4, TX4, 2), (RX5, TX5, 8), (RX6, TX6, 8), (RX7, TX7, 34)]
end
section
/-! my own rows: contracts that read, contracts that write, their starts, ends and calls; array and branch rows over nI -/
def nwL : List Cond := [.methodLinkNest RX6 29 yX2_init "FireNets", .methodLinkNest RX3 41 yX6_within "FireNets", .methodLinkNest RX3 53 yX6_holds "FireNets", .methodLinkNest RX5 25 yX6_within "FireNets", .methodLinkNest RX1 56 yX6_holds "FireNets", .methodLinkNest RX0 71 yX6_within "FireNets"]
/-- the links across the nest -/
def NW (U : State) : Prop := ∀ w ∈ nwL, va_Nw w U
theorem nwL_tab : ∀ w ∈ nwL, w.onTables = true := by
  intro w hw
  simp only [nwL, List.mem_cons, List.not_mem_nil, or_false] at hw
  rcases hw with rfl | rfl | rfl | rfl | rfl | rfl <;> rfl
theorem NW.same {u U : State} (h : u.vm = U.vm) (hN : NW u) : NW U := fun w hw => va_Nw.same (nwL_tab w hw) h (hN w hw)
theorem NW.warm {s U : State} (hW : s.WarmedH U.vm) (hN : NW s) : NW U := by
  intro w hw
  have h := hN w hw
  simp only [nwL, List.mem_cons, List.not_mem_nil, or_false] at hw
  rcases hw with rfl | rfl | rfl | rfl | rfl | rfl <;> exact va_Nw.warmM hW h
theorem NW.of {args : Array Value} {U : State} (h : ∀ w ∈ nwL, w.before args U = true) : NW U := fun w hw => va_Nw.of (nwL_tab w hw) (h w hw)
abbrev aT (cI cJ : ClassId) : List (ClassId × FieldType) := [(cI, .int), (cJ, .long)]
/-- what every method asks of the machine's tables -/
def KK (D : va_G) (cI cJ : ClassId) (U : State) : Prop := va_K D vwCl (aT cI cJ) U ∧ NW U
theorem KK.same {D : va_G} {cI cJ : ClassId} {u U : State} (h : u.vm = U.vm) (hK : KK D cI cJ u) : KK D cI cJ U := ⟨va_K.moved (u := u) (U := U) (by rw [h]; exact Vm.Alike.refl U.vm) hK.1, hK.2.same h⟩
theorem KK.warm {D : va_G} {cI cJ : ClassId} {s U : State} (hW : s.WarmedH U.vm) (hK : KK D cI cJ s) : KK D cI cJ U := ⟨va_K.moved hW.alike hK.1, hK.2.warm hW⟩
/-- the start of a method that only reads -/
def rPre (D : va_G) (cI cJ : ClassId) (av : List Value) (ws : va_W) : Array Value → State → Prop := va_Pc av (fun U => va_P D vwCl ws U.heap ∧ KK D cI cJ U)
/-- the start of a method that writes its cells -/
def mPre (D : va_G) (cI cJ : ClassId) (av : List Value) (ws : va_W) : Array Value → State → Prop := va_Pc av (fun U => va_P D vwCl ws U.heap ∧ KK D cI cJ U ∧ va_D (fun _ => True) ws)
def mA (ws : va_W) : Nat → Prop := fun q => ∃ (k : Nat) (e : va_E), ws[k]? = some (q, e)
def nA : Nat → Prop := fun _ => False
theorem rPre_blind {D : va_G} {cI cJ : ClassId} {av : List Value} {ws : va_W} : FrameBlind (rPre D cI cJ av ws) := fun a U g mk q => ⟨q.1, q.2.1, q.2.2.same (u := U) (U := U.calling g mk a) rfl⟩
theorem mPre_blind {D : va_G} {cI cJ : ClassId} {av : List Value} {ws : va_W} : FrameBlind (mPre D cI cJ av ws) := fun a U g mk q => ⟨q.1, q.2.1, q.2.2.1.same (u := U) (U := U.calling g mk a) rfl, q.2.2.2⟩
theorem va_D.at {A B : Nat → Prop} {ws ws' : va_W} (h : va_D A ws) (he : ws'.map (fun q => q.1) = ws.map (fun q => q.1)) : va_D A ws' := by
  have key : ∀ (k : Nat) (q : Nat × va_E), ws'[k]? = some q → ∃ q0, ws[k]? = some q0 ∧ q0.1 = q.1 := by
    intro k q hk
    have h1 : (ws'.map (fun q => q.1))[k]? = some q.1 := by rw [List.getElem?_map, hk]; rfl
    rw [he, List.getElem?_map] at h1
    cases hq : ws[k]? with
    | none => rw [hq] at h1; cases h1
    | some q0 => rw [hq] at h1; exact ⟨q0, rfl, Option.some.inj h1⟩
  refine ⟨fun i j x y hi hj hxy => ?_, fun k q hk => ?_⟩
  · obtain ⟨x0, h1, h2⟩ := key i x hi
    obtain ⟨y0, h3, h4⟩ := key j y hj
    exact h.1 i j x0 y0 h1 h3 (h2.trans (hxy.trans h4.symm))
  · obtain ⟨q0, h1, h2⟩ := key k q hk
    rw [← h2]
    exact h.2 k q0 h1
/-- a world with some of its cells laid anew, by their places -/
def va_lay : va_W → List Nat → va_W → va_W
  | ws, i :: is, w :: wm => va_lay (ws.set i w) is wm
  | ws, _, _ => ws
theorem va_lay_get : ∀ (is : List Nat) (ws wm : va_W), va_nd is = true → is.length = wm.length → (∀ i ∈ is, i < ws.length) → ∀ (k : Nat), (k ∉ is → (va_lay ws is wm)[k]? = ws[k]?) ∧ (∀ j : Nat, is[j]? = some k → (va_lay ws is wm)[k]? = wm[j]?)
  | [], ws, wm, _, _, _, k => ⟨fun _ => by cases wm <;> rfl, fun j h => by simp at h⟩
  | i :: is, ws, [], _, hl, _, k => by simp at hl
  | i :: is, ws, w :: wm, hn, hl, hi, k => by
    simp only [va_nd, Bool.and_eq_true, decide_eq_true_eq] at hn
    have ih := va_lay_get is (ws.set i w) wm hn.2 (by simpa using hl) (fun j hj => by rw [List.length_set]; exact hi j (List.mem_cons_of_mem _ hj)) k
    refine ⟨fun hk => ?_, fun j hj => ?_⟩
    · rw [List.mem_cons, not_or] at hk
      show (va_lay (ws.set i w) is wm)[k]? = _
      rw [ih.1 hk.2, List.getElem?_set_ne (Ne.symm hk.1)]
    · cases j with
      | zero =>
        rw [List.getElem?_cons_zero] at hj
        cases hj
        show (va_lay (ws.set i w) is wm)[i]? = _
        rw [ih.1 hn.1, List.getElem?_set_self (hi i List.mem_cons_self)]
        rfl
      | succ j =>
        rw [List.getElem?_cons_succ] at hj
        show (va_lay (ws.set i w) is wm)[k]? = _
        rw [ih.2 j hj]
        rfl
/-- behind a call: the callee's cells laid anew, the others as they were -/
theorem va_joinL {A0 : Nat → Prop} {D : va_G} {cl : List vw_C} {ws wc w1 : va_W} {H H1 : Heap} (hP : va_P D cl ws H) (hD : va_D A0 ws) (is : List Nat) (hC : is.map (fun i => ws[i]?) = wc.map some) (hn : va_nd is = true) (hk : ∀ q : Nat, q < H.size → ¬ mA wc q → H1[q]? = H[q]?) (hP1 : va_P D cl w1 H1) (he : w1.map (fun q => q.1) = wc.map (fun q => q.1)) : va_P D cl (va_lay ws is w1) H1 ∧ va_D A0 (va_lay ws is w1) := by
  have hlen : is.length = wc.length := by have := congrArg List.length hC; simpa using this
  have hlen1 : w1.length = wc.length := by have := congrArg List.length he; simpa using this
  have hat : ∀ (j i : Nat), is[j]? = some i → ∃ q, wc[j]? = some q ∧ ws[i]? = some q := by
    intro j i hj
    have h1 : (is.map (fun i => ws[i]?))[j]? = some (ws[i]?) := by rw [List.getElem?_map, hj]; rfl
    rw [hC, List.getElem?_map] at h1
    cases hq : wc[j]? with
    | none => rw [hq] at h1; cases h1
    | some q => rw [hq] at h1; exact ⟨q, rfl, (Option.some.inj h1).symm⟩
  have hin : ∀ i ∈ is, i < ws.length := by
    intro i hi
    obtain ⟨j, hj⟩ := List.getElem?_of_mem hi
    obtain ⟨q, -, h2⟩ := hat j i hj
    exact (List.getElem?_eq_some_iff.mp h2).1
  have had : ∀ (j : Nat) (q : Nat × va_E), w1[j]? = some q → ∃ q0, wc[j]? = some q0 ∧ q0.1 = q.1 := by
    intro j q hj
    have h1 : (w1.map (fun q => q.1))[j]? = some q.1 := by rw [List.getElem?_map, hj]; rfl
    rw [he, List.getElem?_map] at h1
    cases hq : wc[j]? with
    | none => rw [hq] at h1; cases h1
    | some q0 => rw [hq] at h1; exact ⟨q0, rfl, Option.some.inj h1⟩
  have hl1 : is.length = w1.length := hlen.trans hlen1.symm
  refine ⟨fun k q hkq => ?_, ?_⟩
  · have hg := va_lay_get is ws w1 hn hl1 hin k
    by_cases hm : k ∈ is
    · obtain ⟨j, hj⟩ := List.getElem?_of_mem hm
      rw [hg.2 j hj] at hkq
      exact hP1 j q hkq
    · rw [hg.1 hm] at hkq
      refine (hP k q hkq).kept (hk q.1 (hP k q hkq).lt ?_)
      rintro ⟨j, e, hj⟩
      have hj' : is[j]? = some (is[j]'(by rw [hlen]; exact (List.getElem?_eq_some_iff.mp hj).1)) := List.getElem?_eq_getElem _
      obtain ⟨q0, h1, h2⟩ := hat j _ hj'
      rw [hj] at h1
      cases h1
      have := hD.1 k _ q _ hkq h2 rfl
      exact hm (this ▸ List.mem_of_getElem? hj')
  · refine hD.at (B := A0) (List.ext_getElem? fun k => ?_)
    rw [List.getElem?_map, List.getElem?_map]
    have hg := va_lay_get is ws w1 hn hl1 hin k
    by_cases hm : k ∈ is
    · obtain ⟨j, hj⟩ := List.getElem?_of_mem hm
      rw [hg.2 j hj]
      obtain ⟨q0, h1, h2⟩ := hat j k hj
      rw [h2]
      cases hw : w1[j]? with
      | none =>
        have := (List.getElem?_eq_some_iff.mp h1).1
        rw [List.getElem?_eq_none_iff] at hw
        omega
      | some q =>
        obtain ⟨q1, h3, h4⟩ := had j q hw
        rw [h1] at h3
        cases h3
        simp [h4]
    · rw [hg.1 hm]
theorem mA_free {A0 : Nat → Prop} {ws wc : va_W} (hD : va_D A0 ws) (is : List Nat) (hC : is.map (fun i => ws[i]?) = wc.map some) : ∀ q, mA wc q → A0 q := by
  rintro q ⟨k, e, h⟩
  have h1 : (is.map (fun i => ws[i]?))[k]? = some (some (q, e)) := by rw [hC, List.getElem?_map, h]; rfl
  rw [List.getElem?_map] at h1
  cases hi : is[k]? with
  | none => rw [hi] at h1; cases h1
  | some i => rw [hi] at h1; exact hD.2 i (q, e) (Option.some.inj h1)
theorem va_subM {D : va_G} {cl : List vw_C} {ws wc : va_W} {H : Heap} (hP : va_P D cl ws H) (is : List Nat) (hC : is.map (fun i => ws[i]?) = wc.map some) : va_P D cl wc H := by
  intro k q h
  have h1 : (is.map (fun i => ws[i]?))[k]? = some (some q) := by rw [hC, List.getElem?_map, h]; rfl
  rw [List.getElem?_map] at h1
  cases hi : is[k]? with
  | none => rw [hi] at h1; cases h1
  | some i => rw [hi] at h1; exact hP i q (Option.some.inj h1)
abbrev qRI (v : Int32) : Array Value → State → Outcome → State → Prop := va_Qi (fun (r : Int32) (_ : Unit) => r = v) (fun _ _ => True) nA
abbrev qRL (v : Int64) : Array Value → State → Outcome → State → Prop := va_Ql (fun (r : Int64) (_ : Unit) => r = v) (fun _ _ => True) nA
abbrev mQi {S : Type} (D : va_G) (post : Int32 → S → Prop) (w' : S → va_W) (wc : va_W) : Array Value → State → Outcome → State → Prop := va_Qi post (fun u t => va_P D vwCl (w' u) t.heap) (mA wc)
abbrev mQl {S : Type} (D : va_G) (post : Int64 → S → Prop) (w' : S → va_W) (wc : va_W) : Array Value → State → Outcome → State → Prop := va_Ql post (fun u t => va_P D vwCl (w' u) t.heap) (mA wc)
abbrev mQv {S : Type} (D : va_G) (post : S → Prop) (w' : S → va_W) (wc : va_W) : Array Value → State → Outcome → State → Prop := va_Qv post (fun u t => va_P D vwCl (w' u) t.heap) (mA wc)
/-- what a walk has at its start -/
theorem startR {l : Launch} {D : va_G} {cI cJ : ClassId} {y : MethodName} {ws ws' : List Cond} {rm : Room} {av : List Value} {wc : va_W} {Qc : Array Value → State → Outcome → State → Prop} {mc ms : Nat} {free : Addr → Prop} {cc : ByteArray} {maxL : Nat} {ret : Option FieldType} (hy : plainName y.cls = true) (hw : ws = Cond.code y cc maxL ret :: ws') (hn : (lg_sl av).length ≤ maxL)
    (body : ∀ (p : Program) (e : Env) (s : State) (m : MethodId) (args : Array Value) (below : List Frame) (meth : Method) (c : Code) (ls : Array Slot) (Q : State → Prop), Q = MQ below Qc args s mc ms free → p.tables.exec = Jvm.exec → c.code = cc → meth.sig.returnType = ret → meth.locks = false → c.maxLocals = maxL → s.vm.findClass y.cls = some m.cls → (∀ w ∈ ws, w.before args s = true) → va_K D vwCl (aT cI cJ) s → NW s → va_P D vwCl wc s.heap → lv_has ls maxL (lv_args 0 av) → (y.name = "<init>" → meth.name = "<init>") → W p l e rm s m args below meth c s.heap [] 0 0 Q (F0 m 0 ls [])) :
    Met l y ws rm (rPre D cI cJ av wc) Qc mc ms free := by
  refine Met.ofW (cc := cc) (maxL := maxL) (ret := ret) hy hw ?_
  intro p e s m args below meth c s₁ B hml hv
  obtain ⟨rfl, hP, hK⟩ := hv
  have hl := lv_entry av (n := maxL) hn
  rw [lg_entry_eq]
  exact body p e s m _ below meth c _ _ rfl B.exec B.bytes B.returns B.notSynchronized hml (findClass_of_methodNamed B.named) (atoms_spec (ws := ws) B.pre) hK.1 hK.2 hP hl (fun h => ((name_of_methodNamed B.named B.method).1).trans h)
theorem startM {l : Launch} {D : va_G} {cI cJ : ClassId} {y : MethodName} {ws ws' : List Cond} {rm : Room} {av : List Value} {wc : va_W} {Qc : Array Value → State → Outcome → State → Prop} {mc ms : Nat} {free : Addr → Prop} {cc : ByteArray} {maxL : Nat} {ret : Option FieldType} (hy : plainName y.cls = true) (hw : ws = Cond.code y cc maxL ret :: ws') (hn : (lg_sl av).length ≤ maxL)
    (body : ∀ (p : Program) (e : Env) (s : State) (m : MethodId) (args : Array Value) (below : List Frame) (meth : Method) (c : Code) (ls : Array Slot) (Q : State → Prop) (A : Nat → Prop), A = mA wc → Q = MQ below Qc args s mc ms free → p.tables.exec = Jvm.exec → c.code = cc → meth.sig.returnType = ret → meth.locks = false → c.maxLocals = maxL → s.vm.findClass y.cls = some m.cls → (∀ w ∈ ws, w.before args s = true) → va_K D vwCl (aT cI cJ) s → NW s → va_P D vwCl wc s.heap → va_D A wc → lv_has ls maxL (lv_args 0 av) → (y.name = "<init>" → meth.name = "<init>") → W p l e rm s m args below meth c s.heap [] 0 0 Q (F0 m 0 ls [])) :
    Met l y ws rm (mPre D cI cJ av wc) Qc mc ms free := by
  refine Met.ofW (cc := cc) (maxL := maxL) (ret := ret) hy hw ?_
  intro p e s m args below meth c s₁ B hml hv
  obtain ⟨rfl, hP, hK, hD⟩ := hv
  have hl := lv_entry av (n := maxL) hn
  rw [lg_entry_eq]
  exact body p e s m _ below meth c _ _ _ rfl rfl B.exec B.bytes B.returns B.notSynchronized hml (findClass_of_methodNamed B.named) (atoms_spec (ws := ws) B.pre) hK.1 hK.2 hP ⟨hD.1, fun k q hk => ⟨k, q.2, hk⟩⟩ hl (fun h => ((name_of_methodNamed B.named B.method).1).trans h)
/-- a truth as the machine has it -/
def zb (P : Prop) [Decidable P] : Int32 := if P then 1 else 0
theorem zb_1 {P : Prop} [Decidable P] (h : P) : zb P = 1 := if_pos h
theorem zb_0 {P : Prop} [Decidable P] (h : ¬ P) : zb P = 0 := if_neg h
theorem zb_t {P : Prop} [Decidable P] (h : P) : (1 : Int32) = zb P := (if_pos h).symm
theorem zb_f {P : Prop} [Decidable P] (h : ¬ P) : (0 : Int32) = zb P := (if_neg h).symm
theorem zb_nar {P : Prop} [Decidable P] : narrow .boolean (.int (zb P)) = .int (zb P) := by
  by_cases h : P
  · rw [zb_1 h]; rfl
  · rw [zb_0 h]; rfl
theorem zb_fit {P : Prop} [Decidable P] : fits .boolean (.int (zb P)) = true := by
  by_cases h : P
  · rw [zb_1 h]; rfl
  · rw [zb_0 h]; rfl
theorem zb_iff {P Q : Prop} [Decidable P] [Decidable Q] (h : P ↔ Q) : zb P = zb Q := by
  by_cases h1 : P
  · rw [zb_1 h1, zb_1 (h.mp h1)]
  · rw [zb_0 h1, zb_0 (fun q => h1 (h.mpr q))]
theorem nwm_RX6_29 : Cond.methodLinkNest RX6 29 yX2_init "FireNets" ∈ nwL := by simp [nwL]
theorem nwm_RX3_41 : Cond.methodLinkNest RX3 41 yX6_within "FireNets" ∈ nwL := by simp [nwL]
theorem nwm_RX3_53 : Cond.methodLinkNest RX3 53 yX6_holds "FireNets" ∈ nwL := by simp [nwL]
theorem nwm_RX5_25 : Cond.methodLinkNest RX5 25 yX6_within "FireNets" ∈ nwL := by simp [nwL]
theorem nwm_RX1_56 : Cond.methodLinkNest RX1 56 yX6_holds "FireNets" ∈ nwL := by simp [nwL]
theorem nwm_RX0_71 : Cond.methodLinkNest RX0 71 yX6_within "FireNets" ∈ nwL := by simp [nwL]
section RW
variable {p : Program} {l : Launch} {e : Env} {R : Room} {s : State} {m : MethodId} {args : Array Value} {below : List Frame} {meth : Method} {c : Code} {H : Heap} {locs : List Loc} {cells slots : Nat} {Q : State → Prop} {cc : ByteArray} {pc : Nat} {ls : Array Slot} {rest : List Value} {D : va_G} {A : Nat → Prop} {a : Nat} {ws wc : va_W} {H0 : Heap} {cI cJ : ClassId}
theorem endRI {v x : Int32} (hx : p.tables.exec = Jvm.exec) (hb : c.code = cc) (hr : meth.sig.returnType = some .int) (hlocks : meth.locks = false) (hQ : Q = MQ below (qRI v) args s cells slots nA) (hS : va_S nA s.heap H locs) (hdg : decode cc pc = .ok (.ireturn, 1)) (hv : x = v) : W p l e R s m args below meth c H locs cells slots Q (F0 m pc ls [.int x]) := by
  subst hQ
  exact W.iret hx hb hr (fun t ht hW => ⟨⟨x, (), rfl, hv, trivial⟩, hS.F ht⟩) hS.2.2 hdg hlocks
theorem endRZ {v x : Int32} (hx : p.tables.exec = Jvm.exec) (hb : c.code = cc) (hr : meth.sig.returnType = some .boolean) (hlocks : meth.locks = false) (hQ : Q = MQ below (qRI v) args s cells slots nA) (hS : va_S nA s.heap H locs) (hdg : decode cc pc = .ok (.ireturn, 1)) (hz : narrow .boolean (.int x) = .int x) (hv : x = v) : W p l e R s m args below meth c H locs cells slots Q (F0 m pc ls [.int x]) := by
  subst hQ
  exact W.zret hx hb hr hz (fun t ht hW => ⟨⟨x, (), rfl, hv, trivial⟩, hS.F ht⟩) hS.2.2 hdg hlocks
theorem endRL {v x : Int64} (hx : p.tables.exec = Jvm.exec) (hb : c.code = cc) (hr : meth.sig.returnType = some .long) (hlocks : meth.locks = false) (hQ : Q = MQ below (qRL v) args s cells slots nA) (hS : va_S nA s.heap H locs) (hdg : decode cc pc = .ok (.lreturn, 1)) (hv : x = v) : W p l e R s m args below meth c H locs cells slots Q (F0 m pc ls [.long x]) := by
  subst hQ
  exact W.lret hx hb hr (fun t ht hW => ⟨⟨x, (), rfl, hv, trivial⟩, hS.F ht⟩) hS.2.2 hdg hlocks
theorem endMI {S : Type} {post : Int32 → S → Prop} {w' : S → va_W} {x : Int32} (u : S) (hx : p.tables.exec = Jvm.exec) (hb : c.code = cc) (hr : meth.sig.returnType = some .int) (hlocks : meth.locks = false) (hA : A = mA wc) (hQ : Q = MQ below (mQi D post w' wc) args s cells slots (mA wc)) (hS : va_S A s.heap H locs) (hP : va_P D vwCl ws H) (hdg : decode cc pc = .ok (.ireturn, 1)) (hw : ws = w' u) (hv : post x u) : W p l e R s m args below meth c H locs cells slots Q (F0 m pc ls [.int x]) := by
  subst hA; subst hQ; subst hw
  exact W.iret hx hb hr (fun t ht hW => ⟨⟨x, u, rfl, hv, by show va_P D vwCl (w' u) t.heap; rw [ht]; exact hP⟩, hS.F ht⟩) hS.2.2 hdg hlocks
theorem endMZ {S : Type} {post : Int32 → S → Prop} {w' : S → va_W} {x : Int32} (u : S) (hx : p.tables.exec = Jvm.exec) (hb : c.code = cc) (hr : meth.sig.returnType = some .boolean) (hlocks : meth.locks = false) (hA : A = mA wc) (hQ : Q = MQ below (mQi D post w' wc) args s cells slots (mA wc)) (hS : va_S A s.heap H locs) (hP : va_P D vwCl ws H) (hdg : decode cc pc = .ok (.ireturn, 1)) (hz : narrow .boolean (.int x) = .int x) (hw : ws = w' u) (hv : post x u) : W p l e R s m args below meth c H locs cells slots Q (F0 m pc ls [.int x]) := by
  subst hA; subst hQ; subst hw
  exact W.zret hx hb hr hz (fun t ht hW => ⟨⟨x, u, rfl, hv, by show va_P D vwCl (w' u) t.heap; rw [ht]; exact hP⟩, hS.F ht⟩) hS.2.2 hdg hlocks
theorem endML {S : Type} {post : Int64 → S → Prop} {w' : S → va_W} {x : Int64} (u : S) (hx : p.tables.exec = Jvm.exec) (hb : c.code = cc) (hr : meth.sig.returnType = some .long) (hlocks : meth.locks = false) (hA : A = mA wc) (hQ : Q = MQ below (mQl D post w' wc) args s cells slots (mA wc)) (hS : va_S A s.heap H locs) (hP : va_P D vwCl ws H) (hdg : decode cc pc = .ok (.lreturn, 1)) (hw : ws = w' u) (hv : post x u) : W p l e R s m args below meth c H locs cells slots Q (F0 m pc ls [.long x]) := by
  subst hA; subst hQ; subst hw
  exact W.lret hx hb hr (fun t ht hW => ⟨⟨x, u, rfl, hv, by show va_P D vwCl (w' u) t.heap; rw [ht]; exact hP⟩, hS.F ht⟩) hS.2.2 hdg hlocks
theorem endMV {S : Type} {post : S → Prop} {w' : S → va_W} (u : S) (hx : p.tables.exec = Jvm.exec) (hb : c.code = cc) (hr : meth.sig.returnType = none) (hlocks : meth.locks = false) (hA : A = mA wc) (hQ : Q = MQ below (mQv D post w' wc) args s cells slots (mA wc)) (hS : va_S A s.heap H locs) (hP : va_P D vwCl ws H) (hdg : decode cc pc = .ok (.return_, 1)) (hw : ws = w' u) (hv : post u) : W p l e R s m args below meth c H locs cells slots Q (F0 m pc ls []) := by
  subst hA; subst hQ; subst hw
  exact W.vret hx hb hr (fun t ht hW => ⟨⟨u, rfl, hv, by show va_P D vwCl (w' u) t.heap; rw [ht]; exact hP⟩, hS.F ht⟩) hS.2.2 hdg hlocks
/-- the top of the stack by another name -/
theorem r_top {x x' : Int32} (h : x = x') (k : W p l e R s m args below meth c H locs cells slots Q (F0 m pc ls (.int x' :: rest))) : W p l e R s m args below meth c H locs cells slots Q (F0 m pc ls (.int x :: rest)) := h ▸ k
theorem r_topl {x x' : Int64} (h : x = x') (k : W p l e R s m args below meth c H locs cells slots Q (F0 m pc ls (.long x' :: rest))) : W p l e R s m args below meth c H locs cells slots Q (F0 m pc ls (.long x :: rest)) := h ▸ k
/-- the cells by another name -/
theorem r_ws {ws' : va_W} (hP : va_P D vwCl ws H) (h : ws = ws') : va_P D vwCl ws' H := h ▸ hP
theorem r_in {k n : Nat} (hk : k < n) (h : k < 2 ^ 31) : vp_in (nI k) n := by
  intro q
  rcases q with q | q
  · exact nI_pos h q
  · rw [nI_clamp h] at q
    omega
theorem r_iald (hx : p.tables.exec = Jvm.exec) (hb : c.code = cc) (hK : va_K D vwCl (aT cI cJ) s) (hP : va_P D vwCl ws H) (q0 : Nat) {n : Nat} {f : Nat → Int32} (ha : ws[q0]? = some (a, .inl (cI, n, .inl f))) (k : Nat) {i : Int32} (hi : i = nI k) (hk : k < n) (h : k < 2 ^ 31) (hdg : decode cc pc = .ok (.iaload, 1))
    (kk : W p l e R s m args below meth c H locs cells slots Q (F0 m (pc + 1) ls (.int (f k) :: rest))) : W p l e R s m args below meth c H locs cells slots Q (F0 m pc ls (.int i :: .ref a :: rest)) := by
  subst hi
  refine va_iald hx hb hK hP q0 0 ha rfl (r_in hk h) hdg ?_
  rw [nI_clamp h]
  exact kk
theorem r_lald (hx : p.tables.exec = Jvm.exec) (hb : c.code = cc) (hK : va_K D vwCl (aT cI cJ) s) (hP : va_P D vwCl ws H) (q0 : Nat) {n : Nat} {f : Nat → Int64} (ha : ws[q0]? = some (a, .inl (cJ, n, .inr (.inl f)))) (k : Nat) {i : Int32} (hi : i = nI k) (hk : k < n) (h : k < 2 ^ 31) (hdg : decode cc pc = .ok (.laload, 1))
    (kk : W p l e R s m args below meth c H locs cells slots Q (F0 m (pc + 1) ls (.long (f k) :: rest))) : W p l e R s m args below meth c H locs cells slots Q (F0 m pc ls (.int i :: .ref a :: rest)) := by
  subst hi
  refine va_lald hx hb hK hP q0 1 ha rfl (r_in hk h) hdg ?_
  rw [nI_clamp h]
  exact kk
theorem r_iast (hx : p.tables.exec = Jvm.exec) (hb : c.code = cc) (hK : va_K D vwCl (aT cI cJ) s) (hP : va_P D vwCl ws H) (hD : va_D A ws) (hS : va_S A H0 H locs) (q0 : Nat) {n : Nat} {f : Nat → Int32} (ha : ws[q0]? = some (a, .inl (cI, n, .inl f))) (k : Nat) {i x : Int32} (hi : i = nI k) (hk : k < n) (h : k < 2 ^ 31) (hdg : decode cc pc = .ok (.iastore, 1))
    (kk : ∀ (H1 : Heap) (locs1 : List Loc), va_P D vwCl (ws.set q0 (a, .inl (cI, n, .inl (upd f k x)))) H1 → va_D A (ws.set q0 (a, .inl (cI, n, .inl (upd f k x)))) → va_S A H0 H1 locs1 → W p l e R s m args below meth c H1 locs1 cells slots Q (F0 m (pc + 1) ls rest)) : W p l e R s m args below meth c H locs cells slots Q (F0 m pc ls (.int x :: .int i :: .ref a :: rest)) := by
  subst hi
  refine va_iast hx hb hK hP hD hS q0 0 ha rfl (r_in hk h) hdg ?_
  rw [nI_clamp h]
  exact kk
theorem r_last (hx : p.tables.exec = Jvm.exec) (hb : c.code = cc) (hK : va_K D vwCl (aT cI cJ) s) (hP : va_P D vwCl ws H) (hD : va_D A ws) (hS : va_S A H0 H locs) (q0 : Nat) {n : Nat} {f : Nat → Int64} (ha : ws[q0]? = some (a, .inl (cJ, n, .inr (.inl f)))) (k : Nat) {i : Int32} {x : Int64} (hi : i = nI k) (hk : k < n) (h : k < 2 ^ 31) (hdg : decode cc pc = .ok (.lastore, 1))
    (kk : ∀ (H1 : Heap) (locs1 : List Loc), va_P D vwCl (ws.set q0 (a, .inl (cJ, n, .inr (.inl (vp_updL f k x))))) H1 → va_D A (ws.set q0 (a, .inl (cJ, n, .inr (.inl (vp_updL f k x))))) → va_S A H0 H1 locs1 → W p l e R s m args below meth c H1 locs1 cells slots Q (F0 m (pc + 1) ls rest)) : W p l e R s m args below meth c H locs cells slots Q (F0 m pc ls (.long x :: .int i :: .ref a :: rest)) := by
  subst hi
  refine va_last hx hb hK hP hD hS q0 1 ha rfl (r_in hk h) hdg ?_
  rw [nI_clamp h]
  exact kk
theorem r_iinc (hx : p.tables.exec = Jvm.exec) (hb : c.code = cc) {i nL : Nat} (j k : Nat) {lv lv' : List (Nat × Value)} (hdg : decode cc pc = .ok (.iinc i 1, 3)) (h : lv_has ls nL lv) (hk : lv[j]? = some (i, .int (nI k))) (hn : i < nL) (hl : (i, Value.int (nI (k + 1))) :: lv.filter (fun q => !(q.1 == i) && !(q.1 + 1 == i && q.2.category == 2)) = lv')
    (kk : ∀ ls' : Array Slot, lv_has ls' nL lv' → W p l e R s m args below meth c H locs cells slots Q (F0 m (pc + 3) ls' rest)) : W p l e R s m args below meth c H locs cells slots Q (F0 m pc ls rest) :=
  lv_iinc hx hb hdg h hk (by rw [← nI_1]; rfl) hn hl kk
theorem r_icmp_ge (hx : p.tables.exec = Jvm.exec) (hb : c.code = cc) (a b : Nat) {x y : Int32} {off : Int} {tgt : Nat} (hdg : decode cc pc = .ok (.if_icmp .ge off, 3)) (ht : (pc : Int) + off = (tgt : Int)) (ea : x = nI a) (eb : y = nI b) (ha : a < 2 ^ 31) (hb2 : b < 2 ^ 31)
    (kt : b ≤ a → W p l e R s m args below meth c H locs cells slots Q (F0 m tgt ls rest)) (kf : a < b → W p l e R s m args below meth c H locs cells slots Q (F0 m (pc + 3) ls rest)) : W p l e R s m args below meth c H locs cells slots Q (F0 m pc ls (.int y :: .int x :: rest)) := by
  subst ea; subst eb
  exact lv_icmp_ge hx hb hdg ht (fun h => kt ((nI_leI hb2 ha).mp h)) (fun h => kf (Nat.lt_of_not_le fun q => h ((nI_leI hb2 ha).mpr q)))
theorem r_icmp_gt (hx : p.tables.exec = Jvm.exec) (hb : c.code = cc) (a b : Nat) {x y : Int32} {off : Int} {tgt : Nat} (hdg : decode cc pc = .ok (.if_icmp .gt off, 3)) (ht : (pc : Int) + off = (tgt : Int)) (ea : x = nI a) (eb : y = nI b) (ha : a < 2 ^ 31) (hb2 : b < 2 ^ 31)
    (kt : b < a → W p l e R s m args below meth c H locs cells slots Q (F0 m tgt ls rest)) (kf : a ≤ b → W p l e R s m args below meth c H locs cells slots Q (F0 m (pc + 3) ls rest)) : W p l e R s m args below meth c H locs cells slots Q (F0 m pc ls (.int y :: .int x :: rest)) := by
  subst ea; subst eb
  exact lv_icmp_gt hx hb hdg ht (fun h => kt ((nI_ltI hb2 ha).mp h)) (fun h => kf (Nat.le_of_not_lt fun q => h ((nI_ltI hb2 ha).mpr q)))
theorem r_icmp_lt (hx : p.tables.exec = Jvm.exec) (hb : c.code = cc) (a b : Nat) {x y : Int32} {off : Int} {tgt : Nat} (hdg : decode cc pc = .ok (.if_icmp .lt off, 3)) (ht : (pc : Int) + off = (tgt : Int)) (ea : x = nI a) (eb : y = nI b) (ha : a < 2 ^ 31) (hb2 : b < 2 ^ 31)
    (kt : a < b → W p l e R s m args below meth c H locs cells slots Q (F0 m tgt ls rest)) (kf : b ≤ a → W p l e R s m args below meth c H locs cells slots Q (F0 m (pc + 3) ls rest)) : W p l e R s m args below meth c H locs cells slots Q (F0 m pc ls (.int y :: .int x :: rest)) := by
  subst ea; subst eb
  exact lv_icmp_lt hx hb hdg ht (fun h => kt ((nI_ltI ha hb2).mp h)) (fun h => kf (Nat.le_of_not_lt fun q => h ((nI_ltI ha hb2).mpr q)))
theorem r_icmp_le (hx : p.tables.exec = Jvm.exec) (hb : c.code = cc) (a b : Nat) {x y : Int32} {off : Int} {tgt : Nat} (hdg : decode cc pc = .ok (.if_icmp .le off, 3)) (ht : (pc : Int) + off = (tgt : Int)) (ea : x = nI a) (eb : y = nI b) (ha : a < 2 ^ 31) (hb2 : b < 2 ^ 31)
    (kt : a ≤ b → W p l e R s m args below meth c H locs cells slots Q (F0 m tgt ls rest)) (kf : b < a → W p l e R s m args below meth c H locs cells slots Q (F0 m (pc + 3) ls rest)) : W p l e R s m args below meth c H locs cells slots Q (F0 m pc ls (.int y :: .int x :: rest)) := by
  subst ea; subst eb
  exact lv_icmp_le hx hb hdg ht (fun h => kt ((nI_leI ha hb2).mp h)) (fun h => kf (Nat.lt_of_not_le fun q => h ((nI_leI ha hb2).mpr q)))
theorem r_icmp_eq (hx : p.tables.exec = Jvm.exec) (hb : c.code = cc) (a b : Nat) {x y : Int32} {off : Int} {tgt : Nat} (hdg : decode cc pc = .ok (.if_icmp .eq off, 3)) (ht : (pc : Int) + off = (tgt : Int)) (ea : x = nI a) (eb : y = nI b) (ha : a < 2 ^ 31) (hb2 : b < 2 ^ 31)
    (kt : a = b → W p l e R s m args below meth c H locs cells slots Q (F0 m tgt ls rest)) (kf : a ≠ b → W p l e R s m args below meth c H locs cells slots Q (F0 m (pc + 3) ls rest)) : W p l e R s m args below meth c H locs cells slots Q (F0 m pc ls (.int y :: .int x :: rest)) := by
  subst ea; subst eb
  exact lv_icmp_eq hx hb hdg ht (fun h => kt ((nI_eq ha hb2).mp h)) (fun h => kf (fun q => h ((nI_eq ha hb2).mpr q)))
theorem r_icmp_ne (hx : p.tables.exec = Jvm.exec) (hb : c.code = cc) (a b : Nat) {x y : Int32} {off : Int} {tgt : Nat} (hdg : decode cc pc = .ok (.if_icmp .ne off, 3)) (ht : (pc : Int) + off = (tgt : Int)) (ea : x = nI a) (eb : y = nI b) (ha : a < 2 ^ 31) (hb2 : b < 2 ^ 31)
    (kt : a ≠ b → W p l e R s m args below meth c H locs cells slots Q (F0 m tgt ls rest)) (kf : a = b → W p l e R s m args below meth c H locs cells slots Q (F0 m (pc + 3) ls rest)) : W p l e R s m args below meth c H locs cells slots Q (F0 m pc ls (.int y :: .int x :: rest)) := by
  subst ea; subst eb
  exact lv_icmp_ne hx hb hdg ht (fun h => kt (fun q => h ((nI_eq ha hb2).mpr q))) (fun h => kf ((nI_eq ha hb2).mp h))
theorem r_zeq {P : Prop} [Decidable P] (hx : p.tables.exec = Jvm.exec) (hb : c.code = cc) {off : Int} {tgt : Nat} (hdg : decode cc pc = .ok (.ifCond .eq off, 3)) (ht : (pc : Int) + off = (tgt : Int))
    (kt : ¬ P → W p l e R s m args below meth c H locs cells slots Q (F0 m tgt ls rest)) (kf : P → W p l e R s m args below meth c H locs cells slots Q (F0 m (pc + 3) ls rest)) : W p l e R s m args below meth c H locs cells slots Q (F0 m pc ls (.int (zb P) :: rest)) :=
  lv_if_eq hx hb hdg ht (fun h => kt (fun q => by rw [zb_1 q] at h; exact absurd h (by decide))) (fun h => kf (Decidable.byContradiction fun q => h (zb_0 q)))
theorem r_zne {P : Prop} [Decidable P] (hx : p.tables.exec = Jvm.exec) (hb : c.code = cc) {off : Int} {tgt : Nat} (hdg : decode cc pc = .ok (.ifCond .ne off, 3)) (ht : (pc : Int) + off = (tgt : Int))
    (kt : P → W p l e R s m args below meth c H locs cells slots Q (F0 m tgt ls rest)) (kf : ¬ P → W p l e R s m args below meth c H locs cells slots Q (F0 m (pc + 3) ls rest)) : W p l e R s m args below meth c H locs cells slots Q (F0 m pc ls (.int (zb P) :: rest)) :=
  lv_if_ne hx hb hdg ht (fun h => kt (Decidable.byContradiction fun q => h (zb_0 q))) (fun h => kf (fun q => by rw [zb_1 q] at h; exact absurd h (by decide)))
/-- a call behind its run: of a method that only reads -/
theorem goRI {st0 : List Value} {av : Array Value} {A0 : Nat → Prop} {v : Int32} (hP : va_P D vwCl ws H) (hS : va_S A0 H0 H locs) (hr : va_Run p l e R s m args below meth c H locs cells slots 0 0 (F0 m pc ls st0) rest (qRI v av) nA)
    (kk : ∀ (H1 : Heap) (locs1 : List Loc), va_P D vwCl ws H1 → va_S A0 H0 H1 locs1 → W p l e R s m args below meth c H1 locs1 cells slots Q (F0 m (pc + 3) ls (.int v :: rest))) : W p l e R s m args below meth c H locs cells slots Q (F0 m pc ls st0) := by
  refine va_calli (A0 := A0) (H0 := H0) hr hS (fun q _ h => h.elim) (fun q h => h.elim) (fun r u t H1 locs1 ht hvm hp hB hz hk hS1 => ?_)
  subst hp
  exact kk H1 locs1 (hP.kept fun k q hkq => hk q.1 (hP k q hkq).lt (fun h => h)) hS1
theorem goRL {st0 : List Value} {av : Array Value} {A0 : Nat → Prop} {v : Int64} (hP : va_P D vwCl ws H) (hS : va_S A0 H0 H locs) (hr : va_Run p l e R s m args below meth c H locs cells slots 0 0 (F0 m pc ls st0) rest (qRL v av) nA)
    (kk : ∀ (H1 : Heap) (locs1 : List Loc), va_P D vwCl ws H1 → va_S A0 H0 H1 locs1 → W p l e R s m args below meth c H1 locs1 cells slots Q (F0 m (pc + 3) ls (.long v :: rest))) : W p l e R s m args below meth c H locs cells slots Q (F0 m pc ls st0) := by
  refine va_calll (A0 := A0) (H0 := H0) hr hS (fun q _ h => h.elim) (fun q h => h.elim) (fun r u t H1 locs1 ht hvm hp hB hz hk hS1 => ?_)
  subst hp
  exact kk H1 locs1 (hP.kept fun k q hkq => hk q.1 (hP k q hkq).lt (fun h => h)) hS1
theorem goMI {S : Type} {post : Int32 → S → Prop} {w' : S → va_W} {st0 : List Value} {av : Array Value} {A0 : Nat → Prop} (hP : va_P D vwCl ws H) (hD : va_D A0 ws) (hS : va_S A0 H0 H locs) (is : List Nat) (hC : is.map (fun i => ws[i]?) = wc.map some) (hn : va_nd is = true) (he : ∀ u, (w' u).map (fun q => q.1) = wc.map (fun q => q.1)) (hr : va_Run p l e R s m args below meth c H locs cells slots 0 0 (F0 m pc ls st0) rest (mQi D post w' wc av) (mA wc))
    (kk : ∀ (r : Int32) (u : S) (H1 : Heap) (locs1 : List Loc), post r u → va_P D vwCl (va_lay ws is (w' u)) H1 → va_D A0 (va_lay ws is (w' u)) → va_S A0 H0 H1 locs1 → W p l e R s m args below meth c H1 locs1 cells slots Q (F0 m (pc + 3) ls (.int r :: rest))) : W p l e R s m args below meth c H locs cells slots Q (F0 m pc ls st0) := by
  refine va_calli (A0 := A0) (H0 := H0) hr hS (fun q _ h => mA_free hD is hC q h) (fun q h => mA_free hD is hC q h) (fun r u t H1 locs1 ht hvm hp hB hz hk hS1 => ?_)
  have hB : va_P D vwCl (w' u) t.heap := hB
  rw [ht] at hB
  obtain ⟨h1, h2⟩ := va_joinL hP hD is hC hn hk hB (he u)
  exact kk r u H1 locs1 hp h1 h2 hS1
theorem goML {S : Type} {post : Int64 → S → Prop} {w' : S → va_W} {st0 : List Value} {av : Array Value} {A0 : Nat → Prop} (hP : va_P D vwCl ws H) (hD : va_D A0 ws) (hS : va_S A0 H0 H locs) (is : List Nat) (hC : is.map (fun i => ws[i]?) = wc.map some) (hn : va_nd is = true) (he : ∀ u, (w' u).map (fun q => q.1) = wc.map (fun q => q.1)) (hr : va_Run p l e R s m args below meth c H locs cells slots 0 0 (F0 m pc ls st0) rest (mQl D post w' wc av) (mA wc))
    (kk : ∀ (r : Int64) (u : S) (H1 : Heap) (locs1 : List Loc), post r u → va_P D vwCl (va_lay ws is (w' u)) H1 → va_D A0 (va_lay ws is (w' u)) → va_S A0 H0 H1 locs1 → W p l e R s m args below meth c H1 locs1 cells slots Q (F0 m (pc + 3) ls (.long r :: rest))) : W p l e R s m args below meth c H locs cells slots Q (F0 m pc ls st0) := by
  refine va_calll (A0 := A0) (H0 := H0) hr hS (fun q _ h => mA_free hD is hC q h) (fun q h => mA_free hD is hC q h) (fun r u t H1 locs1 ht hvm hp hB hz hk hS1 => ?_)
  have hB : va_P D vwCl (w' u) t.heap := hB
  rw [ht] at hB
  obtain ⟨h1, h2⟩ := va_joinL hP hD is hC hn hk hB (he u)
  exact kk r u H1 locs1 hp h1 h2 hS1
theorem goMV {S : Type} {post : S → Prop} {w' : S → va_W} {st0 : List Value} {av : Array Value} {A0 : Nat → Prop} (hP : va_P D vwCl ws H) (hD : va_D A0 ws) (hS : va_S A0 H0 H locs) (is : List Nat) (hC : is.map (fun i => ws[i]?) = wc.map some) (hn : va_nd is = true) (he : ∀ u, (w' u).map (fun q => q.1) = wc.map (fun q => q.1)) (hr : va_Run p l e R s m args below meth c H locs cells slots 0 0 (F0 m pc ls st0) rest (mQv D post w' wc av) (mA wc))
    (kk : ∀ (u : S) (H1 : Heap) (locs1 : List Loc), post u → va_P D vwCl (va_lay ws is (w' u)) H1 → va_D A0 (va_lay ws is (w' u)) → va_S A0 H0 H1 locs1 → W p l e R s m args below meth c H1 locs1 cells slots Q (F0 m (pc + 3) ls rest)) : W p l e R s m args below meth c H locs cells slots Q (F0 m pc ls st0) := by
  refine va_callv (A0 := A0) (H0 := H0) hr hS (fun q _ h => mA_free hD is hC q h) (fun q h => mA_free hD is hC q h) (fun u t H1 locs1 ht hvm hp hB hz hk hS1 => ?_)
  have hB : va_P D vwCl (w' u) t.heap := hB
  rw [ht] at hB
  obtain ⟨h1, h2⟩ := va_joinL hP hD is hC hn hk hB (he u)
  exact kk u H1 locs1 hp h1 h2 hS1
/-- what is asked at a call -/
theorem preR {As : List Value} (hK : va_K D vwCl (aT cI cJ) s) (hN : NW s) (hP : va_P D vwCl ws H) (is : List Nat) (hC : is.map (fun i => ws[i]?) = wc.map some) : PreS s H (rPre D cI cJ As wc) As :=
  ⟨rPre_blind, fun U hU hW => ⟨rfl, by rw [hU]; exact va_subM hP is hC, KK.warm hW ⟨hK, hN⟩⟩⟩
theorem preM {As : List Value} (hK : va_K D vwCl (aT cI cJ) s) (hN : NW s) (hP : va_P D vwCl ws H) (hD : va_D A ws) (is : List Nat) (hC : is.map (fun i => ws[i]?) = wc.map some) (hn : va_nd is = true) : PreS s H (mPre D cI cJ As wc) As :=
  ⟨mPre_blind, fun U hU hW => ⟨rfl, by rw [hU]; exact va_subM hP is hC, KK.warm hW ⟨hK, hN⟩, (hD.sub is hn hC).weaken (fun _ _ _ _ => trivial)⟩⟩
theorem preRV {b : Addr} {C : String} {As : List Value} {ci : Nat} {q : vw_C} {fs : List Value} (hK : va_K D vwCl (aT cI cJ) s) (hN : NW s) (hP : va_P D vwCl ws H) (q0 : Nat) (hc : vwCl[ci]? = some q) (hq : q.1 = C) (he : ws[q0]? = some (b, .inr (ci, fs))) (is : List Nat) (hC : is.map (fun i => ws[i]?) = wc.map some) : PreV s H C b (rPre D cI cJ (.ref b :: As) wc) As :=
  ⟨rPre_blind, by rw [← hq]; exact va_recv hK hP hc he, (preR (As := .ref b :: As) hK hN hP is hC).2⟩
theorem preMV {b : Addr} {C : String} {As : List Value} {ci : Nat} {q : vw_C} {fs : List Value} (hK : va_K D vwCl (aT cI cJ) s) (hN : NW s) (hP : va_P D vwCl ws H) (hD : va_D A ws) (q0 : Nat) (hc : vwCl[ci]? = some q) (hq : q.1 = C) (he : ws[q0]? = some (b, .inr (ci, fs))) (is : List Nat) (hC : is.map (fun i => ws[i]?) = wc.map some) (hn : va_nd is = true) : PreV s H C b (mPre D cI cJ (.ref b :: As) wc) As :=
  ⟨mPre_blind, by rw [← hq]; exact va_recv hK hP hc he, (preM (As := .ref b :: As) hK hN hP hD is hC hn).2⟩
end RW
end
section
/-! what the class computes, as functions on ints -/
abbrev Row := Nat → Int32
def bt (x k : Int32) : Int32 := (x >>> (k &&& 31)) &&& 1
def allI (n : Int32) : Int32 := (1 : Int32) <<< (n &&& 31) - 1
def sumI (row : Row) (set : Int32) : Nat → Int32
  | 0 => 0
  | k + 1 => sumI row set k + row k * bt set (nI k)
def thrA (ne : Row) (bu : Int32) : Nat → Int32
  | 0 => 0
  | k + 1 => if ¬ bt bu (nI k) = 0 then thrA ne bu k ||| ne k else thrA ne bu k
def thr (ne : Row) (bu gu : Int32) : Int32 := thrA ne bu 10 &&& (bu ^^^ (-1)) &&& (gu ^^^ (-1))
def freeI (n bu gu : Int32) : Int32 := allI n &&& (bu ^^^ (-1)) &&& (gu ^^^ (-1))
def savedI (n : Int32) (wo : Row) (bu : Int32) : Int32 := sumI wo (allI n &&& (bu ^^^ (-1))) 10
def popI (x : Int32) : Int32 :=
  let a := x - ((x.toUInt32 >>> ((1 : Int32).toUInt32 &&& Int32.toUInt32 31)).toInt32 &&& 1431655765)
  let b := (a &&& 858993459) + ((a.toUInt32 >>> ((2 : Int32).toUInt32 &&& Int32.toUInt32 31)).toInt32 &&& 858993459)
  let c := (b + (b.toUInt32 >>> ((4 : Int32).toUInt32 &&& Int32.toUInt32 31)).toInt32) &&& 252645135
  let d := c + (c.toUInt32 >>> ((8 : Int32).toUInt32 &&& Int32.toUInt32 31)).toInt32
  let e := d + (d.toUInt32 >>> ((16 : Int32).toUInt32 &&& Int32.toUInt32 31)).toInt32
  e &&& 63
def rankI (wo ne : Row) (rule taken : Int32) (k : Nat) : Int32 := if rule = 1 then wo k else if rule = 2 then popI (ne k &&& (taken ^^^ (-1))) else 0
def pickS (wo ne pr : Row) (rule bu gu th money : Int32) (k : Nat) (q : Int32 × Int32) : Int32 × Int32 :=
  if ¬ bt th (nI k) = 0 ∧ pr k ≤ money ∧ q.2 < rankI wo ne rule (bu ||| gu) k then (nI k, rankI wo ne rule (bu ||| gu) k) else q
def pickA (wo ne pr : Row) (rule bu gu th money : Int32) : Nat → Int32 × Int32
  | 0 => (-1, -1)
  | k + 1 => pickS wo ne pr rule bu gu th money k (pickA wo ne pr rule bu gu th money k)
def pickI (wo ne pr : Row) (rule bu gu money : Int32) : Int32 := (pickA wo ne pr rule bu gu (thr ne bu gu) money 10).1
theorem i_lt {a b : Int32} (h : ¬ a < b) : b ≤ a := Int32.not_lt.mp h
theorem i_le {a b : Int32} (h : ¬ a ≤ b) : b < a := Int32.not_le.mp h
theorem i_nlt {a b : Int32} (h : b ≤ a) : ¬ a < b := Int32.not_lt.mpr h
theorem i_nle {a b : Int32} (h : b < a) : ¬ a ≤ b := Int32.not_le.mpr h
/-- an int within, by its number -/
theorem i_ix {x : Int32} {n : Nat} (h0 : 0 ≤ x) (h1 : x < nI n) (hn : n < 2 ^ 31) : ∃ k : Nat, k < n ∧ x = nI k := by
  obtain ⟨j, hj, rfl⟩ := nI_of (i_nlt h0)
  exact ⟨j, (nI_ltI hj hn).mp h1, rfl⟩
theorem i_ixe {x : Int32} {n : Nat} (h0 : 0 ≤ x) (h1 : x ≤ nI n) (hn : n < 2 ^ 31) : ∃ k : Nat, k ≤ n ∧ x = nI k := by
  obtain ⟨j, hj, rfl⟩ := nI_of (i_nlt h0)
  exact ⟨j, (nI_leI hj hn).mp h1, rfl⟩
theorem i_pred {n : Nat} (h : 1 ≤ n) : nI n - 1 = nI (n - 1) := pk_sub h
theorem i_has {a n : Nat} (h : a < n) (hn : n ≤ 10) : 0 ≤ nI a ∧ nI a ≤ nI n - 1 := by
  rw [i_pred (by omega)]
  exact ⟨nI_pos' (by omega), (nI_leI (by omega) (by omega)).mpr (by omega)⟩
theorem i_hasE {x : Int32} {n : Nat} (hn : n ≤ 10) (h1 : 1 ≤ n) (h : 0 ≤ x ∧ x ≤ nI n - 1) : ∃ k : Nat, k < n ∧ x = nI k := by
  rw [i_pred h1] at h
  obtain ⟨k, hk, rfl⟩ := i_ixe h.1 h.2 (by omega)
  exact ⟨k, by omega, rfl⟩
end
section
def rmX6_within : Room := { frames := 0, cells := 0, slots := 0, locals := 0 }
theorem kdX6_within : yX6_within.cls = RX6 ∧ yX6_within.cls ≠ "java/lang/invoke/MethodHandle" ∧ yX6_within.cls ≠ "java/lang/invoke/VarHandle" ∧ (parseMethodDescriptor yX6_within.desc).map (fun d => d.parameters.length) = some 3 := ⟨rfl, by decide +kernel, by decide +kernel, by decide +kernel⟩
set_option maxRecDepth 100000 in
set_option maxHeartbeats 8000000 in
theorem kX6_within (l : Launch) (D : va_G) (cI cJ : ClassId) (v a b : Int32)  : Met l yX6_within wsX6_within rmX6_within (rPre D cI cJ [.int v, .int a, .int b] []) (qRI (zb (a ≤ v ∧ v ≤ b))) 0 0 nA := by
  refine startR (cc := cX6_within) (maxL := 3) (ret := (some .boolean)) (by decide) rfl (Nat.le_of_ble_eq_true rfl) ?_
  intro p e s m args below meth c ls Q hQ hx hb hr hlocks hml hown hts hK hN hP hl hin
  have hown : s.vm.findClass RX6 = some m.cls := hown
  have hS : va_S nA s.heap s.heap [] := va_S.rf
  have hl : lv_has ls 3 [(0, .int v), (1, .int a), (2, .int b)] := hl
  have hP : va_P D vwCl [] s.heap := hP
  refine lv_iload_n hx hb dX6_within_0 rfl (lv_at hl 0 rfl) ?_
  refine lv_iload_n hx hb dX6_within_1 rfl (lv_at hl 1 rfl) ?_
  refine lv_icmp_lt (tgt := 14) hx hb dX6_within_2 (by decide) (fun c_2 => ?_) (fun c_2 => ?_)
  · refine lv_iconst (v := 0) hx hb dX6_within_14 (by decide) ?_
    exact endRZ hx hb hr hlocks hQ hS dX6_within_15 rfl (zb_f (fun h => i_nlt h.1 c_2))
  · refine lv_iload_n hx hb dX6_within_5 rfl (lv_at hl 0 rfl) ?_
    refine lv_iload_n hx hb dX6_within_6 rfl (lv_at hl 2 rfl) ?_
    refine lv_icmp_gt (tgt := 14) hx hb dX6_within_7 (by decide) (fun c_7 => ?_) (fun c_7 => ?_)
    · refine lv_iconst (v := 0) hx hb dX6_within_14 (by decide) ?_
      exact endRZ hx hb hr hlocks hQ hS dX6_within_15 rfl (zb_f (fun h => i_nle c_7 h.2))
    · refine lv_iconst (v := 1) hx hb dX6_within_10 (by decide) ?_
      refine lv_goto (tgt := 15) hx hb dX6_within_11 (by decide) ?_
      exact endRZ hx hb hr hlocks hQ hS dX6_within_15 rfl (zb_t ⟨i_lt c_2, i_lt c_7⟩)
def rmX6_holds : Room := { frames := 0, cells := 0, slots := 0, locals := 0 }
theorem kdX6_holds : yX6_holds.cls = RX6 ∧ yX6_holds.cls ≠ "java/lang/invoke/MethodHandle" ∧ yX6_holds.cls ≠ "java/lang/invoke/VarHandle" ∧ (parseMethodDescriptor yX6_holds.desc).map (fun d => d.parameters.length) = some 2 := ⟨rfl, by decide +kernel, by decide +kernel, by decide +kernel⟩
set_option maxRecDepth 100000 in
set_option maxHeartbeats 8000000 in
theorem kX6_holds (l : Launch) (D : va_G) (cI cJ : ClassId) (v a : Int32)  : Met l yX6_holds wsX6_holds rmX6_holds (rPre D cI cJ [.int v, .int a] []) (qRI (zb (¬ bt v a = 0))) 0 0 nA := by
  refine startR (cc := cX6_holds) (maxL := 2) (ret := (some .boolean)) (by decide) rfl (Nat.le_of_ble_eq_true rfl) ?_
  intro p e s m args below meth c ls Q hQ hx hb hr hlocks hml hown hts hK hN hP hl hin
  have hown : s.vm.findClass RX6 = some m.cls := hown
  have hS : va_S nA s.heap s.heap [] := va_S.rf
  have hl : lv_has ls 2 [(0, .int v), (1, .int a)] := hl
  have hP : va_P D vwCl [] s.heap := hP
  refine lv_iload_n hx hb dX6_holds_0 rfl (lv_at hl 0 rfl) ?_
  refine lv_iload_n hx hb dX6_holds_1 rfl (lv_at hl 1 rfl) ?_
  refine lv_ishr hx hb dX6_holds_2 ?_
  refine lv_iconst (v := 1) hx hb dX6_holds_3 (by decide) ?_
  refine lv_iand hx hb dX6_holds_4 ?_
  refine lv_if_eq (tgt := 12) hx hb dX6_holds_5 (by decide) (fun c_5 => ?_) (fun c_5 => ?_)
  · refine lv_iconst (v := 0) hx hb dX6_holds_12 (by decide) ?_
    exact endRZ hx hb hr hlocks hQ hS dX6_holds_13 rfl (zb_f (fun h => h c_5))
  · refine lv_iconst (v := 1) hx hb dX6_holds_8 (by decide) ?_
    refine lv_goto (tgt := 13) hx hb dX6_holds_9 (by decide) ?_
    exact endRZ hx hb hr hlocks hQ hS dX6_holds_13 rfl (zb_t (P := ¬ bt v a = 0) c_5)
def rmX6_isRule : Room := { frames := 1, cells := 0, slots := 0, locals := 22 }
theorem kdX6_isRule : yX6_isRule.cls = RX6 ∧ yX6_isRule.cls ≠ "java/lang/invoke/MethodHandle" ∧ yX6_isRule.cls ≠ "java/lang/invoke/VarHandle" ∧ (parseMethodDescriptor yX6_isRule.desc).map (fun d => d.parameters.length) = some 1 := ⟨rfl, by decide +kernel, by decide +kernel, by decide +kernel⟩
set_option maxRecDepth 100000 in
set_option maxHeartbeats 8000000 in
theorem kX6_isRule (l : Launch) (D : va_G) (cI cJ : ClassId) (v : Int32)  : Met l yX6_isRule wsX6_isRule rmX6_isRule (rPre D cI cJ [.int v] []) (qRI (zb (0 ≤ v ∧ v ≤ 2))) 0 0 nA := by
  refine startR (cc := cX6_isRule) (maxL := 1) (ret := (some .boolean)) (by decide) rfl (Nat.le_of_ble_eq_true rfl) ?_
  intro p e s m args below meth c ls Q hQ hx hb hr hlocks hml hown hts hK hN hP hl hin
  have hown : s.vm.findClass RX6 = some m.cls := hown
  have hS : va_S nA s.heap s.heap [] := va_S.rf
  have hl : lv_has ls 1 [(0, .int v)] := hl
  have hP : va_P D vwCl [] s.heap := hP
  refine lv_iload_n hx hb dX6_isRule_0 rfl (lv_at hl 0 rfl) ?_
  refine lv_iconst (v := 0) hx hb dX6_isRule_1 (by decide) ?_
  refine lv_iconst (v := 2) hx hb dX6_isRule_2 (by decide) ?_
  refine goRI hP hS (va_runS (As := [.int v, .int 0, .int 2]) (rest := []) ⟨hx, hb, hml, hown, hts⟩ (kX6_within l D cI cJ v 0 2) (va_cwS 3 hts gX6_isRule_X6_within rfl rfl rfl kdX6_within.2 ⟨Nat.le_of_ble_eq_true rfl, Nat.le_of_ble_eq_true rfl⟩) (preR hK hN hP [] rfl) rfl rfl hl.1 rfl (lv_room (Nat.le_of_ble_eq_true rfl)) dX6_isRule_3 ⟨Nat.zero_le _, Nat.zero_le _⟩) (fun H locs hP hS => ?_)
  exact endRZ hx hb hr hlocks hQ hS dX6_isRule_6 zb_nar rfl
def rmJ6_bitCount_0f7a4 : Room := { frames := 0, cells := 0, slots := 0, locals := 0 }
theorem kdJ6_bitCount_0f7a4 : yJ6_bitCount_0f7a4.cls = RJ6 ∧ yJ6_bitCount_0f7a4.cls ≠ "java/lang/invoke/MethodHandle" ∧ yJ6_bitCount_0f7a4.cls ≠ "java/lang/invoke/VarHandle" ∧ (parseMethodDescriptor yJ6_bitCount_0f7a4.desc).map (fun d => d.parameters.length) = some 1 := ⟨rfl, by decide +kernel, by decide +kernel, by decide +kernel⟩
set_option maxRecDepth 100000 in
set_option maxHeartbeats 8000000 in
theorem kJ6_bitCount_0f7a4 (l : Launch) (D : va_G) (cI cJ : ClassId) (v : Int32)  : Met l yJ6_bitCount_0f7a4 wsJ6_bitCount_0f7a4 rmJ6_bitCount_0f7a4 (rPre D cI cJ [.int v] []) (qRI (popI v)) 0 0 nA := by
  refine startR (cc := cJ6_bitCount_0f7a4) (maxL := 1) (ret := (some .int)) (by decide) rfl (Nat.le_of_ble_eq_true rfl) ?_
  intro p e s m args below meth c ls Q hQ hx hb hr hlocks hml hown hts hK hN hP hl hin
  have hown : s.vm.findClass RJ6 = some m.cls := hown
  have hc_265 := hts (.constant RJ6 265 (1431655765)) (by decide +kernel)
  have hc_266 := hts (.constant RJ6 266 (858993459)) (by decide +kernel)
  have hc_267 := hts (.constant RJ6 267 (252645135)) (by decide +kernel)
  have hS : va_S nA s.heap s.heap [] := va_S.rf
  have hl : lv_has ls 1 [(0, .int v)] := hl
  have hP : va_P D vwCl [] s.heap := hP
  refine lv_iload_n hx hb dJ6_bitCount_0f7a4_0 rfl (lv_at hl 0 rfl) ?_
  refine lv_iload_n hx hb dJ6_bitCount_0f7a4_1 rfl (lv_at hl 0 rfl) ?_
  refine lv_iconst (v := 1) hx hb dJ6_bitCount_0f7a4_2 (by decide) ?_
  refine lv_iushr (v := (v.toUInt32 >>> ((1 : Int32).toUInt32 &&& Int32.toUInt32 31)).toInt32) hx hb dJ6_bitCount_0f7a4_3 rfl ?_
  refine lv_ldcw (v := 1431655765) hx hb hown hc_265 dJ6_bitCount_0f7a4_4 ?_
  refine lv_iand hx hb dJ6_bitCount_0f7a4_7 ?_
  refine lv_isub hx hb dJ6_bitCount_0f7a4_8 ?_
  refine lv_istore_n (lv' := [(0, .int (v - (((v.toUInt32 >>> ((1 : Int32).toUInt32 &&& Int32.toUInt32 31)).toInt32) &&& 1431655765)))]) hx hb dJ6_bitCount_0f7a4_9 rfl hl (by decide) rfl (fun ls hl => ?_)
  refine lv_iload_n hx hb dJ6_bitCount_0f7a4_10 rfl (lv_at hl 0 rfl) ?_
  refine lv_ldcw (v := 858993459) hx hb hown hc_266 dJ6_bitCount_0f7a4_11 ?_
  refine lv_iand hx hb dJ6_bitCount_0f7a4_14 ?_
  refine lv_iload_n hx hb dJ6_bitCount_0f7a4_15 rfl (lv_at hl 0 rfl) ?_
  refine lv_iconst (v := 2) hx hb dJ6_bitCount_0f7a4_16 (by decide) ?_
  refine lv_iushr (v := ((v - (((v.toUInt32 >>> ((1 : Int32).toUInt32 &&& Int32.toUInt32 31)).toInt32) &&& 1431655765)).toUInt32 >>> ((2 : Int32).toUInt32 &&& Int32.toUInt32 31)).toInt32) hx hb dJ6_bitCount_0f7a4_17 rfl ?_
  refine lv_ldcw (v := 858993459) hx hb hown hc_266 dJ6_bitCount_0f7a4_18 ?_
  refine lv_iand hx hb dJ6_bitCount_0f7a4_21 ?_
  refine lv_iadd hx hb dJ6_bitCount_0f7a4_22 ?_
  refine lv_istore_n (lv' := [(0, .int (((v - (((v.toUInt32 >>> ((1 : Int32).toUInt32 &&& Int32.toUInt32 31)).toInt32) &&& 1431655765)) &&& 858993459) + ((((v - (((v.toUInt32 >>> ((1 : Int32).toUInt32 &&& Int32.toUInt32 31)).toInt32) &&& 1431655765)).toUInt32 >>> ((2 : Int32).toUInt32 &&& Int32.toUInt32 31)).toInt32) &&& 858993459)))]) hx hb dJ6_bitCount_0f7a4_23 rfl hl (by decide) rfl (fun ls hl => ?_)
  refine lv_iload_n hx hb dJ6_bitCount_0f7a4_24 rfl (lv_at hl 0 rfl) ?_
  refine lv_iload_n hx hb dJ6_bitCount_0f7a4_25 rfl (lv_at hl 0 rfl) ?_
  refine lv_iconst (v := 4) hx hb dJ6_bitCount_0f7a4_26 (by decide) ?_
  refine lv_iushr (v := ((((v - (((v.toUInt32 >>> ((1 : Int32).toUInt32 &&& Int32.toUInt32 31)).toInt32) &&& 1431655765)) &&& 858993459) + ((((v - (((v.toUInt32 >>> ((1 : Int32).toUInt32 &&& Int32.toUInt32 31)).toInt32) &&& 1431655765)).toUInt32 >>> ((2 : Int32).toUInt32 &&& Int32.toUInt32 31)).toInt32) &&& 858993459)).toUInt32 >>> ((4 : Int32).toUInt32 &&& Int32.toUInt32 31)).toInt32) hx hb dJ6_bitCount_0f7a4_27 rfl ?_
  refine lv_iadd hx hb dJ6_bitCount_0f7a4_28 ?_
  refine lv_ldcw (v := 252645135) hx hb hown hc_267 dJ6_bitCount_0f7a4_29 ?_
  refine lv_iand hx hb dJ6_bitCount_0f7a4_32 ?_
  refine lv_istore_n (lv' := [(0, .int (((((v - (((v.toUInt32 >>> ((1 : Int32).toUInt32 &&& Int32.toUInt32 31)).toInt32) &&& 1431655765)) &&& 858993459) + ((((v - (((v.toUInt32 >>> ((1 : Int32).toUInt32 &&& Int32.toUInt32 31)).toInt32) &&& 1431655765)).toUInt32 >>> ((2 : Int32).toUInt32 &&& Int32.toUInt32 31)).toInt32) &&& 858993459)) + (((((v - (((v.toUInt32 >>> ((1 : Int32).toUInt32 &&& Int32.toUInt32 31)).toInt32) &&& 1431655765)) &&& 858993459) + ((((v - (((v.toUInt32 >>> ((1 : Int32).toUInt32 &&& Int32.toUInt32 31)).toInt32) &&& 1431655765)).toUInt32 >>> ((2 : Int32).toUInt32 &&& Int32.toUInt32 31)).toInt32) &&& 858993459)).toUInt32 >>> ((4 : Int32).toUInt32 &&& Int32.toUInt32 31)).toInt32)) &&& 252645135))]) hx hb dJ6_bitCount_0f7a4_33 rfl hl (by decide) rfl (fun ls hl => ?_)
  refine lv_iload_n hx hb dJ6_bitCount_0f7a4_34 rfl (lv_at hl 0 rfl) ?_
  refine lv_iload_n hx hb dJ6_bitCount_0f7a4_35 rfl (lv_at hl 0 rfl) ?_
  refine lv_bipush (v := 8) hx hb dJ6_bitCount_0f7a4_36 (by decide) ?_
  refine lv_iushr (v := ((((((v - (((v.toUInt32 >>> ((1 : Int32).toUInt32 &&& Int32.toUInt32 31)).toInt32) &&& 1431655765)) &&& 858993459) + ((((v - (((v.toUInt32 >>> ((1 : Int32).toUInt32 &&& Int32.toUInt32 31)).toInt32) &&& 1431655765)).toUInt32 >>> ((2 : Int32).toUInt32 &&& Int32.toUInt32 31)).toInt32) &&& 858993459)) + (((((v - (((v.toUInt32 >>> ((1 : Int32).toUInt32 &&& Int32.toUInt32 31)).toInt32) &&& 1431655765)) &&& 858993459) + ((((v - (((v.toUInt32 >>> ((1 : Int32).toUInt32 &&& Int32.toUInt32 31)).toInt32) &&& 1431655765)).toUInt32 >>> ((2 : Int32).toUInt32 &&& Int32.toUInt32 31)).toInt32) &&& 858993459)).toUInt32 >>> ((4 : Int32).toUInt32 &&& Int32.toUInt32 31)).toInt32)) &&& 252645135).toUInt32 >>> ((8 : Int32).toUInt32 &&& Int32.toUInt32 31)).toInt32) hx hb dJ6_bitCount_0f7a4_38 rfl ?_
  refine lv_iadd hx hb dJ6_bitCount_0f7a4_39 ?_
  refine lv_istore_n (lv' := [(0, .int ((((((v - (((v.toUInt32 >>> ((1 : Int32).toUInt32 &&& Int32.toUInt32 31)).toInt32) &&& 1431655765)) &&& 858993459) + ((((v - (((v.toUInt32 >>> ((1 : Int32).toUInt32 &&& Int32.toUInt32 31)).toInt32) &&& 1431655765)).toUInt32 >>> ((2 : Int32).toUInt32 &&& Int32.toUInt32 31)).toInt32) &&& 858993459)) + (((((v - (((v.toUInt32 >>> ((1 : Int32).toUInt32 &&& Int32.toUInt32 31)).toInt32) &&& 1431655765)) &&& 858993459) + ((((v - (((v.toUInt32 >>> ((1 : Int32).toUInt32 &&& Int32.toUInt32 31)).toInt32) &&& 1431655765)).toUInt32 >>> ((2 : Int32).toUInt32 &&& Int32.toUInt32 31)).toInt32) &&& 858993459)).toUInt32 >>> ((4 : Int32).toUInt32 &&& Int32.toUInt32 31)).toInt32)) &&& 252645135) + (((((((v - (((v.toUInt32 >>> ((1 : Int32).toUInt32 &&& Int32.toUInt32 31)).toInt32) &&& 1431655765)) &&& 858993459) + ((((v - (((v.toUInt32 >>> ((1 : Int32).toUInt32 &&& Int32.toUInt32 31)).toInt32) &&& 1431655765)).toUInt32 >>> ((2 : Int32).toUInt32 &&& Int32.toUInt32 31)).toInt32) &&& 858993459)) + (((((v - (((v.toUInt32 >>> ((1 : Int32).toUInt32 &&& Int32.toUInt32 31)).toInt32) &&& 1431655765)) &&& 858993459) + ((((v - (((v.toUInt32 >>> ((1 : Int32).toUInt32 &&& Int32.toUInt32 31)).toInt32) &&& 1431655765)).toUInt32 >>> ((2 : Int32).toUInt32 &&& Int32.toUInt32 31)).toInt32) &&& 858993459)).toUInt32 >>> ((4 : Int32).toUInt32 &&& Int32.toUInt32 31)).toInt32)) &&& 252645135).toUInt32 >>> ((8 : Int32).toUInt32 &&& Int32.toUInt32 31)).toInt32)))]) hx hb dJ6_bitCount_0f7a4_40 rfl hl (by decide) rfl (fun ls hl => ?_)
  refine lv_iload_n hx hb dJ6_bitCount_0f7a4_41 rfl (lv_at hl 0 rfl) ?_
  refine lv_iload_n hx hb dJ6_bitCount_0f7a4_42 rfl (lv_at hl 0 rfl) ?_
  refine lv_bipush (v := 16) hx hb dJ6_bitCount_0f7a4_43 (by decide) ?_
  refine lv_iushr (v := (((((((v - (((v.toUInt32 >>> ((1 : Int32).toUInt32 &&& Int32.toUInt32 31)).toInt32) &&& 1431655765)) &&& 858993459) + ((((v - (((v.toUInt32 >>> ((1 : Int32).toUInt32 &&& Int32.toUInt32 31)).toInt32) &&& 1431655765)).toUInt32 >>> ((2 : Int32).toUInt32 &&& Int32.toUInt32 31)).toInt32) &&& 858993459)) + (((((v - (((v.toUInt32 >>> ((1 : Int32).toUInt32 &&& Int32.toUInt32 31)).toInt32) &&& 1431655765)) &&& 858993459) + ((((v - (((v.toUInt32 >>> ((1 : Int32).toUInt32 &&& Int32.toUInt32 31)).toInt32) &&& 1431655765)).toUInt32 >>> ((2 : Int32).toUInt32 &&& Int32.toUInt32 31)).toInt32) &&& 858993459)).toUInt32 >>> ((4 : Int32).toUInt32 &&& Int32.toUInt32 31)).toInt32)) &&& 252645135) + (((((((v - (((v.toUInt32 >>> ((1 : Int32).toUInt32 &&& Int32.toUInt32 31)).toInt32) &&& 1431655765)) &&& 858993459) + ((((v - (((v.toUInt32 >>> ((1 : Int32).toUInt32 &&& Int32.toUInt32 31)).toInt32) &&& 1431655765)).toUInt32 >>> ((2 : Int32).toUInt32 &&& Int32.toUInt32 31)).toInt32) &&& 858993459)) + (((((v - (((v.toUInt32 >>> ((1 : Int32).toUInt32 &&& Int32.toUInt32 31)).toInt32) &&& 1431655765)) &&& 858993459) + ((((v - (((v.toUInt32 >>> ((1 : Int32).toUInt32 &&& Int32.toUInt32 31)).toInt32) &&& 1431655765)).toUInt32 >>> ((2 : Int32).toUInt32 &&& Int32.toUInt32 31)).toInt32) &&& 858993459)).toUInt32 >>> ((4 : Int32).toUInt32 &&& Int32.toUInt32 31)).toInt32)) &&& 252645135).toUInt32 >>> ((8 : Int32).toUInt32 &&& Int32.toUInt32 31)).toInt32)).toUInt32 >>> ((16 : Int32).toUInt32 &&& Int32.toUInt32 31)).toInt32) hx hb dJ6_bitCount_0f7a4_45 rfl ?_
  refine lv_iadd hx hb dJ6_bitCount_0f7a4_46 ?_
  refine lv_istore_n (lv' := [(0, .int (((((((v - (((v.toUInt32 >>> ((1 : Int32).toUInt32 &&& Int32.toUInt32 31)).toInt32) &&& 1431655765)) &&& 858993459) + ((((v - (((v.toUInt32 >>> ((1 : Int32).toUInt32 &&& Int32.toUInt32 31)).toInt32) &&& 1431655765)).toUInt32 >>> ((2 : Int32).toUInt32 &&& Int32.toUInt32 31)).toInt32) &&& 858993459)) + (((((v - (((v.toUInt32 >>> ((1 : Int32).toUInt32 &&& Int32.toUInt32 31)).toInt32) &&& 1431655765)) &&& 858993459) + ((((v - (((v.toUInt32 >>> ((1 : Int32).toUInt32 &&& Int32.toUInt32 31)).toInt32) &&& 1431655765)).toUInt32 >>> ((2 : Int32).toUInt32 &&& Int32.toUInt32 31)).toInt32) &&& 858993459)).toUInt32 >>> ((4 : Int32).toUInt32 &&& Int32.toUInt32 31)).toInt32)) &&& 252645135) + (((((((v - (((v.toUInt32 >>> ((1 : Int32).toUInt32 &&& Int32.toUInt32 31)).toInt32) &&& 1431655765)) &&& 858993459) + ((((v - (((v.toUInt32 >>> ((1 : Int32).toUInt32 &&& Int32.toUInt32 31)).toInt32) &&& 1431655765)).toUInt32 >>> ((2 : Int32).toUInt32 &&& Int32.toUInt32 31)).toInt32) &&& 858993459)) + (((((v - (((v.toUInt32 >>> ((1 : Int32).toUInt32 &&& Int32.toUInt32 31)).toInt32) &&& 1431655765)) &&& 858993459) + ((((v - (((v.toUInt32 >>> ((1 : Int32).toUInt32 &&& Int32.toUInt32 31)).toInt32) &&& 1431655765)).toUInt32 >>> ((2 : Int32).toUInt32 &&& Int32.toUInt32 31)).toInt32) &&& 858993459)).toUInt32 >>> ((4 : Int32).toUInt32 &&& Int32.toUInt32 31)).toInt32)) &&& 252645135).toUInt32 >>> ((8 : Int32).toUInt32 &&& Int32.toUInt32 31)).toInt32)) + ((((((((v - (((v.toUInt32 >>> ((1 : Int32).toUInt32 &&& Int32.toUInt32 31)).toInt32) &&& 1431655765)) &&& 858993459) + ((((v - (((v.toUInt32 >>> ((1 : Int32).toUInt32 &&& Int32.toUInt32 31)).toInt32) &&& 1431655765)).toUInt32 >>> ((2 : Int32).toUInt32 &&& Int32.toUInt32 31)).toInt32) &&& 858993459)) + (((((v - (((v.toUInt32 >>> ((1 : Int32).toUInt32 &&& Int32.toUInt32 31)).toInt32) &&& 1431655765)) &&& 858993459) + ((((v - (((v.toUInt32 >>> ((1 : Int32).toUInt32 &&& Int32.toUInt32 31)).toInt32) &&& 1431655765)).toUInt32 >>> ((2 : Int32).toUInt32 &&& Int32.toUInt32 31)).toInt32) &&& 858993459)).toUInt32 >>> ((4 : Int32).toUInt32 &&& Int32.toUInt32 31)).toInt32)) &&& 252645135) + (((((((v - (((v.toUInt32 >>> ((1 : Int32).toUInt32 &&& Int32.toUInt32 31)).toInt32) &&& 1431655765)) &&& 858993459) + ((((v - (((v.toUInt32 >>> ((1 : Int32).toUInt32 &&& Int32.toUInt32 31)).toInt32) &&& 1431655765)).toUInt32 >>> ((2 : Int32).toUInt32 &&& Int32.toUInt32 31)).toInt32) &&& 858993459)) + (((((v - (((v.toUInt32 >>> ((1 : Int32).toUInt32 &&& Int32.toUInt32 31)).toInt32) &&& 1431655765)) &&& 858993459) + ((((v - (((v.toUInt32 >>> ((1 : Int32).toUInt32 &&& Int32.toUInt32 31)).toInt32) &&& 1431655765)).toUInt32 >>> ((2 : Int32).toUInt32 &&& Int32.toUInt32 31)).toInt32) &&& 858993459)).toUInt32 >>> ((4 : Int32).toUInt32 &&& Int32.toUInt32 31)).toInt32)) &&& 252645135).toUInt32 >>> ((8 : Int32).toUInt32 &&& Int32.toUInt32 31)).toInt32)).toUInt32 >>> ((16 : Int32).toUInt32 &&& Int32.toUInt32 31)).toInt32)))]) hx hb dJ6_bitCount_0f7a4_47 rfl hl (by decide) rfl (fun ls hl => ?_)
  refine lv_iload_n hx hb dJ6_bitCount_0f7a4_48 rfl (lv_at hl 0 rfl) ?_
  refine lv_bipush (v := 63) hx hb dJ6_bitCount_0f7a4_49 (by decide) ?_
  refine lv_iand hx hb dJ6_bitCount_0f7a4_51 ?_
  exact endRI hx hb hr hlocks hQ hS dJ6_bitCount_0f7a4_52 rfl
def rmX3_has : Room := { frames := 1, cells := 0, slots := 0, locals := 22 }
theorem kdX3_has : yX3_has.cls = RX3 ∧ yX3_has.cls ≠ "java/lang/invoke/MethodHandle" ∧ yX3_has.cls ≠ "java/lang/invoke/VarHandle" ∧ (parseMethodDescriptor yX3_has.desc).map (fun d => d.parameters.length) = some 1 := ⟨rfl, by decide +kernel, by decide +kernel, by decide +kernel⟩
set_option maxRecDepth 100000 in
set_option maxHeartbeats 8000000 in
theorem kX3_has (l : Launch) (D : va_G) (cI cJ : ClassId) (nt aw ap an ae nn mm : Nat) (k : Int32)  : Met l yX3_has wsX3_has rmX3_has (rPre D cI cJ [.ref nt, .int k] [(nt, .inr (3, [.int (nI nn), .int (nI mm), .ref aw, .ref ap, .ref an, .ref ae]))]) (qRI (zb (0 ≤ k ∧ k ≤ nI nn - 1))) 0 0 nA := by
  refine startR (cc := cX3_has) (maxL := 2) (ret := (some .boolean)) (by decide) rfl (Nat.le_of_ble_eq_true rfl) ?_
  intro p e s m args below meth c ls Q hQ hx hb hr hlocks hml hown hts hK hN hP hl hin
  have hown : s.vm.findClass RX3 = some m.cls := hown
  have hi_3 : ∀ w ∈ wsX30, w ∈ wsX3_has := by decide +kernel
  have hf_28 := hts (.fieldLink RX3 28 "FireNets$Net" "nodes" "I") (by decide +kernel)
  have hini_RX6 := hts (.initialized RX6) (by decide +kernel)
  have hst_X6_within := hts (.static yX6_within) (by decide +kernel)
  have hS : va_S nA s.heap s.heap [] := va_S.rf
  have hl : lv_has ls 2 [(0, .ref nt), (1, .int k)] := hl
  have hP : va_P D vwCl [(nt, .inr (3, [.int (nI nn), .int (nI mm), .ref aw, .ref ap, .ref an, .ref ae]))] s.heap := hP
  refine lv_iload_n hx hb dX3_has_0 rfl (lv_at hl 1 rfl) ?_
  refine lv_iconst (v := 0) hx hb dX3_has_1 (by decide) ?_
  refine lv_aload_n hx hb dX3_has_2 rfl (lv_at hl 0 rfl) ?_
  refine va_get (D := D) (ci := 3) (v := .int (nI nn)) (C := RX3) (T := TX3) (N := 6) hx hb hts hi_3 hown hK hP 0 rfl rfl 0 (by decide) hf_28 (fun _ h9 => h9) rfl dX3_has_3 ?_
  refine lv_iconst (v := 1) hx hb dX3_has_6 (by decide) ?_
  refine lv_isub hx hb dX3_has_7 ?_
  refine goRI hP hS (va_runSN (As := [.int k, .int 0, .int ((nI nn) - 1)]) (rest := []) ⟨hx, hb, hml, hown, hts⟩ (kX6_within l D cI cJ k 0 ((nI nn) - 1)) ⟨va_cnB (host := "FireNets") 3 hts gX3_has_X6_within_n41 rfl rfl rfl (hN _ nwm_RX3_41) hini_RX6 kdX6_within.2 ⟨Nat.le_of_ble_eq_true rfl, Nat.le_of_ble_eq_true rfl⟩, hst_X6_within, trivial⟩ (preR hK hN hP [] rfl) rfl rfl hl.1 rfl (lv_room (Nat.le_of_ble_eq_true rfl)) dX3_has_8 ⟨Nat.zero_le _, Nat.zero_le _⟩) (fun H locs hP hS => ?_)
  exact endRZ hx hb hr hlocks hQ hS dX3_has_11 zb_nar rfl
def rmX3_all : Room := { frames := 0, cells := 0, slots := 0, locals := 0 }
theorem kdX3_all : yX3_all.cls = RX3 ∧ yX3_all.cls ≠ "java/lang/invoke/MethodHandle" ∧ yX3_all.cls ≠ "java/lang/invoke/VarHandle" ∧ (parseMethodDescriptor yX3_all.desc).map (fun d => d.parameters.length) = some 0 := ⟨rfl, by decide +kernel, by decide +kernel, by decide +kernel⟩
set_option maxRecDepth 100000 in
set_option maxHeartbeats 8000000 in
theorem kX3_all (l : Launch) (D : va_G) (cI cJ : ClassId) (nt aw ap an ae nn mm : Nat)  : Met l yX3_all wsX3_all rmX3_all (rPre D cI cJ [.ref nt] [(nt, .inr (3, [.int (nI nn), .int (nI mm), .ref aw, .ref ap, .ref an, .ref ae]))]) (qRI (allI (nI nn))) 0 0 nA := by
  refine startR (cc := cX3_all) (maxL := 1) (ret := (some .int)) (by decide) rfl (Nat.le_of_ble_eq_true rfl) ?_
  intro p e s m args below meth c ls Q hQ hx hb hr hlocks hml hown hts hK hN hP hl hin
  have hown : s.vm.findClass RX3 = some m.cls := hown
  have hi_3 : ∀ w ∈ wsX30, w ∈ wsX3_all := by decide +kernel
  have hf_28 := hts (.fieldLink RX3 28 "FireNets$Net" "nodes" "I") (by decide +kernel)
  have hS : va_S nA s.heap s.heap [] := va_S.rf
  have hl : lv_has ls 1 [(0, .ref nt)] := hl
  have hP : va_P D vwCl [(nt, .inr (3, [.int (nI nn), .int (nI mm), .ref aw, .ref ap, .ref an, .ref ae]))] s.heap := hP
  refine lv_iconst (v := 1) hx hb dX3_all_0 (by decide) ?_
  refine lv_aload_n hx hb dX3_all_1 rfl (lv_at hl 0 rfl) ?_
  refine va_get (D := D) (ci := 3) (v := .int (nI nn)) (C := RX3) (T := TX3) (N := 6) hx hb hts hi_3 hown hK hP 0 rfl rfl 0 (by decide) hf_28 (fun _ h9 => h9) rfl dX3_all_2 ?_
  refine lv_ishl hx hb dX3_all_5 ?_
  refine lv_iconst (v := 1) hx hb dX3_all_6 (by decide) ?_
  refine lv_isub hx hb dX3_all_7 ?_
  exact endRI hx hb hr hlocks hQ hS dX3_all_8 rfl
def rmX3_isStart : Room := { frames := 1, cells := 0, slots := 0, locals := 22 }
theorem kdX3_isStart : yX3_isStart.cls = RX3 ∧ yX3_isStart.cls ≠ "java/lang/invoke/MethodHandle" ∧ yX3_isStart.cls ≠ "java/lang/invoke/VarHandle" ∧ (parseMethodDescriptor yX3_isStart.desc).map (fun d => d.parameters.length) = some 1 := ⟨rfl, by decide +kernel, by decide +kernel, by decide +kernel⟩
set_option maxRecDepth 100000 in
set_option maxHeartbeats 8000000 in
theorem kX3_isStart (l : Launch) (D : va_G) (cI cJ : ClassId) (nt aw ap an ae nn mm : Nat) (k : Int32)  : Met l yX3_isStart wsX3_isStart rmX3_isStart (rPre D cI cJ [.ref nt, .int k] [(nt, .inr (3, [.int (nI nn), .int (nI mm), .ref aw, .ref ap, .ref an, .ref ae]))]) (qRI (zb (1 ≤ k ∧ k ≤ allI (nI nn)))) 0 0 nA := by
  refine startR (cc := cX3_isStart) (maxL := 2) (ret := (some .boolean)) (by decide) rfl (Nat.le_of_ble_eq_true rfl) ?_
  intro p e s m args below meth c ls Q hQ hx hb hr hlocks hml hown hts hK hN hP hl hin
  have hown : s.vm.findClass RX3 = some m.cls := hown
  have hini_RX6 := hts (.initialized RX6) (by decide +kernel)
  have hst_X6_within := hts (.static yX6_within) (by decide +kernel)
  have hS : va_S nA s.heap s.heap [] := va_S.rf
  have hl : lv_has ls 2 [(0, .ref nt), (1, .int k)] := hl
  have hP : va_P D vwCl [(nt, .inr (3, [.int (nI nn), .int (nI mm), .ref aw, .ref ap, .ref an, .ref ae]))] s.heap := hP
  refine lv_iload_n hx hb dX3_isStart_0 rfl (lv_at hl 1 rfl) ?_
  refine lv_iconst (v := 1) hx hb dX3_isStart_1 (by decide) ?_
  refine lv_aload_n hx hb dX3_isStart_2 rfl (lv_at hl 0 rfl) ?_
  refine goRI hP hS (va_runV (As := []) (rest := [.int 1, .int k]) ⟨hx, hb, hml, hown, hts⟩ (kX3_all l D cI cJ nt aw ap an ae nn mm) (cwV 0 hts gX3_isStart_X3_all rfl rfl rfl kdX3_all ⟨Nat.le_of_ble_eq_true rfl, Nat.le_of_ble_eq_true rfl⟩) (preRV hK hN hP 0 (ci := 3) rfl rfl rfl [0] rfl) rfl rfl hl.1 rfl (lv_room (Nat.le_of_ble_eq_true rfl)) dX3_isStart_3 ⟨Nat.zero_le _, Nat.zero_le _⟩) (fun H locs hP hS => ?_)
  refine goRI hP hS (va_runSN (As := [.int k, .int 1, .int (allI (nI nn))]) (rest := []) ⟨hx, hb, hml, hown, hts⟩ (kX6_within l D cI cJ k 1 (allI (nI nn))) ⟨va_cnB (host := "FireNets") 3 hts gX3_isStart_X6_within_n41 rfl rfl rfl (hN _ nwm_RX3_41) hini_RX6 kdX6_within.2 ⟨Nat.le_of_ble_eq_true rfl, Nat.le_of_ble_eq_true rfl⟩, hst_X6_within, trivial⟩ (preR hK hN hP [] rfl) rfl rfl hl.1 rfl (lv_room (Nat.le_of_ble_eq_true rfl)) dX3_isStart_6 ⟨Nat.zero_le _, Nat.zero_le _⟩) (fun H locs hP hS => ?_)
  exact endRZ hx hb hr hlocks hQ hS dX3_isStart_9 zb_nar rfl
def rmX3_nearTo : Room := { frames := 0, cells := 0, slots := 0, locals := 0 }
theorem kdX3_nearTo : yX3_nearTo.cls = RX3 ∧ yX3_nearTo.cls ≠ "java/lang/invoke/MethodHandle" ∧ yX3_nearTo.cls ≠ "java/lang/invoke/VarHandle" ∧ (parseMethodDescriptor yX3_nearTo.desc).map (fun d => d.parameters.length) = some 1 := ⟨rfl, by decide +kernel, by decide +kernel, by decide +kernel⟩
set_option maxRecDepth 100000 in
set_option maxHeartbeats 8000000 in
theorem kX3_nearTo (l : Launch) (D : va_G) (cI cJ : ClassId) (nt aw ap an ae nn mm : Nat) (ne : Row) (k : Nat) (hk : k < 10) : Met l yX3_nearTo wsX3_nearTo rmX3_nearTo (rPre D cI cJ [.ref nt, .int (nI k)] [(nt, .inr (3, [.int (nI nn), .int (nI mm), .ref aw, .ref ap, .ref an, .ref ae])), (an, .inl (cI, 10, .inl ne))]) (qRI (ne k)) 0 0 nA := by
  refine startR (cc := cX3_nearTo) (maxL := 2) (ret := (some .int)) (by decide) rfl (Nat.le_of_ble_eq_true rfl) ?_
  intro p e s m args below meth c ls Q hQ hx hb hr hlocks hml hown hts hK hN hP hl hin
  have hown : s.vm.findClass RX3 = some m.cls := hown
  have hi_3 : ∀ w ∈ wsX30, w ∈ wsX3_nearTo := by decide +kernel
  have hf_18 := hts (.fieldLink RX3 18 "FireNets$Net" "near" "[I") (by decide +kernel)
  have hS : va_S nA s.heap s.heap [] := va_S.rf
  have hl : lv_has ls 2 [(0, .ref nt), (1, .int (nI k))] := hl
  have hP : va_P D vwCl [(nt, .inr (3, [.int (nI nn), .int (nI mm), .ref aw, .ref ap, .ref an, .ref ae])), (an, .inl (cI, 10, .inl ne))] s.heap := hP
  refine lv_iload_n hx hb dX3_nearTo_0 rfl (lv_at hl 1 rfl) ?_
  refine lv_if_lt (tgt := 10) hx hb dX3_nearTo_1 (by decide) (fun c_1 => ?_) (fun c_1 => ?_)
  · exact absurd c_1 (nI_pos (by omega))
  · refine lv_iload_n hx hb dX3_nearTo_4 rfl (lv_at hl 1 rfl) ?_
    refine lv_bipush (v := 10) hx hb dX3_nearTo_5 (by decide) ?_
    refine r_icmp_lt (tgt := 14) hx hb k 10 dX3_nearTo_7 (by decide) rfl rfl (by omega) (by omega) (fun c_7 => ?_) (fun c_7 => ?_)
    · refine lv_aload_n hx hb dX3_nearTo_14 rfl (lv_at hl 0 rfl) ?_
      refine va_get (D := D) (ci := 3) (v := .ref an) (C := RX3) (T := TX3) (N := 6) hx hb hts hi_3 hown hK hP 0 rfl rfl 4 (by decide) hf_18 (fun _ h9 => h9) rfl dX3_nearTo_15 ?_
      refine lv_iload_n hx hb dX3_nearTo_18 rfl (lv_at hl 1 rfl) ?_
      refine r_iald hx hb hK hP 1 rfl k rfl (by omega) (by omega) dX3_nearTo_19 ?_
      exact endRI hx hb hr hlocks hQ hS dX3_nearTo_20 rfl
    · exact absurd c_7 (by omega)
def rmX3_endsOf : Room := { frames := 0, cells := 0, slots := 0, locals := 0 }
theorem kdX3_endsOf : yX3_endsOf.cls = RX3 ∧ yX3_endsOf.cls ≠ "java/lang/invoke/MethodHandle" ∧ yX3_endsOf.cls ≠ "java/lang/invoke/VarHandle" ∧ (parseMethodDescriptor yX3_endsOf.desc).map (fun d => d.parameters.length) = some 1 := ⟨rfl, by decide +kernel, by decide +kernel, by decide +kernel⟩
set_option maxRecDepth 100000 in
set_option maxHeartbeats 8000000 in
theorem kX3_endsOf (l : Launch) (D : va_G) (cI cJ : ClassId) (nt aw ap an ae nn mm : Nat) (en : Row) (k : Nat) (hk : k < 24) : Met l yX3_endsOf wsX3_endsOf rmX3_endsOf (rPre D cI cJ [.ref nt, .int (nI k)] [(nt, .inr (3, [.int (nI nn), .int (nI mm), .ref aw, .ref ap, .ref an, .ref ae])), (ae, .inl (cI, 24, .inl en))]) (qRI (en k)) 0 0 nA := by
  refine startR (cc := cX3_endsOf) (maxL := 2) (ret := (some .int)) (by decide) rfl (Nat.le_of_ble_eq_true rfl) ?_
  intro p e s m args below meth c ls Q hQ hx hb hr hlocks hml hown hts hK hN hP hl hin
  have hown : s.vm.findClass RX3 = some m.cls := hown
  have hi_3 : ∀ w ∈ wsX30, w ∈ wsX3_endsOf := by decide +kernel
  have hf_21 := hts (.fieldLink RX3 21 "FireNets$Net" "ends" "[I") (by decide +kernel)
  have hS : va_S nA s.heap s.heap [] := va_S.rf
  have hl : lv_has ls 2 [(0, .ref nt), (1, .int (nI k))] := hl
  have hP : va_P D vwCl [(nt, .inr (3, [.int (nI nn), .int (nI mm), .ref aw, .ref ap, .ref an, .ref ae])), (ae, .inl (cI, 24, .inl en))] s.heap := hP
  refine lv_iload_n hx hb dX3_endsOf_0 rfl (lv_at hl 1 rfl) ?_
  refine lv_if_lt (tgt := 10) hx hb dX3_endsOf_1 (by decide) (fun c_1 => ?_) (fun c_1 => ?_)
  · exact absurd c_1 (nI_pos (by omega))
  · refine lv_iload_n hx hb dX3_endsOf_4 rfl (lv_at hl 1 rfl) ?_
    refine lv_bipush (v := 24) hx hb dX3_endsOf_5 (by decide) ?_
    refine r_icmp_lt (tgt := 14) hx hb k 24 dX3_endsOf_7 (by decide) rfl rfl (by omega) (by omega) (fun c_7 => ?_) (fun c_7 => ?_)
    · refine lv_aload_n hx hb dX3_endsOf_14 rfl (lv_at hl 0 rfl) ?_
      refine va_get (D := D) (ci := 3) (v := .ref ae) (C := RX3) (T := TX3) (N := 6) hx hb hts hi_3 hown hK hP 0 rfl rfl 5 (by decide) hf_21 (fun _ h9 => h9) rfl dX3_endsOf_15 ?_
      refine lv_iload_n hx hb dX3_endsOf_18 rfl (lv_at hl 1 rfl) ?_
      refine r_iald hx hb hK hP 1 rfl k rfl (by omega) (by omega) dX3_endsOf_19 ?_
      exact endRI hx hb hr hlocks hQ hS dX3_endsOf_20 rfl
    · exact absurd c_7 (by omega)
def rmX3_joined : Room := { frames := 1, cells := 0, slots := 0, locals := 21 }
theorem kdX3_joined : yX3_joined.cls = RX3 ∧ yX3_joined.cls ≠ "java/lang/invoke/MethodHandle" ∧ yX3_joined.cls ≠ "java/lang/invoke/VarHandle" ∧ (parseMethodDescriptor yX3_joined.desc).map (fun d => d.parameters.length) = some 2 := ⟨rfl, by decide +kernel, by decide +kernel, by decide +kernel⟩
set_option maxRecDepth 100000 in
set_option maxHeartbeats 8000000 in
theorem kX3_joined (l : Launch) (D : va_G) (cI cJ : ClassId) (nt aw ap an ae nn mm : Nat) (ne : Row) (k : Nat) (b : Int32) (hk : k < 10) : Met l yX3_joined wsX3_joined rmX3_joined (rPre D cI cJ [.ref nt, .int (nI k), .int b] [(nt, .inr (3, [.int (nI nn), .int (nI mm), .ref aw, .ref ap, .ref an, .ref ae])), (an, .inl (cI, 10, .inl ne))]) (qRI (zb (¬ bt (ne k) b = 0))) 0 0 nA := by
  refine startR (cc := cX3_joined) (maxL := 3) (ret := (some .boolean)) (by decide) rfl (Nat.le_of_ble_eq_true rfl) ?_
  intro p e s m args below meth c ls Q hQ hx hb hr hlocks hml hown hts hK hN hP hl hin
  have hown : s.vm.findClass RX3 = some m.cls := hown
  have hini_RX6 := hts (.initialized RX6) (by decide +kernel)
  have hst_X6_holds := hts (.static yX6_holds) (by decide +kernel)
  have hS : va_S nA s.heap s.heap [] := va_S.rf
  have hl : lv_has ls 3 [(0, .ref nt), (1, .int (nI k)), (2, .int b)] := hl
  have hP : va_P D vwCl [(nt, .inr (3, [.int (nI nn), .int (nI mm), .ref aw, .ref ap, .ref an, .ref ae])), (an, .inl (cI, 10, .inl ne))] s.heap := hP
  refine lv_aload_n hx hb dX3_joined_0 rfl (lv_at hl 0 rfl) ?_
  refine lv_iload_n hx hb dX3_joined_1 rfl (lv_at hl 1 rfl) ?_
  refine goRI hP hS (va_runV (As := [.int (nI k)]) (rest := []) ⟨hx, hb, hml, hown, hts⟩ (kX3_nearTo l D cI cJ nt aw ap an ae nn mm ne k (by omega)) (cwV 1 hts gX3_joined_X3_nearTo rfl rfl rfl kdX3_nearTo ⟨Nat.le_of_ble_eq_true rfl, Nat.le_of_ble_eq_true rfl⟩) (preRV hK hN hP 0 (ci := 3) rfl rfl rfl [0, 1] rfl) rfl rfl hl.1 rfl (lv_room (Nat.le_of_ble_eq_true rfl)) dX3_joined_2 ⟨Nat.zero_le _, Nat.zero_le _⟩) (fun H locs hP hS => ?_)
  refine lv_iload_n hx hb dX3_joined_5 rfl (lv_at hl 2 rfl) ?_
  refine goRI hP hS (va_runSN (As := [.int (ne k), .int b]) (rest := []) ⟨hx, hb, hml, hown, hts⟩ (kX6_holds l D cI cJ (ne k) b) ⟨va_cnB (host := "FireNets") 2 hts gX3_joined_X6_holds_n53 rfl rfl rfl (hN _ nwm_RX3_53) hini_RX6 kdX6_holds.2 ⟨Nat.le_of_ble_eq_true rfl, Nat.le_of_ble_eq_true rfl⟩, hst_X6_holds, trivial⟩ (preR hK hN hP [] rfl) rfl rfl hl.1 rfl (lv_room (Nat.le_of_ble_eq_true rfl)) dX3_joined_6 ⟨Nat.zero_le _, Nat.zero_le _⟩) (fun H locs hP hS => ?_)
  exact endRZ hx hb hr hlocks hQ hS dX3_joined_9 zb_nar rfl
def rmX3_sumOver : Room := { frames := 0, cells := 0, slots := 0, locals := 0 }
theorem kdX3_sumOver : yX3_sumOver.cls = RX3 ∧ yX3_sumOver.cls ≠ "java/lang/invoke/MethodHandle" ∧ yX3_sumOver.cls ≠ "java/lang/invoke/VarHandle" ∧ (parseMethodDescriptor yX3_sumOver.desc).map (fun d => d.parameters.length) = some 2 := ⟨rfl, by decide +kernel, by decide +kernel, by decide +kernel⟩
set_option maxRecDepth 100000 in
set_option maxHeartbeats 8000000 in
theorem kX3_sumOver (l : Launch) (D : va_G) (cI cJ : ClassId) (ar : Nat) (f : Row) (v : Int32)  : Met l yX3_sumOver wsX3_sumOver rmX3_sumOver (rPre D cI cJ [.ref ar, .int v] [(ar, .inl (cI, 10, .inl f))]) (qRI (sumI f v 10)) 0 0 nA := by
  refine startR (cc := cX3_sumOver) (maxL := 4) (ret := (some .int)) (by decide) rfl (Nat.le_of_ble_eq_true rfl) ?_
  intro p e s m args below meth c ls Q hQ hx hb hr hlocks hml hown hts hK hN hP hl hin
  have hown : s.vm.findClass RX3 = some m.cls := hown
  have hS : va_S nA s.heap s.heap [] := va_S.rf
  have hl : lv_has ls 4 [(0, .ref ar), (1, .int v)] := hl
  have hP : va_P D vwCl [(ar, .inl (cI, 10, .inl f))] s.heap := hP
  refine lv_iconst (v := 0) hx hb dX3_sumOver_0 (by decide) ?_
  refine lv_istore_n (lv' := [(2, .int 0), (0, .ref ar), (1, .int v)]) hx hb dX3_sumOver_1 rfl hl (by decide) rfl (fun ls hl => ?_)
  refine lv_iconst (v := 0) hx hb dX3_sumOver_2 (by decide) ?_
  refine lv_istore_n (lv' := [(3, .int 0), (2, .int 0), (0, .ref ar), (1, .int v)]) hx hb dX3_sumOver_3 rfl hl (by decide) rfl (fun ls hl => ?_)
  have lp : ∀ (fu : Nat) (k : Nat), (k ≤ 10) → 10 - k < fu → ∀ (ls : Array Slot) (H : Heap) (locs : List Loc), lv_has ls 4 [(0, .ref ar), (1, .int v), (2, .int (sumI f v k)), (3, .int (nI k))] → va_P D vwCl [(ar, .inl (cI, 10, .inl f))] H → va_S nA s.heap H locs → W p l e rmX3_sumOver s m args below meth c H locs 0 0 Q (F0 m 4 ls []) := by
    intro fu
    induction fu with
    | zero => intro k hk hf; exact absurd hf (Nat.not_lt_zero _)
    | succ fu ih_lp =>
      intro k hk hf ls H locs hl hP hS
      refine lv_iload_n hx hb dX3_sumOver_4 rfl (lv_at hl 3 rfl) ?_
      refine lv_aload_n hx hb dX3_sumOver_5 rfl (lv_at hl 0 rfl) ?_
      refine va_alen (v := nI 10) hx hb hK hP 0 0 rfl rfl rfl dX3_sumOver_6 ?_
      refine r_icmp_ge (tgt := 28) hx hb k 10 dX3_sumOver_7 (by decide) rfl rfl (by omega) (by omega) (fun c_7 => ?_) (fun c_7 => ?_)
      · refine lv_iload_n hx hb dX3_sumOver_28 rfl (lv_at hl 2 rfl) ?_
        exact endRI hx hb hr hlocks hQ hS dX3_sumOver_29 (by rw [show k = 10 by omega])
      · refine lv_iload_n hx hb dX3_sumOver_10 rfl (lv_at hl 2 rfl) ?_
        refine lv_aload_n hx hb dX3_sumOver_11 rfl (lv_at hl 0 rfl) ?_
        refine lv_iload_n hx hb dX3_sumOver_12 rfl (lv_at hl 3 rfl) ?_
        refine r_iald hx hb hK hP 0 rfl k rfl (by omega) (by omega) dX3_sumOver_13 ?_
        refine lv_iload_n hx hb dX3_sumOver_14 rfl (lv_at hl 1 rfl) ?_
        refine lv_iload_n hx hb dX3_sumOver_15 rfl (lv_at hl 3 rfl) ?_
        refine lv_ishr hx hb dX3_sumOver_16 ?_
        refine lv_iconst (v := 1) hx hb dX3_sumOver_17 (by decide) ?_
        refine lv_iand hx hb dX3_sumOver_18 ?_
        refine lv_imul hx hb dX3_sumOver_19 ?_
        refine lv_iadd hx hb dX3_sumOver_20 ?_
        refine lv_istore_n (lv' := [(2, .int ((sumI f v k) + ((f k) * ((v >>> ((nI k) &&& 31)) &&& 1)))), (0, .ref ar), (1, .int v), (3, .int (nI k))]) hx hb dX3_sumOver_21 rfl hl (by decide) rfl (fun ls hl => ?_)
        refine r_iinc (lv' := [(3, .int (nI (k + 1))), (2, .int ((sumI f v k) + ((f k) * ((v >>> ((nI k) &&& 31)) &&& 1)))), (0, .ref ar), (1, .int v)]) hx hb 3 k dX3_sumOver_22 hl rfl (by decide) rfl (fun ls hl => ?_)
        refine lv_goto (tgt := 4) hx hb dX3_sumOver_25 (by decide) ?_
        exact ih_lp (k + 1) (by omega) (by omega) ls _ _ (lv_sub hl [2, 3, 1, 0] rfl) hP hS
  exact lp _ 0 (by omega) (Nat.lt_succ_self _) ls _ _ (lv_sub hl [2, 3, 1, 0] rfl) hP hS
def rmX3_worthOf : Room := { frames := 1, cells := 0, slots := 0, locals := 23 }
theorem kdX3_worthOf : yX3_worthOf.cls = RX3 ∧ yX3_worthOf.cls ≠ "java/lang/invoke/MethodHandle" ∧ yX3_worthOf.cls ≠ "java/lang/invoke/VarHandle" ∧ (parseMethodDescriptor yX3_worthOf.desc).map (fun d => d.parameters.length) = some 1 := ⟨rfl, by decide +kernel, by decide +kernel, by decide +kernel⟩
set_option maxRecDepth 100000 in
set_option maxHeartbeats 8000000 in
theorem kX3_worthOf (l : Launch) (D : va_G) (cI cJ : ClassId) (nt aw ap an ae nn mm : Nat) (wo : Row) (v : Int32)  : Met l yX3_worthOf wsX3_worthOf rmX3_worthOf (rPre D cI cJ [.ref nt, .int v] [(nt, .inr (3, [.int (nI nn), .int (nI mm), .ref aw, .ref ap, .ref an, .ref ae])), (aw, .inl (cI, 10, .inl wo))]) (qRI (sumI wo v 10)) 0 0 nA := by
  refine startR (cc := cX3_worthOf) (maxL := 2) (ret := (some .int)) (by decide) rfl (Nat.le_of_ble_eq_true rfl) ?_
  intro p e s m args below meth c ls Q hQ hx hb hr hlocks hml hown hts hK hN hP hl hin
  have hown : s.vm.findClass RX3 = some m.cls := hown
  have hi_3 : ∀ w ∈ wsX30, w ∈ wsX3_worthOf := by decide +kernel
  have hf_9 := hts (.fieldLink RX3 9 "FireNets$Net" "worth" "[I") (by decide +kernel)
  have hS : va_S nA s.heap s.heap [] := va_S.rf
  have hl : lv_has ls 2 [(0, .ref nt), (1, .int v)] := hl
  have hP : va_P D vwCl [(nt, .inr (3, [.int (nI nn), .int (nI mm), .ref aw, .ref ap, .ref an, .ref ae])), (aw, .inl (cI, 10, .inl wo))] s.heap := hP
  refine lv_aload_n hx hb dX3_worthOf_0 rfl (lv_at hl 0 rfl) ?_
  refine va_get (D := D) (ci := 3) (v := .ref aw) (C := RX3) (T := TX3) (N := 6) hx hb hts hi_3 hown hK hP 0 rfl rfl 2 (by decide) hf_9 (fun _ h9 => h9) rfl dX3_worthOf_1 ?_
  refine lv_iload_n hx hb dX3_worthOf_4 rfl (lv_at hl 1 rfl) ?_
  refine goRI hP hS (va_runS (As := [.ref aw, .int v]) (rest := []) ⟨hx, hb, hml, hown, hts⟩ (kX3_sumOver l D cI cJ aw wo v) (va_cwS 2 hts gX3_worthOf_X3_sumOver rfl rfl rfl kdX3_sumOver.2 ⟨Nat.le_of_ble_eq_true rfl, Nat.le_of_ble_eq_true rfl⟩) (preR hK hN hP [1] rfl) rfl rfl hl.1 rfl (lv_room (Nat.le_of_ble_eq_true rfl)) dX3_worthOf_5 ⟨Nat.zero_le _, Nat.zero_le _⟩) (fun H locs hP hS => ?_)
  exact endRI hx hb hr hlocks hQ hS dX3_worthOf_8 rfl
def rmX3_priceOf : Room := { frames := 1, cells := 0, slots := 0, locals := 23 }
theorem kdX3_priceOf : yX3_priceOf.cls = RX3 ∧ yX3_priceOf.cls ≠ "java/lang/invoke/MethodHandle" ∧ yX3_priceOf.cls ≠ "java/lang/invoke/VarHandle" ∧ (parseMethodDescriptor yX3_priceOf.desc).map (fun d => d.parameters.length) = some 1 := ⟨rfl, by decide +kernel, by decide +kernel, by decide +kernel⟩
set_option maxRecDepth 100000 in
set_option maxHeartbeats 8000000 in
theorem kX3_priceOf (l : Launch) (D : va_G) (cI cJ : ClassId) (nt aw ap an ae nn mm : Nat) (pr : Row) (v : Int32)  : Met l yX3_priceOf wsX3_priceOf rmX3_priceOf (rPre D cI cJ [.ref nt, .int v] [(nt, .inr (3, [.int (nI nn), .int (nI mm), .ref aw, .ref ap, .ref an, .ref ae])), (ap, .inl (cI, 10, .inl pr))]) (qRI (sumI pr v 10)) 0 0 nA := by
  refine startR (cc := cX3_priceOf) (maxL := 2) (ret := (some .int)) (by decide) rfl (Nat.le_of_ble_eq_true rfl) ?_
  intro p e s m args below meth c ls Q hQ hx hb hr hlocks hml hown hts hK hN hP hl hin
  have hown : s.vm.findClass RX3 = some m.cls := hown
  have hi_3 : ∀ w ∈ wsX30, w ∈ wsX3_priceOf := by decide +kernel
  have hf_15 := hts (.fieldLink RX3 15 "FireNets$Net" "price" "[I") (by decide +kernel)
  have hS : va_S nA s.heap s.heap [] := va_S.rf
  have hl : lv_has ls 2 [(0, .ref nt), (1, .int v)] := hl
  have hP : va_P D vwCl [(nt, .inr (3, [.int (nI nn), .int (nI mm), .ref aw, .ref ap, .ref an, .ref ae])), (ap, .inl (cI, 10, .inl pr))] s.heap := hP
  refine lv_aload_n hx hb dX3_priceOf_0 rfl (lv_at hl 0 rfl) ?_
  refine va_get (D := D) (ci := 3) (v := .ref ap) (C := RX3) (T := TX3) (N := 6) hx hb hts hi_3 hown hK hP 0 rfl rfl 3 (by decide) hf_15 (fun _ h9 => h9) rfl dX3_priceOf_1 ?_
  refine lv_iload_n hx hb dX3_priceOf_4 rfl (lv_at hl 1 rfl) ?_
  refine goRI hP hS (va_runS (As := [.ref ap, .int v]) (rest := []) ⟨hx, hb, hml, hown, hts⟩ (kX3_sumOver l D cI cJ ap pr v) (va_cwS 2 hts gX3_priceOf_X3_sumOver rfl rfl rfl kdX3_sumOver.2 ⟨Nat.le_of_ble_eq_true rfl, Nat.le_of_ble_eq_true rfl⟩) (preR hK hN hP [1] rfl) rfl rfl hl.1 rfl (lv_room (Nat.le_of_ble_eq_true rfl)) dX3_priceOf_5 ⟨Nat.zero_le _, Nat.zero_le _⟩) (fun H locs hP hS => ?_)
  exact endRI hx hb hr hlocks hQ hS dX3_priceOf_8 rfl
def rmX3_savedFrom : Room := { frames := 2, cells := 0, slots := 0, locals := 44 }
theorem kdX3_savedFrom : yX3_savedFrom.cls = RX3 ∧ yX3_savedFrom.cls ≠ "java/lang/invoke/MethodHandle" ∧ yX3_savedFrom.cls ≠ "java/lang/invoke/VarHandle" ∧ (parseMethodDescriptor yX3_savedFrom.desc).map (fun d => d.parameters.length) = some 1 := ⟨rfl, by decide +kernel, by decide +kernel, by decide +kernel⟩
set_option maxRecDepth 100000 in
set_option maxHeartbeats 8000000 in
theorem kX3_savedFrom (l : Launch) (D : va_G) (cI cJ : ClassId) (nt aw ap an ae nn mm : Nat) (wo : Row) (v : Int32)  : Met l yX3_savedFrom wsX3_savedFrom rmX3_savedFrom (rPre D cI cJ [.ref nt, .int v] [(nt, .inr (3, [.int (nI nn), .int (nI mm), .ref aw, .ref ap, .ref an, .ref ae])), (aw, .inl (cI, 10, .inl wo))]) (qRI (savedI (nI nn) wo v)) 0 0 nA := by
  refine startR (cc := cX3_savedFrom) (maxL := 2) (ret := (some .int)) (by decide) rfl (Nat.le_of_ble_eq_true rfl) ?_
  intro p e s m args below meth c ls Q hQ hx hb hr hlocks hml hown hts hK hN hP hl hin
  have hown : s.vm.findClass RX3 = some m.cls := hown
  have hS : va_S nA s.heap s.heap [] := va_S.rf
  have hl : lv_has ls 2 [(0, .ref nt), (1, .int v)] := hl
  have hP : va_P D vwCl [(nt, .inr (3, [.int (nI nn), .int (nI mm), .ref aw, .ref ap, .ref an, .ref ae])), (aw, .inl (cI, 10, .inl wo))] s.heap := hP
  refine lv_aload_n hx hb dX3_savedFrom_0 rfl (lv_at hl 0 rfl) ?_
  refine lv_aload_n hx hb dX3_savedFrom_1 rfl (lv_at hl 0 rfl) ?_
  refine goRI hP hS (va_runV (As := []) (rest := [.ref nt]) ⟨hx, hb, hml, hown, hts⟩ (kX3_all l D cI cJ nt aw ap an ae nn mm) (cwV 0 hts gX3_savedFrom_X3_all rfl rfl rfl kdX3_all ⟨Nat.le_of_ble_eq_true rfl, Nat.le_of_ble_eq_true rfl⟩) (preRV hK hN hP 0 (ci := 3) rfl rfl rfl [0] rfl) rfl rfl hl.1 rfl (lv_room (Nat.le_of_ble_eq_true rfl)) dX3_savedFrom_2 ⟨Nat.zero_le _, Nat.zero_le _⟩) (fun H locs hP hS => ?_)
  refine lv_iload_n hx hb dX3_savedFrom_5 rfl (lv_at hl 1 rfl) ?_
  refine lv_iconst (v := (-1)) hx hb dX3_savedFrom_6 (by decide) ?_
  refine lv_ixor hx hb dX3_savedFrom_7 ?_
  refine lv_iand hx hb dX3_savedFrom_8 ?_
  refine goRI hP hS (va_runV (As := [.int ((allI (nI nn)) &&& (v ^^^ (-1)))]) (rest := []) ⟨hx, hb, hml, hown, hts⟩ (kX3_worthOf l D cI cJ nt aw ap an ae nn mm wo ((allI (nI nn)) &&& (v ^^^ (-1)))) (cwV 1 hts gX3_savedFrom_X3_worthOf rfl rfl rfl kdX3_worthOf ⟨Nat.le_of_ble_eq_true rfl, Nat.le_of_ble_eq_true rfl⟩) (preRV hK hN hP 0 (ci := 3) rfl rfl rfl [0, 1] rfl) rfl rfl hl.1 rfl (lv_room (Nat.le_of_ble_eq_true rfl)) dX3_savedFrom_9 ⟨Nat.zero_le _, Nat.zero_le _⟩) (fun H locs hP hS => ?_)
  exact endRI hx hb hr hlocks hQ hS dX3_savedFrom_12 rfl
def rmX3_threatened : Room := { frames := 1, cells := 0, slots := 0, locals := 21 }
theorem kdX3_threatened : yX3_threatened.cls = RX3 ∧ yX3_threatened.cls ≠ "java/lang/invoke/MethodHandle" ∧ yX3_threatened.cls ≠ "java/lang/invoke/VarHandle" ∧ (parseMethodDescriptor yX3_threatened.desc).map (fun d => d.parameters.length) = some 2 := ⟨rfl, by decide +kernel, by decide +kernel, by decide +kernel⟩
set_option maxRecDepth 100000 in
set_option maxHeartbeats 8000000 in
theorem kX3_threatened (l : Launch) (D : va_G) (cI cJ : ClassId) (nt aw ap an ae nn mm : Nat) (ne : Row) (bu gu : Int32)  : Met l yX3_threatened wsX3_threatened rmX3_threatened (rPre D cI cJ [.ref nt, .int bu, .int gu] [(nt, .inr (3, [.int (nI nn), .int (nI mm), .ref aw, .ref ap, .ref an, .ref ae])), (an, .inl (cI, 10, .inl ne))]) (qRI (thr ne bu gu)) 0 0 nA := by
  refine startR (cc := cX3_threatened) (maxL := 5) (ret := (some .int)) (by decide) rfl (Nat.le_of_ble_eq_true rfl) ?_
  intro p e s m args below meth c ls Q hQ hx hb hr hlocks hml hown hts hK hN hP hl hin
  have hown : s.vm.findClass RX3 = some m.cls := hown
  have hi_3 : ∀ w ∈ wsX30, w ∈ wsX3_threatened := by decide +kernel
  have hf_18 := hts (.fieldLink RX3 18 "FireNets$Net" "near" "[I") (by decide +kernel)
  have hini_RX6 := hts (.initialized RX6) (by decide +kernel)
  have hst_X6_holds := hts (.static yX6_holds) (by decide +kernel)
  have hS : va_S nA s.heap s.heap [] := va_S.rf
  have hl : lv_has ls 5 [(0, .ref nt), (1, .int bu), (2, .int gu)] := hl
  have hP : va_P D vwCl [(nt, .inr (3, [.int (nI nn), .int (nI mm), .ref aw, .ref ap, .ref an, .ref ae])), (an, .inl (cI, 10, .inl ne))] s.heap := hP
  refine lv_iconst (v := 0) hx hb dX3_threatened_0 (by decide) ?_
  refine lv_istore_n (lv' := [(3, .int 0), (0, .ref nt), (1, .int bu), (2, .int gu)]) hx hb dX3_threatened_1 rfl hl (by decide) rfl (fun ls hl => ?_)
  refine lv_iconst (v := 0) hx hb dX3_threatened_2 (by decide) ?_
  refine lv_istore (lv' := [(4, .int 0), (3, .int 0), (0, .ref nt), (1, .int bu), (2, .int gu)]) hx hb dX3_threatened_3 hl (by decide) rfl (fun ls hl => ?_)
  have lp : ∀ (fu : Nat) (k : Nat), (k ≤ 10) → 10 - k < fu → ∀ (ls : Array Slot) (H : Heap) (locs : List Loc), lv_has ls 5 [(0, .ref nt), (1, .int bu), (2, .int gu), (3, .int (thrA ne bu k)), (4, .int (nI k))] → va_P D vwCl [(nt, .inr (3, [.int (nI nn), .int (nI mm), .ref aw, .ref ap, .ref an, .ref ae])), (an, .inl (cI, 10, .inl ne))] H → va_S nA s.heap H locs → W p l e rmX3_threatened s m args below meth c H locs 0 0 Q (F0 m 5 ls []) := by
    intro fu
    induction fu with
    | zero => intro k hk hf; exact absurd hf (Nat.not_lt_zero _)
    | succ fu ih_lp =>
      intro k hk hf ls H locs hl hP hS
      refine lv_iload hx hb dX3_threatened_5 (lv_at hl 4 rfl) ?_
      refine lv_bipush (v := 10) hx hb dX3_threatened_7 (by decide) ?_
      refine r_icmp_ge (tgt := 37) hx hb k 10 dX3_threatened_9 (by decide) rfl rfl (by omega) (by omega) (fun c_9 => ?_) (fun c_9 => ?_)
      · refine lv_iload_n hx hb dX3_threatened_37 rfl (lv_at hl 3 rfl) ?_
        refine lv_iload_n hx hb dX3_threatened_38 rfl (lv_at hl 1 rfl) ?_
        refine lv_iconst (v := (-1)) hx hb dX3_threatened_39 (by decide) ?_
        refine lv_ixor hx hb dX3_threatened_40 ?_
        refine lv_iand hx hb dX3_threatened_41 ?_
        refine lv_iload_n hx hb dX3_threatened_42 rfl (lv_at hl 2 rfl) ?_
        refine lv_iconst (v := (-1)) hx hb dX3_threatened_43 (by decide) ?_
        refine lv_ixor hx hb dX3_threatened_44 ?_
        refine lv_iand hx hb dX3_threatened_45 ?_
        exact endRI hx hb hr hlocks hQ hS dX3_threatened_46 (by rw [show k = 10 by omega]; rfl)
      · refine lv_iload_n hx hb dX3_threatened_12 rfl (lv_at hl 1 rfl) ?_
        refine lv_iload hx hb dX3_threatened_13 (lv_at hl 4 rfl) ?_
        refine goRI hP hS (va_runSN (As := [.int bu, .int (nI k)]) (rest := []) ⟨hx, hb, hml, hown, hts⟩ (kX6_holds l D cI cJ bu (nI k)) ⟨va_cnB (host := "FireNets") 2 hts gX3_threatened_X6_holds_n53 rfl rfl rfl (hN _ nwm_RX3_53) hini_RX6 kdX6_holds.2 ⟨Nat.le_of_ble_eq_true rfl, Nat.le_of_ble_eq_true rfl⟩, hst_X6_holds, trivial⟩ (preR hK hN hP [] rfl) rfl rfl hl.1 rfl (lv_room (Nat.le_of_ble_eq_true rfl)) dX3_threatened_15 ⟨Nat.zero_le _, Nat.zero_le _⟩) (fun H locs hP hS => ?_)
        refine r_zeq (tgt := 31) hx hb dX3_threatened_18 (by decide) (fun c_18 => ?_) (fun c_18 => ?_)
        · refine r_iinc (lv' := [(4, .int (nI (k + 1))), (0, .ref nt), (1, .int bu), (2, .int gu), (3, .int (thrA ne bu k))]) hx hb 4 k dX3_threatened_31 hl rfl (by decide) rfl (fun ls hl => ?_)
          refine lv_goto (tgt := 5) hx hb dX3_threatened_34 (by decide) ?_
          exact ih_lp (k + 1) (by omega) (by omega) ls _ _ (by rw [thrA, if_neg c_18]; exact lv_sub hl [1, 2, 3, 4, 0] rfl) hP hS
        · refine lv_iload_n hx hb dX3_threatened_21 rfl (lv_at hl 3 rfl) ?_
          refine lv_aload_n hx hb dX3_threatened_22 rfl (lv_at hl 0 rfl) ?_
          refine va_get (D := D) (ci := 3) (v := .ref an) (C := RX3) (T := TX3) (N := 6) hx hb hts hi_3 hown hK hP 0 rfl rfl 4 (by decide) hf_18 (fun _ h9 => h9) rfl dX3_threatened_23 ?_
          refine lv_iload hx hb dX3_threatened_26 (lv_at hl 4 rfl) ?_
          refine r_iald hx hb hK hP 1 rfl k rfl (by omega) (by omega) dX3_threatened_28 ?_
          refine lv_ior hx hb dX3_threatened_29 ?_
          refine lv_istore_n (lv' := [(3, .int ((thrA ne bu k) ||| (ne k))), (0, .ref nt), (1, .int bu), (2, .int gu), (4, .int (nI k))]) hx hb dX3_threatened_30 rfl hl (by decide) rfl (fun ls hl => ?_)
          refine r_iinc (lv' := [(4, .int (nI (k + 1))), (3, .int ((thrA ne bu k) ||| (ne k))), (0, .ref nt), (1, .int bu), (2, .int gu)]) hx hb 4 k dX3_threatened_31 hl rfl (by decide) rfl (fun ls hl => ?_)
          refine lv_goto (tgt := 5) hx hb dX3_threatened_34 (by decide) ?_
          exact ih_lp (k + 1) (by omega) (by omega) ls _ _ (by rw [thrA, if_pos c_18]; exact lv_sub hl [2, 3, 4, 1, 0] rfl) hP hS
  exact lp _ 0 (by omega) (Nat.lt_succ_self _) ls _ _ (lv_sub hl [2, 3, 4, 1, 0] rfl) hP hS
def rmX3_isLawful : Room := { frames := 2, cells := 0, slots := 0, locals := 44 }
theorem kdX3_isLawful : yX3_isLawful.cls = RX3 ∧ yX3_isLawful.cls ≠ "java/lang/invoke/MethodHandle" ∧ yX3_isLawful.cls ≠ "java/lang/invoke/VarHandle" ∧ (parseMethodDescriptor yX3_isLawful.desc).map (fun d => d.parameters.length) = some 4 := ⟨rfl, by decide +kernel, by decide +kernel, by decide +kernel⟩
set_option maxRecDepth 100000 in
set_option maxHeartbeats 8000000 in
theorem kX3_isLawful (l : Launch) (D : va_G) (cI cJ : ClassId) (nt aw ap an ae nn mm : Nat) (pr : Row) (v bu gu mo : Int32)  : Met l yX3_isLawful wsX3_isLawful rmX3_isLawful (rPre D cI cJ [.ref nt, .int v, .int bu, .int gu, .int mo] [(nt, .inr (3, [.int (nI nn), .int (nI mm), .ref aw, .ref ap, .ref an, .ref ae])), (ap, .inl (cI, 10, .inl pr))]) (qRI (zb (v &&& (freeI (nI nn) bu gu ^^^ (-1)) = 0 ∧ sumI pr v 10 ≤ mo))) 0 0 nA := by
  refine startR (cc := cX3_isLawful) (maxL := 6) (ret := (some .boolean)) (by decide) rfl (Nat.le_of_ble_eq_true rfl) ?_
  intro p e s m args below meth c ls Q hQ hx hb hr hlocks hml hown hts hK hN hP hl hin
  have hown : s.vm.findClass RX3 = some m.cls := hown
  have hS : va_S nA s.heap s.heap [] := va_S.rf
  have hl : lv_has ls 6 [(0, .ref nt), (1, .int v), (2, .int bu), (3, .int gu), (4, .int mo)] := hl
  have hP : va_P D vwCl [(nt, .inr (3, [.int (nI nn), .int (nI mm), .ref aw, .ref ap, .ref an, .ref ae])), (ap, .inl (cI, 10, .inl pr))] s.heap := hP
  refine lv_aload_n hx hb dX3_isLawful_0 rfl (lv_at hl 0 rfl) ?_
  refine goRI hP hS (va_runV (As := []) (rest := []) ⟨hx, hb, hml, hown, hts⟩ (kX3_all l D cI cJ nt aw ap an ae nn mm) (cwV 0 hts gX3_isLawful_X3_all rfl rfl rfl kdX3_all ⟨Nat.le_of_ble_eq_true rfl, Nat.le_of_ble_eq_true rfl⟩) (preRV hK hN hP 0 (ci := 3) rfl rfl rfl [0] rfl) rfl rfl hl.1 rfl (lv_room (Nat.le_of_ble_eq_true rfl)) dX3_isLawful_1 ⟨Nat.zero_le _, Nat.zero_le _⟩) (fun H locs hP hS => ?_)
  refine lv_iload_n hx hb dX3_isLawful_4 rfl (lv_at hl 2 rfl) ?_
  refine lv_iconst (v := (-1)) hx hb dX3_isLawful_5 (by decide) ?_
  refine lv_ixor hx hb dX3_isLawful_6 ?_
  refine lv_iand hx hb dX3_isLawful_7 ?_
  refine lv_iload_n hx hb dX3_isLawful_8 rfl (lv_at hl 3 rfl) ?_
  refine lv_iconst (v := (-1)) hx hb dX3_isLawful_9 (by decide) ?_
  refine lv_ixor hx hb dX3_isLawful_10 ?_
  refine lv_iand hx hb dX3_isLawful_11 ?_
  refine lv_istore (lv' := [(5, .int (((allI (nI nn)) &&& (bu ^^^ (-1))) &&& (gu ^^^ (-1)))), (0, .ref nt), (1, .int v), (2, .int bu), (3, .int gu), (4, .int mo)]) hx hb dX3_isLawful_12 hl (by decide) rfl (fun ls hl => ?_)
  refine lv_iload_n hx hb dX3_isLawful_14 rfl (lv_at hl 2 rfl) ?_
  refine lv_iload hx hb dX3_isLawful_15 (lv_at hl 0 rfl) ?_
  refine lv_iconst (v := (-1)) hx hb dX3_isLawful_17 (by decide) ?_
  refine lv_ixor hx hb dX3_isLawful_18 ?_
  refine lv_iand hx hb dX3_isLawful_19 ?_
  refine lv_if_ne (tgt := 37) hx hb dX3_isLawful_20 (by decide) (fun c_20 => ?_) (fun c_20 => ?_)
  · refine lv_iconst (v := 0) hx hb dX3_isLawful_37 (by decide) ?_
    exact endRZ hx hb hr hlocks hQ hS dX3_isLawful_38 rfl (zb_f (fun h => c_20 h.1))
  · refine lv_aload_n hx hb dX3_isLawful_23 rfl (lv_at hl 1 rfl) ?_
    refine lv_iload_n hx hb dX3_isLawful_24 rfl (lv_at hl 2 rfl) ?_
    refine goRI hP hS (va_runV (As := [.int v]) (rest := []) ⟨hx, hb, hml, hown, hts⟩ (kX3_priceOf l D cI cJ nt aw ap an ae nn mm pr v) (cwV 1 hts gX3_isLawful_X3_priceOf rfl rfl rfl kdX3_priceOf ⟨Nat.le_of_ble_eq_true rfl, Nat.le_of_ble_eq_true rfl⟩) (preRV hK hN hP 0 (ci := 3) rfl rfl rfl [0, 1] rfl) rfl rfl hl.1 rfl (lv_room (Nat.le_of_ble_eq_true rfl)) dX3_isLawful_25 ⟨Nat.zero_le _, Nat.zero_le _⟩) (fun H locs hP hS => ?_)
    refine lv_iload hx hb dX3_isLawful_28 (lv_at hl 5 rfl) ?_
    refine lv_icmp_gt (tgt := 37) hx hb dX3_isLawful_30 (by decide) (fun c_30 => ?_) (fun c_30 => ?_)
    · refine lv_iconst (v := 0) hx hb dX3_isLawful_37 (by decide) ?_
      exact endRZ hx hb hr hlocks hQ hS dX3_isLawful_38 rfl (zb_f (fun h => i_nle c_30 h.2))
    · refine lv_iconst (v := 1) hx hb dX3_isLawful_33 (by decide) ?_
      refine lv_goto (tgt := 38) hx hb dX3_isLawful_34 (by decide) ?_
      exact endRZ hx hb hr hlocks hQ hS dX3_isLawful_38 rfl (zb_t ⟨c_20, i_lt c_30⟩)
def rmX3_rankOf : Room := { frames := 1, cells := 0, slots := 0, locals := 20 }
theorem kdX3_rankOf : yX3_rankOf.cls = RX3 ∧ yX3_rankOf.cls ≠ "java/lang/invoke/MethodHandle" ∧ yX3_rankOf.cls ≠ "java/lang/invoke/VarHandle" ∧ (parseMethodDescriptor yX3_rankOf.desc).map (fun d => d.parameters.length) = some 3 := ⟨rfl, by decide +kernel, by decide +kernel, by decide +kernel⟩
set_option maxRecDepth 100000 in
set_option maxHeartbeats 8000000 in
theorem kX3_rankOf (l : Launch) (D : va_G) (cI cJ : ClassId) (nt aw ap an ae nn mm : Nat) (wo ne : Row) (k : Nat) (ru ta : Int32) (hk : k < 10) : Met l yX3_rankOf wsX3_rankOf rmX3_rankOf (rPre D cI cJ [.ref nt, .int (nI k), .int ru, .int ta] [(nt, .inr (3, [.int (nI nn), .int (nI mm), .ref aw, .ref ap, .ref an, .ref ae])), (aw, .inl (cI, 10, .inl wo)), (an, .inl (cI, 10, .inl ne))]) (qRI (rankI wo ne ru ta k)) 0 0 nA := by
  refine startR (cc := cX3_rankOf) (maxL := 4) (ret := (some .int)) (by decide) rfl (Nat.le_of_ble_eq_true rfl) ?_
  intro p e s m args below meth c ls Q hQ hx hb hr hlocks hml hown hts hK hN hP hl hin
  have hown : s.vm.findClass RX3 = some m.cls := hown
  have hi_3 : ∀ w ∈ wsX30, w ∈ wsX3_rankOf := by decide +kernel
  have hf_9 := hts (.fieldLink RX3 9 "FireNets$Net" "worth" "[I") (by decide +kernel)
  have hf_18 := hts (.fieldLink RX3 18 "FireNets$Net" "near" "[I") (by decide +kernel)
  have hS : va_S nA s.heap s.heap [] := va_S.rf
  have hl : lv_has ls 4 [(0, .ref nt), (1, .int (nI k)), (2, .int ru), (3, .int ta)] := hl
  have hP : va_P D vwCl [(nt, .inr (3, [.int (nI nn), .int (nI mm), .ref aw, .ref ap, .ref an, .ref ae])), (aw, .inl (cI, 10, .inl wo)), (an, .inl (cI, 10, .inl ne))] s.heap := hP
  refine lv_iload_n hx hb dX3_rankOf_0 rfl (lv_at hl 1 rfl) ?_
  refine lv_if_lt (tgt := 10) hx hb dX3_rankOf_1 (by decide) (fun c_1 => ?_) (fun c_1 => ?_)
  · exact absurd c_1 (nI_pos (by omega))
  · refine lv_iload_n hx hb dX3_rankOf_4 rfl (lv_at hl 1 rfl) ?_
    refine lv_bipush (v := 10) hx hb dX3_rankOf_5 (by decide) ?_
    refine r_icmp_lt (tgt := 12) hx hb k 10 dX3_rankOf_7 (by decide) rfl rfl (by omega) (by omega) (fun c_7 => ?_) (fun c_7 => ?_)
    · refine lv_iload_n hx hb dX3_rankOf_12 rfl (lv_at hl 2 rfl) ?_
      by_cases c_13_1 : ru = 1
      · refine lv_lookup (off := 27) (tgt := 40) hx hb dX3_rankOf_13 (by decide) (by rw [c_13_1]; rfl) (by decide) ?_
        refine lv_aload_n hx hb dX3_rankOf_40 rfl (lv_at hl 0 rfl) ?_
        refine va_get (D := D) (ci := 3) (v := .ref aw) (C := RX3) (T := TX3) (N := 6) hx hb hts hi_3 hown hK hP 0 rfl rfl 2 (by decide) hf_9 (fun _ h9 => h9) rfl dX3_rankOf_41 ?_
        refine lv_iload_n hx hb dX3_rankOf_44 rfl (lv_at hl 1 rfl) ?_
        refine r_iald hx hb hK hP 1 rfl k rfl (by omega) (by omega) dX3_rankOf_45 ?_
        exact endRI hx hb hr hlocks hQ hS dX3_rankOf_46 (by rw [rankI, if_pos c_13_1])
      · skip
        by_cases c_13_2 : ru = 2
        · refine lv_lookup (off := 34) (tgt := 47) hx hb dX3_rankOf_13 (by decide) (by rw [c_13_2]; rfl) (by decide) ?_
          refine lv_aload_n hx hb dX3_rankOf_47 rfl (lv_at hl 0 rfl) ?_
          refine va_get (D := D) (ci := 3) (v := .ref an) (C := RX3) (T := TX3) (N := 6) hx hb hts hi_3 hown hK hP 0 rfl rfl 4 (by decide) hf_18 (fun _ h9 => h9) rfl dX3_rankOf_48 ?_
          refine lv_iload_n hx hb dX3_rankOf_51 rfl (lv_at hl 1 rfl) ?_
          refine r_iald hx hb hK hP 2 rfl k rfl (by omega) (by omega) dX3_rankOf_52 ?_
          refine lv_iload_n hx hb dX3_rankOf_53 rfl (lv_at hl 3 rfl) ?_
          refine lv_iconst (v := (-1)) hx hb dX3_rankOf_54 (by decide) ?_
          refine lv_ixor hx hb dX3_rankOf_55 ?_
          refine lv_iand hx hb dX3_rankOf_56 ?_
          refine goRI hP hS (va_runS (As := [.int ((ne k) &&& (ta ^^^ (-1)))]) (rest := []) ⟨hx, hb, hml, hown, hts⟩ (kJ6_bitCount_0f7a4 l D cI cJ ((ne k) &&& (ta ^^^ (-1)))) (va_cwS 1 hts gX3_rankOf_J6_bitCount_0f7a4 rfl rfl rfl kdJ6_bitCount_0f7a4.2 ⟨Nat.le_of_ble_eq_true rfl, Nat.le_of_ble_eq_true rfl⟩) (preR hK hN hP [] rfl) rfl rfl hl.1 rfl (lv_room (Nat.le_of_ble_eq_true rfl)) dX3_rankOf_57 ⟨Nat.zero_le _, Nat.zero_le _⟩) (fun H locs hP hS => ?_)
          exact endRI hx hb hr hlocks hQ hS dX3_rankOf_60 (by rw [rankI, if_neg c_13_1, if_pos c_13_2])
        · skip
          refine lv_lookup (off := 48) (tgt := 61) hx hb dX3_rankOf_13 (by decide) ((lv_osw c_13_1 (by decide)).trans ((lv_osw c_13_2 (by decide)).trans (rfl))) (by decide) ?_
          refine lv_iconst (v := 0) hx hb dX3_rankOf_61 (by decide) ?_
          exact endRI hx hb hr hlocks hQ hS dX3_rankOf_62 (by rw [rankI, if_neg c_13_1, if_neg c_13_2])
    · exact absurd c_7 (by omega)
def rmX3_pick : Room := { frames := 2, cells := 0, slots := 0, locals := 45 }
theorem kdX3_pick : yX3_pick.cls = RX3 ∧ yX3_pick.cls ≠ "java/lang/invoke/MethodHandle" ∧ yX3_pick.cls ≠ "java/lang/invoke/VarHandle" ∧ (parseMethodDescriptor yX3_pick.desc).map (fun d => d.parameters.length) = some 4 := ⟨rfl, by decide +kernel, by decide +kernel, by decide +kernel⟩
set_option maxRecDepth 100000 in
set_option maxHeartbeats 8000000 in
theorem kX3_pick (l : Launch) (D : va_G) (cI cJ : ClassId) (nt aw ap an ae nn mm : Nat) (wo ne pr : Row) (ru bu gu mo : Int32)  : Met l yX3_pick wsX3_pick rmX3_pick (rPre D cI cJ [.ref nt, .int ru, .int bu, .int gu, .int mo] [(nt, .inr (3, [.int (nI nn), .int (nI mm), .ref aw, .ref ap, .ref an, .ref ae])), (aw, .inl (cI, 10, .inl wo)), (ap, .inl (cI, 10, .inl pr)), (an, .inl (cI, 10, .inl ne))]) (qRI (pickI wo ne pr ru bu gu mo)) 0 0 nA := by
  refine startR (cc := cX3_pick) (maxL := 10) (ret := (some .int)) (by decide) rfl (Nat.le_of_ble_eq_true rfl) ?_
  intro p e s m args below meth c ls Q hQ hx hb hr hlocks hml hown hts hK hN hP hl hin
  have hown : s.vm.findClass RX3 = some m.cls := hown
  have hi_3 : ∀ w ∈ wsX30, w ∈ wsX3_pick := by decide +kernel
  have hf_15 := hts (.fieldLink RX3 15 "FireNets$Net" "price" "[I") (by decide +kernel)
  have hini_RX6 := hts (.initialized RX6) (by decide +kernel)
  have hst_X6_holds := hts (.static yX6_holds) (by decide +kernel)
  have hS : va_S nA s.heap s.heap [] := va_S.rf
  have hl : lv_has ls 10 [(0, .ref nt), (1, .int ru), (2, .int bu), (3, .int gu), (4, .int mo)] := hl
  have hP : va_P D vwCl [(nt, .inr (3, [.int (nI nn), .int (nI mm), .ref aw, .ref ap, .ref an, .ref ae])), (aw, .inl (cI, 10, .inl wo)), (ap, .inl (cI, 10, .inl pr)), (an, .inl (cI, 10, .inl ne))] s.heap := hP
  refine lv_aload_n hx hb dX3_pick_0 rfl (lv_at hl 0 rfl) ?_
  refine lv_iload_n hx hb dX3_pick_1 rfl (lv_at hl 2 rfl) ?_
  refine lv_iload_n hx hb dX3_pick_2 rfl (lv_at hl 3 rfl) ?_
  refine goRI hP hS (va_runV (As := [.int bu, .int gu]) (rest := []) ⟨hx, hb, hml, hown, hts⟩ (kX3_threatened l D cI cJ nt aw ap an ae nn mm ne bu gu) (cwV 2 hts gX3_pick_X3_threatened rfl rfl rfl kdX3_threatened ⟨Nat.le_of_ble_eq_true rfl, Nat.le_of_ble_eq_true rfl⟩) (preRV hK hN hP 0 (ci := 3) rfl rfl rfl [0, 3] rfl) rfl rfl hl.1 rfl (lv_room (Nat.le_of_ble_eq_true rfl)) dX3_pick_3 ⟨Nat.zero_le _, Nat.zero_le _⟩) (fun H locs hP hS => ?_)
  refine lv_istore (lv' := [(5, .int (thr ne bu gu)), (0, .ref nt), (1, .int ru), (2, .int bu), (3, .int gu), (4, .int mo)]) hx hb dX3_pick_6 hl (by decide) rfl (fun ls hl => ?_)
  refine lv_iconst (v := (-1)) hx hb dX3_pick_8 (by decide) ?_
  refine lv_istore (lv' := [(6, .int (-1)), (5, .int (thr ne bu gu)), (0, .ref nt), (1, .int ru), (2, .int bu), (3, .int gu), (4, .int mo)]) hx hb dX3_pick_9 hl (by decide) rfl (fun ls hl => ?_)
  refine lv_iconst (v := (-1)) hx hb dX3_pick_11 (by decide) ?_
  refine lv_istore (lv' := [(7, .int (-1)), (6, .int (-1)), (5, .int (thr ne bu gu)), (0, .ref nt), (1, .int ru), (2, .int bu), (3, .int gu), (4, .int mo)]) hx hb dX3_pick_12 hl (by decide) rfl (fun ls hl => ?_)
  refine lv_iconst (v := 0) hx hb dX3_pick_14 (by decide) ?_
  refine lv_istore (lv' := [(8, .int 0), (7, .int (-1)), (6, .int (-1)), (5, .int (thr ne bu gu)), (0, .ref nt), (1, .int ru), (2, .int bu), (3, .int gu), (4, .int mo)]) hx hb dX3_pick_15 hl (by decide) rfl (fun ls hl => ?_)
  have lp : ∀ (fu : Nat) (k : Nat), (k ≤ 10) → 10 - k < fu → ∀ (ls : Array Slot) (H : Heap) (locs : List Loc), lv_has ls 10 [(0, .ref nt), (1, .int ru), (2, .int bu), (3, .int gu), (4, .int mo), (5, .int (thr ne bu gu)), (6, .int ((pickA wo ne pr ru bu gu (thr ne bu gu) mo k).1)), (7, .int ((pickA wo ne pr ru bu gu (thr ne bu gu) mo k).2)), (8, .int (nI k))] → va_P D vwCl [(nt, .inr (3, [.int (nI nn), .int (nI mm), .ref aw, .ref ap, .ref an, .ref ae])), (aw, .inl (cI, 10, .inl wo)), (ap, .inl (cI, 10, .inl pr)), (an, .inl (cI, 10, .inl ne))] H → va_S nA s.heap H locs → W p l e rmX3_pick s m args below meth c H locs 0 0 Q (F0 m 17 ls []) := by
    intro fu
    induction fu with
    | zero => intro k hk hf; exact absurd hf (Nat.not_lt_zero _)
    | succ fu ih_lp =>
      intro k hk hf ls H locs hl hP hS
      refine lv_iload hx hb dX3_pick_17 (lv_at hl 8 rfl) ?_
      refine lv_bipush (v := 10) hx hb dX3_pick_19 (by decide) ?_
      refine r_icmp_ge (tgt := 82) hx hb k 10 dX3_pick_21 (by decide) rfl rfl (by omega) (by omega) (fun c_21 => ?_) (fun c_21 => ?_)
      · refine lv_iload hx hb dX3_pick_82 (lv_at hl 6 rfl) ?_
        exact endRI hx hb hr hlocks hQ hS dX3_pick_84 (by rw [pickI, show k = 10 by omega])
      · refine lv_iload hx hb dX3_pick_24 (lv_at hl 5 rfl) ?_
        refine lv_iload hx hb dX3_pick_26 (lv_at hl 8 rfl) ?_
        refine goRI hP hS (va_runSN (As := [.int (thr ne bu gu), .int (nI k)]) (rest := []) ⟨hx, hb, hml, hown, hts⟩ (kX6_holds l D cI cJ (thr ne bu gu) (nI k)) ⟨va_cnB (host := "FireNets") 2 hts gX3_pick_X6_holds_n53 rfl rfl rfl (hN _ nwm_RX3_53) hini_RX6 kdX6_holds.2 ⟨Nat.le_of_ble_eq_true rfl, Nat.le_of_ble_eq_true rfl⟩, hst_X6_holds, trivial⟩ (preR hK hN hP [] rfl) rfl rfl hl.1 rfl (lv_room (Nat.le_of_ble_eq_true rfl)) dX3_pick_28 ⟨Nat.zero_le _, Nat.zero_le _⟩) (fun H locs hP hS => ?_)
        refine r_zeq (tgt := 76) hx hb dX3_pick_31 (by decide) (fun c_31 => ?_) (fun c_31 => ?_)
        · refine r_iinc (lv' := [(8, .int (nI (k + 1))), (0, .ref nt), (1, .int ru), (2, .int bu), (3, .int gu), (4, .int mo), (5, .int (thr ne bu gu)), (6, .int ((pickA wo ne pr ru bu gu (thr ne bu gu) mo k).1)), (7, .int ((pickA wo ne pr ru bu gu (thr ne bu gu) mo k).2))]) hx hb 8 k dX3_pick_76 hl rfl (by decide) rfl (fun ls hl => ?_)
          refine lv_goto (tgt := 17) hx hb dX3_pick_79 (by decide) ?_
          exact ih_lp (k + 1) (by omega) (by omega) ls _ _ (by rw [pickA, pickS, if_neg (fun h => c_31 h.1)]; exact lv_sub hl [1, 2, 3, 4, 5, 6, 7, 8, 0] rfl) hP hS
        · refine lv_aload_n hx hb dX3_pick_34 rfl (lv_at hl 0 rfl) ?_
          refine va_get (D := D) (ci := 3) (v := .ref ap) (C := RX3) (T := TX3) (N := 6) hx hb hts hi_3 hown hK hP 0 rfl rfl 3 (by decide) hf_15 (fun _ h9 => h9) rfl dX3_pick_35 ?_
          refine lv_iload hx hb dX3_pick_38 (lv_at hl 8 rfl) ?_
          refine r_iald hx hb hK hP 2 rfl k rfl (by omega) (by omega) dX3_pick_40 ?_
          refine lv_iload hx hb dX3_pick_41 (lv_at hl 4 rfl) ?_
          refine lv_icmp_le (tgt := 49) hx hb dX3_pick_43 (by decide) (fun c_43 => ?_) (fun c_43 => ?_)
          · refine lv_aload_n hx hb dX3_pick_49 rfl (lv_at hl 0 rfl) ?_
            refine lv_iload hx hb dX3_pick_50 (lv_at hl 8 rfl) ?_
            refine lv_iload_n hx hb dX3_pick_52 rfl (lv_at hl 1 rfl) ?_
            refine lv_iload_n hx hb dX3_pick_53 rfl (lv_at hl 2 rfl) ?_
            refine lv_iload_n hx hb dX3_pick_54 rfl (lv_at hl 3 rfl) ?_
            refine lv_ior hx hb dX3_pick_55 ?_
            refine goRI hP hS (va_runV (As := [.int (nI k), .int ru, .int (bu ||| gu)]) (rest := []) ⟨hx, hb, hml, hown, hts⟩ (kX3_rankOf l D cI cJ nt aw ap an ae nn mm wo ne k ru (bu ||| gu) (by omega)) (cwV 3 hts gX3_pick_X3_rankOf rfl rfl rfl kdX3_rankOf ⟨Nat.le_of_ble_eq_true rfl, Nat.le_of_ble_eq_true rfl⟩) (preRV hK hN hP 0 (ci := 3) rfl rfl rfl [0, 1, 3] rfl) rfl rfl hl.1 rfl (lv_room (Nat.le_of_ble_eq_true rfl)) dX3_pick_56 ⟨Nat.zero_le _, Nat.zero_le _⟩) (fun H locs hP hS => ?_)
            refine lv_istore (lv' := [(9, .int (rankI wo ne ru (bu ||| gu) k)), (0, .ref nt), (1, .int ru), (2, .int bu), (3, .int gu), (4, .int mo), (5, .int (thr ne bu gu)), (6, .int ((pickA wo ne pr ru bu gu (thr ne bu gu) mo k).1)), (7, .int ((pickA wo ne pr ru bu gu (thr ne bu gu) mo k).2)), (8, .int (nI k))]) hx hb dX3_pick_59 hl (by decide) rfl (fun ls hl => ?_)
            refine lv_iload hx hb dX3_pick_61 (lv_at hl 0 rfl) ?_
            refine lv_iload hx hb dX3_pick_63 (lv_at hl 8 rfl) ?_
            refine lv_icmp_le (tgt := 76) hx hb dX3_pick_65 (by decide) (fun c_65 => ?_) (fun c_65 => ?_)
            · refine r_iinc (lv' := [(8, .int (nI (k + 1))), (9, .int (rankI wo ne ru (bu ||| gu) k)), (0, .ref nt), (1, .int ru), (2, .int bu), (3, .int gu), (4, .int mo), (5, .int (thr ne bu gu)), (6, .int ((pickA wo ne pr ru bu gu (thr ne bu gu) mo k).1)), (7, .int ((pickA wo ne pr ru bu gu (thr ne bu gu) mo k).2))]) hx hb 9 k dX3_pick_76 hl rfl (by decide) rfl (fun ls hl => ?_)
              refine lv_goto (tgt := 17) hx hb dX3_pick_79 (by decide) ?_
              exact ih_lp (k + 1) (by omega) (by omega) ls _ _ (by rw [pickA, pickS, if_neg (fun h => i_nlt c_65 h.2.2)]; exact lv_sub hl [2, 3, 4, 5, 6, 7, 8, 9, 0] rfl) hP hS
            · refine lv_iload hx hb dX3_pick_68 (lv_at hl 9 rfl) ?_
              refine lv_istore (lv' := [(6, .int (nI k)), (9, .int (rankI wo ne ru (bu ||| gu) k)), (0, .ref nt), (1, .int ru), (2, .int bu), (3, .int gu), (4, .int mo), (5, .int (thr ne bu gu)), (7, .int ((pickA wo ne pr ru bu gu (thr ne bu gu) mo k).2)), (8, .int (nI k))]) hx hb dX3_pick_70 hl (by decide) rfl (fun ls hl => ?_)
              refine lv_iload hx hb dX3_pick_72 (lv_at hl 1 rfl) ?_
              refine lv_istore (lv' := [(7, .int (rankI wo ne ru (bu ||| gu) k)), (6, .int (nI k)), (9, .int (rankI wo ne ru (bu ||| gu) k)), (0, .ref nt), (1, .int ru), (2, .int bu), (3, .int gu), (4, .int mo), (5, .int (thr ne bu gu)), (8, .int (nI k))]) hx hb dX3_pick_74 hl (by decide) rfl (fun ls hl => ?_)
              refine r_iinc (lv' := [(8, .int (nI (k + 1))), (7, .int (rankI wo ne ru (bu ||| gu) k)), (6, .int (nI k)), (9, .int (rankI wo ne ru (bu ||| gu) k)), (0, .ref nt), (1, .int ru), (2, .int bu), (3, .int gu), (4, .int mo), (5, .int (thr ne bu gu))]) hx hb 9 k dX3_pick_76 hl rfl (by decide) rfl (fun ls hl => ?_)
              refine lv_goto (tgt := 17) hx hb dX3_pick_79 (by decide) ?_
              exact ih_lp (k + 1) (by omega) (by omega) ls _ _ (by rw [pickA, pickS, if_pos ⟨c_31, c_43, i_le c_65⟩]; exact lv_sub hl [4, 5, 6, 7, 8, 9, 2, 1, 0] rfl) hP hS
          · refine lv_goto (tgt := 76) hx hb dX3_pick_46 (by decide) ?_
            refine r_iinc (lv' := [(8, .int (nI (k + 1))), (0, .ref nt), (1, .int ru), (2, .int bu), (3, .int gu), (4, .int mo), (5, .int (thr ne bu gu)), (6, .int ((pickA wo ne pr ru bu gu (thr ne bu gu) mo k).1)), (7, .int ((pickA wo ne pr ru bu gu (thr ne bu gu) mo k).2))]) hx hb 8 k dX3_pick_76 hl rfl (by decide) rfl (fun ls hl => ?_)
            refine lv_goto (tgt := 17) hx hb dX3_pick_79 (by decide) ?_
            exact ih_lp (k + 1) (by omega) (by omega) ls _ _ (by rw [pickA, pickS, if_neg (fun h => c_43 h.2.1)]; exact lv_sub hl [1, 2, 3, 4, 5, 6, 7, 8, 0] rfl) hP hS
  exact lp _ 0 (by omega) (Nat.lt_succ_self _) ls _ _ (lv_sub hl [4, 5, 6, 7, 8, 3, 2, 1, 0] rfl) hP hS
def rmX6_swap : Room := { frames := 0, cells := 0, slots := 0, locals := 0 }
theorem kdX6_swap : yX6_swap.cls = RX6 ∧ yX6_swap.cls ≠ "java/lang/invoke/MethodHandle" ∧ yX6_swap.cls ≠ "java/lang/invoke/VarHandle" ∧ (parseMethodDescriptor yX6_swap.desc).map (fun d => d.parameters.length) = some 3 := ⟨rfl, by decide +kernel, by decide +kernel, by decide +kernel⟩
set_option maxRecDepth 100000 in
set_option maxHeartbeats 8000000 in
theorem kX6_swap (l : Launch) (D : va_G) (cI cJ : ClassId) (ar N k : Nat) (f : Row) (v : Int32) (hk : k < N) (hN : N < 2 ^ 31) : Met l yX6_swap wsX6_swap rmX6_swap (mPre D cI cJ [.ref ar, .int (nI k), .int v] [(ar, .inl (cI, N, .inl f))]) (mQi D (fun (r : Int32) (_ : Unit) => r = (f k)) (fun (_ : Unit) => [(ar, .inl (cI, N, .inl (upd f k v)))]) [(ar, .inl (cI, N, .inl f))]) 0 0 (mA [(ar, .inl (cI, N, .inl f))]) := by
  refine startM (cc := cX6_swap) (maxL := 4) (ret := (some .int)) (by decide) rfl (Nat.le_of_ble_eq_true rfl) ?_
  intro p e s m args below meth c ls Q A hA hQ hx hb hr hlocks hml hown hts hK hN hP hD hl hin
  have hown : s.vm.findClass RX6 = some m.cls := hown
  have hS : va_S A s.heap s.heap [] := va_S.rf
  have hl : lv_has ls 4 [(0, .ref ar), (1, .int (nI k)), (2, .int v)] := hl
  have hP : va_P D vwCl [(ar, .inl (cI, N, .inl f))] s.heap := hP
  refine lv_iload_n hx hb dX6_swap_0 rfl (lv_at hl 1 rfl) ?_
  refine lv_if_lt (tgt := 10) hx hb dX6_swap_1 (by decide) (fun c_1 => ?_) (fun c_1 => ?_)
  · exact absurd c_1 (nI_pos (by omega))
  · refine lv_iload_n hx hb dX6_swap_4 rfl (lv_at hl 1 rfl) ?_
    refine lv_aload_n hx hb dX6_swap_5 rfl (lv_at hl 0 rfl) ?_
    refine va_alen (v := nI N) hx hb hK hP 0 0 rfl rfl rfl dX6_swap_6 ?_
    refine r_icmp_lt (tgt := 12) hx hb k N dX6_swap_7 (by decide) rfl rfl (by omega) (by omega) (fun c_7 => ?_) (fun c_7 => ?_)
    · refine lv_aload_n hx hb dX6_swap_12 rfl (lv_at hl 0 rfl) ?_
      refine lv_iload_n hx hb dX6_swap_13 rfl (lv_at hl 1 rfl) ?_
      refine r_iald hx hb hK hP 0 rfl k rfl (by omega) (by omega) dX6_swap_14 ?_
      refine lv_istore_n (lv' := [(3, .int (f k)), (0, .ref ar), (1, .int (nI k)), (2, .int v)]) hx hb dX6_swap_15 rfl hl (by decide) rfl (fun ls hl => ?_)
      refine lv_aload_n hx hb dX6_swap_16 rfl (lv_at hl 1 rfl) ?_
      refine lv_iload_n hx hb dX6_swap_17 rfl (lv_at hl 2 rfl) ?_
      refine lv_iload_n hx hb dX6_swap_18 rfl (lv_at hl 3 rfl) ?_
      refine r_iast hx hb hK hP hD hS 0 rfl k rfl (by omega) (by omega) dX6_swap_19 (fun H locs hP hD hS => ?_)
      have hP : va_P D vwCl [(ar, .inl (cI, N, .inl (upd f k v)))] H := hP
      have hD : va_D A [(ar, .inl (cI, N, .inl (upd f k v)))] := hD
      refine lv_iload_n hx hb dX6_swap_20 rfl (lv_at hl 0 rfl) ?_
      exact endMI () hx hb hr hlocks hA hQ hS hP dX6_swap_21 rfl rfl
    · exact absurd c_7 (by omega)
end
