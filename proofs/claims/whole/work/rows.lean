section
-- ===== PART A: goes FIRST, ahead of the names: the tables' words, and 'selects' of the private methods out of them =====
/-- a private method of a class that the tables say can be made, by its rows of tables_1 -/
def lw_okq (q : MethodName × Nat) : Prop := (q.1.cls ≠ "java/lang/invoke/MethodHandle" ∧ q.1.cls ≠ "java/lang/invoke/VarHandle") ∧ Cond.instantiable q.1.cls q.2 ∈ tables_1 ∧ Cond.privateMethod q.1 ∈ tables_1 ∧ Cond.instanceMethod q.1 ∈ tables_1
theorem lw_p0 : lw_okq (⟨"HillWays", "refresh", "()V"⟩, 9) := ⟨⟨by decide +kernel, by decide +kernel⟩, List.mem_of_getElem? (i := 13) (by decide +kernel), List.mem_of_getElem? (i := 163) (by decide +kernel), List.mem_of_getElem? (i := 164) (by decide +kernel)⟩
theorem lw_p1 : lw_okq (⟨"HillWays$Links", "clear", "()V"⟩, 6) := ⟨⟨by decide +kernel, by decide +kernel⟩, List.mem_of_getElem? (i := 70) (by decide +kernel), List.mem_of_getElem? (i := 178) (by decide +kernel), List.mem_of_getElem? (i := 179) (by decide +kernel)⟩
theorem lw_p2 : lw_okq (⟨"HillWays$Links", "readRow", "([III)V"⟩, 6) := ⟨⟨by decide +kernel, by decide +kernel⟩, List.mem_of_getElem? (i := 70) (by decide +kernel), List.mem_of_getElem? (i := 182) (by decide +kernel), List.mem_of_getElem? (i := 183) (by decide +kernel)⟩
theorem lw_p3 : lw_okq (⟨"HillWays$Links", "join", "(II)V"⟩, 6) := ⟨⟨by decide +kernel, by decide +kernel⟩, List.mem_of_getElem? (i := 70) (by decide +kernel), List.mem_of_getElem? (i := 186) (by decide +kernel), List.mem_of_getElem? (i := 187) (by decide +kernel)⟩
theorem lw_p4 : lw_okq (⟨"HillWays$Names", "vote", "([IIILHillWays$Order;)V"⟩, 3) := ⟨⟨by decide +kernel, by decide +kernel⟩, List.mem_of_getElem? (i := 128) (by decide +kernel), List.mem_of_getElem? (i := 224) (by decide +kernel), List.mem_of_getElem? (i := 225) (by decide +kernel)⟩
theorem lw_p5 : lw_okq (⟨"HillWays$Names", "nameOf", "(III)I"⟩, 3) := ⟨⟨by decide +kernel, by decide +kernel⟩, List.mem_of_getElem? (i := 128) (by decide +kernel), List.mem_of_getElem? (i := 233) (by decide +kernel), List.mem_of_getElem? (i := 234) (by decide +kernel)⟩
theorem lw_p6 : lw_okq (⟨"HillWays$Rows", "settle", "(I)Z"⟩, 3) := ⟨⟨by decide +kernel, by decide +kernel⟩, List.mem_of_getElem? (i := 147) (by decide +kernel), List.mem_of_getElem? (i := 241) (by decide +kernel), List.mem_of_getElem? (i := 242) (by decide +kernel)⟩
theorem lw_p7 : lw_okq (⟨"HillWays$Rows", "reachedByOneMore", "(LHillWays$Names;I)I"⟩, 3) := ⟨⟨by decide +kernel, by decide +kernel⟩, List.mem_of_getElem? (i := 147) (by decide +kernel), List.mem_of_getElem? (i := 246) (by decide +kernel), List.mem_of_getElem? (i := 247) (by decide +kernel)⟩
theorem lw_p8 : lw_okq (⟨"HillWays$Names", "lesserVotes", "(II)I"⟩, 3) := ⟨⟨by decide +kernel, by decide +kernel⟩, List.mem_of_getElem? (i := 128) (by decide +kernel), List.mem_of_getElem? (i := 386) (by decide +kernel), List.mem_of_getElem? (i := 387) (by decide +kernel)⟩
theorem lw_p9 : lw_okq (⟨"HillWays", "waysWithValley", "()I"⟩, 9) := ⟨⟨by decide +kernel, by decide +kernel⟩, List.mem_of_getElem? (i := 13) (by decide +kernel), List.mem_of_getElem? (i := 427) (by decide +kernel), List.mem_of_getElem? (i := 428) (by decide +kernel)⟩
theorem lw_p10 : lw_okq (⟨"HillWays", "toldLinks", "(Z)I"⟩, 9) := ⟨⟨by decide +kernel, by decide +kernel⟩, List.mem_of_getElem? (i := 13) (by decide +kernel), List.mem_of_getElem? (i := 431) (by decide +kernel), List.mem_of_getElem? (i := 432) (by decide +kernel)⟩
theorem lw_p11 : lw_okq (⟨"HillWays", "digestOfNets", "(J)J"⟩, 9) := ⟨⟨by decide +kernel, by decide +kernel⟩, List.mem_of_getElem? (i := 13) (by decide +kernel), List.mem_of_getElem? (i := 440) (by decide +kernel), List.mem_of_getElem? (i := 441) (by decide +kernel)⟩
theorem lw_p12 : lw_okq (⟨"HillWays", "digestOfPairs", "(J)J"⟩, 9) := ⟨⟨by decide +kernel, by decide +kernel⟩, List.mem_of_getElem? (i := 13) (by decide +kernel), List.mem_of_getElem? (i := 448) (by decide +kernel), List.mem_of_getElem? (i := 449) (by decide +kernel)⟩
theorem lw_p13 : lw_okq (⟨"HillWays", "digestOfTheRest", "(J)J"⟩, 9) := ⟨⟨by decide +kernel, by decide +kernel⟩, List.mem_of_getElem? (i := 13) (by decide +kernel), List.mem_of_getElem? (i := 454) (by decide +kernel), List.mem_of_getElem? (i := 455) (by decide +kernel)⟩
theorem lw_p14 : lw_okq (⟨"HillWaysModel", "rightLetters", "()I"⟩, 25) := ⟨⟨by decide +kernel, by decide +kernel⟩, List.mem_of_getElem? (i := 465) (by decide +kernel), List.mem_of_getElem? (i := 562) (by decide +kernel), List.mem_of_getElem? (i := 563) (by decide +kernel)⟩
theorem lw_p15 : lw_okq (⟨"HillWaysModel", "isRight", "(I)Z"⟩, 25) := ⟨⟨by decide +kernel, by decide +kernel⟩, List.mem_of_getElem? (i := 465) (by decide +kernel), List.mem_of_getElem? (i := 566) (by decide +kernel), List.mem_of_getElem? (i := 567) (by decide +kernel)⟩
def lw_privs_1 : List (MethodName × Nat) := [(⟨"HillWays", "refresh", "()V"⟩, 9), (⟨"HillWays$Links", "clear", "()V"⟩, 6), (⟨"HillWays$Links", "readRow", "([III)V"⟩, 6), (⟨"HillWays$Links", "join", "(II)V"⟩, 6), (⟨"HillWays$Names", "vote", "([IIILHillWays$Order;)V"⟩, 3), (⟨"HillWays$Names", "nameOf", "(III)I"⟩, 3), (⟨"HillWays$Rows", "settle", "(I)Z"⟩, 3), (⟨"HillWays$Rows", "reachedByOneMore", "(LHillWays$Names;I)I"⟩, 3), (⟨"HillWays$Names", "lesserVotes", "(II)I"⟩, 3), (⟨"HillWays", "waysWithValley", "()I"⟩, 9), (⟨"HillWays", "toldLinks", "(Z)I"⟩, 9), (⟨"HillWays", "digestOfNets", "(J)J"⟩, 9), (⟨"HillWays", "digestOfPairs", "(J)J"⟩, 9), (⟨"HillWays", "digestOfTheRest", "(J)J"⟩, 9), (⟨"HillWaysModel", "rightLetters", "()I"⟩, 25), (⟨"HillWaysModel", "isRight", "(I)Z"⟩, 25)]
theorem lw_r1 : ∀ q ∈ lw_privs_1, lw_okq q := List.forall_mem_cons.mpr ⟨lw_p0, List.forall_mem_cons.mpr ⟨lw_p1, List.forall_mem_cons.mpr ⟨lw_p2, List.forall_mem_cons.mpr ⟨lw_p3, List.forall_mem_cons.mpr ⟨lw_p4, List.forall_mem_cons.mpr ⟨lw_p5, List.forall_mem_cons.mpr ⟨lw_p6, List.forall_mem_cons.mpr ⟨lw_p7, List.forall_mem_cons.mpr ⟨lw_p8, List.forall_mem_cons.mpr ⟨lw_p9, List.forall_mem_cons.mpr ⟨lw_p10, List.forall_mem_cons.mpr ⟨lw_p11, List.forall_mem_cons.mpr ⟨lw_p12, List.forall_mem_cons.mpr ⟨lw_p13, List.forall_mem_cons.mpr ⟨lw_p14, List.forall_mem_cons.mpr ⟨lw_p15, fun _ h => absurd h List.not_mem_nil⟩⟩⟩⟩⟩⟩⟩⟩⟩⟩⟩⟩⟩⟩⟩⟩
theorem lw_p16 : lw_okq (⟨"HillWaysModel", "isWayThere", "()Z"⟩, 25) := ⟨⟨by decide +kernel, by decide +kernel⟩, List.mem_of_getElem? (i := 465) (by decide +kernel), List.mem_of_getElem? (i := 574) (by decide +kernel), List.mem_of_getElem? (i := 575) (by decide +kernel)⟩
theorem lw_p17 : lw_okq (⟨"HillWaysModel", "netNow", "(II)I"⟩, 25) := ⟨⟨by decide +kernel, by decide +kernel⟩, List.mem_of_getElem? (i := 465) (by decide +kernel), List.mem_of_getElem? (i := 603) (by decide +kernel), List.mem_of_getElem? (i := 604) (by decide +kernel)⟩
theorem lw_p18 : lw_okq (⟨"HillWaysModel", "lay", "()V"⟩, 25) := ⟨⟨by decide +kernel, by decide +kernel⟩, List.mem_of_getElem? (i := 465) (by decide +kernel), List.mem_of_getElem? (i := 607) (by decide +kernel), List.mem_of_getElem? (i := 608) (by decide +kernel)⟩
theorem lw_p19 : lw_okq (⟨"HillWaysModel", "layWays", "()V"⟩, 25) := ⟨⟨by decide +kernel, by decide +kernel⟩, List.mem_of_getElem? (i := 465) (by decide +kernel), List.mem_of_getElem? (i := 611) (by decide +kernel), List.mem_of_getElem? (i := 612) (by decide +kernel)⟩
theorem lw_p20 : lw_okq (⟨"HillWaysModel", "layTwo", "(II)V"⟩, 25) := ⟨⟨by decide +kernel, by decide +kernel⟩, List.mem_of_getElem? (i := 465) (by decide +kernel), List.mem_of_getElem? (i := 618) (by decide +kernel), List.mem_of_getElem? (i := 619) (by decide +kernel)⟩
theorem lw_p21 : lw_okq (⟨"HillWaysModel", "layRanks", "()V"⟩, 25) := ⟨⟨by decide +kernel, by decide +kernel⟩, List.mem_of_getElem? (i := 465) (by decide +kernel), List.mem_of_getElem? (i := 622) (by decide +kernel), List.mem_of_getElem? (i := 623) (by decide +kernel)⟩
theorem lw_p22 : lw_okq (⟨"HillWaysModel", "weightOf", "(I)I"⟩, 25) := ⟨⟨by decide +kernel, by decide +kernel⟩, List.mem_of_getElem? (i := 465) (by decide +kernel), List.mem_of_getElem? (i := 629) (by decide +kernel), List.mem_of_getElem? (i := 630) (by decide +kernel)⟩
theorem lw_p23 : lw_okq (⟨"HillWaysModel", "layTop", "()V"⟩, 25) := ⟨⟨by decide +kernel, by decide +kernel⟩, List.mem_of_getElem? (i := 465) (by decide +kernel), List.mem_of_getElem? (i := 633) (by decide +kernel), List.mem_of_getElem? (i := 634) (by decide +kernel)⟩
theorem lw_p24 : lw_okq (⟨"HillWaysModel", "areAllLinked", "(I)Z"⟩, 25) := ⟨⟨by decide +kernel, by decide +kernel⟩, List.mem_of_getElem? (i := 465) (by decide +kernel), List.mem_of_getElem? (i := 637) (by decide +kernel), List.mem_of_getElem? (i := 638) (by decide +kernel)⟩
theorem lw_p25 : lw_okq (⟨"HillWaysModel", "degrees", "(I)I"⟩, 25) := ⟨⟨by decide +kernel, by decide +kernel⟩, List.mem_of_getElem? (i := 465) (by decide +kernel), List.mem_of_getElem? (i := 641) (by decide +kernel), List.mem_of_getElem? (i := 642) (by decide +kernel)⟩
theorem lw_p26 : lw_okq (⟨"HillWaysModel", "layVotes", "()V"⟩, 25) := ⟨⟨by decide +kernel, by decide +kernel⟩, List.mem_of_getElem? (i := 465) (by decide +kernel), List.mem_of_getElem? (i := 645) (by decide +kernel), List.mem_of_getElem? (i := 646) (by decide +kernel)⟩
theorem lw_p27 : lw_okq (⟨"HillWaysModel", "hillOf", "(I)I"⟩, 25) := ⟨⟨by decide +kernel, by decide +kernel⟩, List.mem_of_getElem? (i := 465) (by decide +kernel), List.mem_of_getElem? (i := 649) (by decide +kernel), List.mem_of_getElem? (i := 650) (by decide +kernel)⟩
theorem lw_p28 : lw_okq (⟨"HillWaysModel", "areTops", "(II)Z"⟩, 25) := ⟨⟨by decide +kernel, by decide +kernel⟩, List.mem_of_getElem? (i := 465) (by decide +kernel), List.mem_of_getElem? (i := 653) (by decide +kernel), List.mem_of_getElem? (i := 654) (by decide +kernel)⟩
theorem lw_p29 : lw_okq (⟨"HillWaysModel", "nameBy", "(II)I"⟩, 25) := ⟨⟨by decide +kernel, by decide +kernel⟩, List.mem_of_getElem? (i := 465) (by decide +kernel), List.mem_of_getElem? (i := 657) (by decide +kernel), List.mem_of_getElem? (i := 658) (by decide +kernel)⟩
theorem lw_p30 : lw_okq (⟨"HillWaysModel", "coneOf", "(I)I"⟩, 25) := ⟨⟨by decide +kernel, by decide +kernel⟩, List.mem_of_getElem? (i := 465) (by decide +kernel), List.mem_of_getElem? (i := 661) (by decide +kernel), List.mem_of_getElem? (i := 662) (by decide +kernel)⟩
theorem lw_p31 : lw_okq (⟨"HillWaysModel", "rankNow", "(I)I"⟩, 25) := ⟨⟨by decide +kernel, by decide +kernel⟩, List.mem_of_getElem? (i := 465) (by decide +kernel), List.mem_of_getElem? (i := 669) (by decide +kernel), List.mem_of_getElem? (i := 670) (by decide +kernel)⟩
def lw_privs_2 : List (MethodName × Nat) := [(⟨"HillWaysModel", "isWayThere", "()Z"⟩, 25), (⟨"HillWaysModel", "netNow", "(II)I"⟩, 25), (⟨"HillWaysModel", "lay", "()V"⟩, 25), (⟨"HillWaysModel", "layWays", "()V"⟩, 25), (⟨"HillWaysModel", "layTwo", "(II)V"⟩, 25), (⟨"HillWaysModel", "layRanks", "()V"⟩, 25), (⟨"HillWaysModel", "weightOf", "(I)I"⟩, 25), (⟨"HillWaysModel", "layTop", "()V"⟩, 25), (⟨"HillWaysModel", "areAllLinked", "(I)Z"⟩, 25), (⟨"HillWaysModel", "degrees", "(I)I"⟩, 25), (⟨"HillWaysModel", "layVotes", "()V"⟩, 25), (⟨"HillWaysModel", "hillOf", "(I)I"⟩, 25), (⟨"HillWaysModel", "areTops", "(II)Z"⟩, 25), (⟨"HillWaysModel", "nameBy", "(II)I"⟩, 25), (⟨"HillWaysModel", "coneOf", "(I)I"⟩, 25), (⟨"HillWaysModel", "rankNow", "(I)I"⟩, 25)]
theorem lw_r2 : ∀ q ∈ lw_privs_2, lw_okq q := List.forall_mem_cons.mpr ⟨lw_p16, List.forall_mem_cons.mpr ⟨lw_p17, List.forall_mem_cons.mpr ⟨lw_p18, List.forall_mem_cons.mpr ⟨lw_p19, List.forall_mem_cons.mpr ⟨lw_p20, List.forall_mem_cons.mpr ⟨lw_p21, List.forall_mem_cons.mpr ⟨lw_p22, List.forall_mem_cons.mpr ⟨lw_p23, List.forall_mem_cons.mpr ⟨lw_p24, List.forall_mem_cons.mpr ⟨lw_p25, List.forall_mem_cons.mpr ⟨lw_p26, List.forall_mem_cons.mpr ⟨lw_p27, List.forall_mem_cons.mpr ⟨lw_p28, List.forall_mem_cons.mpr ⟨lw_p29, List.forall_mem_cons.mpr ⟨lw_p30, List.forall_mem_cons.mpr ⟨lw_p31, fun _ h => absurd h List.not_mem_nil⟩⟩⟩⟩⟩⟩⟩⟩⟩⟩⟩⟩⟩⟩⟩⟩
theorem lw_p32 : lw_okq (⟨"HillWaysModel", "topNow", "()I"⟩, 25) := ⟨⟨by decide +kernel, by decide +kernel⟩, List.mem_of_getElem? (i := 465) (by decide +kernel), List.mem_of_getElem? (i := 677) (by decide +kernel), List.mem_of_getElem? (i := 678) (by decide +kernel)⟩
theorem lw_p33 : lw_okq (⟨"HillWaysModel", "linkNow", "(III)I"⟩, 25) := ⟨⟨by decide +kernel, by decide +kernel⟩, List.mem_of_getElem? (i := 465) (by decide +kernel), List.mem_of_getElem? (i := 685) (by decide +kernel), List.mem_of_getElem? (i := 686) (by decide +kernel)⟩
theorem lw_p34 : lw_okq (⟨"HillWaysModel", "contradictedNow", "(I)I"⟩, 25) := ⟨⟨by decide +kernel, by decide +kernel⟩, List.mem_of_getElem? (i := 465) (by decide +kernel), List.mem_of_getElem? (i := 693) (by decide +kernel), List.mem_of_getElem? (i := 694) (by decide +kernel)⟩
theorem lw_p35 : lw_okq (⟨"HillWaysModel", "lesserOf", "(I)I"⟩, 25) := ⟨⟨by decide +kernel, by decide +kernel⟩, List.mem_of_getElem? (i := 465) (by decide +kernel), List.mem_of_getElem? (i := 697) (by decide +kernel), List.mem_of_getElem? (i := 698) (by decide +kernel)⟩
theorem lw_p36 : lw_okq (⟨"HillWaysModel", "valleyOf", "()I"⟩, 25) := ⟨⟨by decide +kernel, by decide +kernel⟩, List.mem_of_getElem? (i := 465) (by decide +kernel), List.mem_of_getElem? (i := 705) (by decide +kernel), List.mem_of_getElem? (i := 706) (by decide +kernel)⟩
theorem lw_p37 : lw_okq (⟨"HillWaysModel", "seenNow", "(II)I"⟩, 25) := ⟨⟨by decide +kernel, by decide +kernel⟩, List.mem_of_getElem? (i := 465) (by decide +kernel), List.mem_of_getElem? (i := 713) (by decide +kernel), List.mem_of_getElem? (i := 714) (by decide +kernel)⟩
theorem lw_p38 : lw_okq (⟨"HillWaysModel", "valleyOfWay", "(I)I"⟩, 25) := ⟨⟨by decide +kernel, by decide +kernel⟩, List.mem_of_getElem? (i := 465) (by decide +kernel), List.mem_of_getElem? (i := 717) (by decide +kernel), List.mem_of_getElem? (i := 718) (by decide +kernel)⟩
theorem lw_p39 : lw_okq (⟨"HillWaysModel", "nearNow", "(III)I"⟩, 25) := ⟨⟨by decide +kernel, by decide +kernel⟩, List.mem_of_getElem? (i := 465) (by decide +kernel), List.mem_of_getElem? (i := 725) (by decide +kernel), List.mem_of_getElem? (i := 726) (by decide +kernel)⟩
theorem lw_p40 : lw_okq (⟨"HillWaysModel", "layFar", "(I)V"⟩, 25) := ⟨⟨by decide +kernel, by decide +kernel⟩, List.mem_of_getElem? (i := 465) (by decide +kernel), List.mem_of_getElem? (i := 729) (by decide +kernel), List.mem_of_getElem? (i := 730) (by decide +kernel)⟩
theorem lw_p41 : lw_okq (⟨"HillWaysModel", "howMany", "(I)I"⟩, 25) := ⟨⟨by decide +kernel, by decide +kernel⟩, List.mem_of_getElem? (i := 465) (by decide +kernel), List.mem_of_getElem? (i := 740) (by decide +kernel), List.mem_of_getElem? (i := 741) (by decide +kernel)⟩
theorem lw_p42 : lw_okq (⟨"HillWaysModel", "withValley", "()I"⟩, 25) := ⟨⟨by decide +kernel, by decide +kernel⟩, List.mem_of_getElem? (i := 465) (by decide +kernel), List.mem_of_getElem? (i := 744) (by decide +kernel), List.mem_of_getElem? (i := 745) (by decide +kernel)⟩
theorem lw_p43 : lw_okq (⟨"HillWaysModel", "linksOf", "(I)I"⟩, 25) := ⟨⟨by decide +kernel, by decide +kernel⟩, List.mem_of_getElem? (i := 465) (by decide +kernel), List.mem_of_getElem? (i := 748) (by decide +kernel), List.mem_of_getElem? (i := 749) (by decide +kernel)⟩
theorem lw_p44 : lw_okq (⟨"HillWaysModel", "mixNets", "()V"⟩, 25) := ⟨⟨by decide +kernel, by decide +kernel⟩, List.mem_of_getElem? (i := 465) (by decide +kernel), List.mem_of_getElem? (i := 757) (by decide +kernel), List.mem_of_getElem? (i := 758) (by decide +kernel)⟩
theorem lw_p45 : lw_okq (⟨"HillWaysModel", "mix", "(J)V"⟩, 25) := ⟨⟨by decide +kernel, by decide +kernel⟩, List.mem_of_getElem? (i := 465) (by decide +kernel), List.mem_of_getElem? (i := 761) (by decide +kernel), List.mem_of_getElem? (i := 762) (by decide +kernel)⟩
def lw_privs_3 : List (MethodName × Nat) := [(⟨"HillWaysModel", "topNow", "()I"⟩, 25), (⟨"HillWaysModel", "linkNow", "(III)I"⟩, 25), (⟨"HillWaysModel", "contradictedNow", "(I)I"⟩, 25), (⟨"HillWaysModel", "lesserOf", "(I)I"⟩, 25), (⟨"HillWaysModel", "valleyOf", "()I"⟩, 25), (⟨"HillWaysModel", "seenNow", "(II)I"⟩, 25), (⟨"HillWaysModel", "valleyOfWay", "(I)I"⟩, 25), (⟨"HillWaysModel", "nearNow", "(III)I"⟩, 25), (⟨"HillWaysModel", "layFar", "(I)V"⟩, 25), (⟨"HillWaysModel", "howMany", "(I)I"⟩, 25), (⟨"HillWaysModel", "withValley", "()I"⟩, 25), (⟨"HillWaysModel", "linksOf", "(I)I"⟩, 25), (⟨"HillWaysModel", "mixNets", "()V"⟩, 25), (⟨"HillWaysModel", "mix", "(J)V"⟩, 25)]
theorem lw_r3 : ∀ q ∈ lw_privs_3, lw_okq q := List.forall_mem_cons.mpr ⟨lw_p32, List.forall_mem_cons.mpr ⟨lw_p33, List.forall_mem_cons.mpr ⟨lw_p34, List.forall_mem_cons.mpr ⟨lw_p35, List.forall_mem_cons.mpr ⟨lw_p36, List.forall_mem_cons.mpr ⟨lw_p37, List.forall_mem_cons.mpr ⟨lw_p38, List.forall_mem_cons.mpr ⟨lw_p39, List.forall_mem_cons.mpr ⟨lw_p40, List.forall_mem_cons.mpr ⟨lw_p41, List.forall_mem_cons.mpr ⟨lw_p42, List.forall_mem_cons.mpr ⟨lw_p43, List.forall_mem_cons.mpr ⟨lw_p44, List.forall_mem_cons.mpr ⟨lw_p45, fun _ h => absurd h List.not_mem_nil⟩⟩⟩⟩⟩⟩⟩⟩⟩⟩⟩⟩⟩⟩
def lw_privs : List (MethodName × Nat) := lw_privs_1 ++ (lw_privs_2 ++ (lw_privs_3))
def lw_tbl : List Cond := k2_sels lw_privs ++ tables_1
theorem lw_privs_ok : ∀ q ∈ lw_privs, lw_okq q := by
  show ∀ q ∈ lw_privs_1 ++ (lw_privs_2 ++ (lw_privs_3)), lw_okq q
  exact List.forall_mem_append.mpr ⟨lw_r1, List.forall_mem_append.mpr ⟨lw_r2, lw_r3⟩⟩
def RX0 : String := "HillWays$Bits"
def TX0 : u_T := fun k => match k with
  | _ => ("", "", "", false)
def tyX0 : Nat → FieldType := fun k => match k with
  | _ => .int
abbrev wsX00 : List Cond := u_ws RX0 TX0 0
theorem nmX0 : ∀ a, a < 0 → ∀ b, b < 0 → a ≠ b → (TX0 a).2.1 ≠ (TX0 b).2.1 := by decide +kernel
theorem tyX0_ok : ∀ k, k < 0 → parseFieldDescriptor (TX0 k).2.2.1 = some (tyX0 k) := by decide +kernel
abbrev cX0_isNet : ByteArray := prog_2_method_2_code
def yX0_isNet : MethodName := ⟨RX0, "isNet", "(I)Z"⟩
abbrev cX0_at : ByteArray := prog_2_method_3_code
def yX0_at : MethodName := ⟨RX0, "at", "(II)I"⟩
abbrev cX0_has : ByteArray := prog_2_method_4_code
def yX0_has : MethodName := ⟨RX0, "has", "(II)Z"⟩
def RX1 : String := "HillWays$Links"
def TX1 : u_T := fun k => match k with
  | 0 => ("HillWays$Links", "linked", "[I", true)
  | 1 => ("HillWays$Links", "passed", "[I", true)
  | 2 => ("HillWays$Links", "degree", "[I", true)
  | 3 => ("HillWays$Links", "transit", "[I", true)
  | 4 => ("HillWays$Links", "inWays", "[I", true)
  | _ => ("HillWays$Links", "seenNets", "I", false)
def tyX1 : Nat → FieldType := fun k => match k with
  | 0 => .array .int
  | 1 => .array .int
  | 2 => .array .int
  | 3 => .array .int
  | 4 => .array .int
  | _ => .int
abbrev wsX10 : List Cond := u_ws RX1 TX1 6
theorem nmX1 : ∀ a, a < 6 → ∀ b, b < 6 → a ≠ b → (TX1 a).2.1 ≠ (TX1 b).2.1 := by decide +kernel
theorem tyX1_ok : ∀ k, k < 6 → parseFieldDescriptor (TX1 k).2.2.1 = some (tyX1 k) := by decide +kernel
abbrev cX1_init : ByteArray := prog_3_method_1_code
def yX1_init : MethodName := ⟨RX1, "<init>", "()V"⟩
abbrev cX1_total : ByteArray := prog_3_method_2_code
def yX1_total : MethodName := ⟨RX1, "total", "()I"⟩
abbrev cX1_read : ByteArray := prog_3_method_3_code
def yX1_read : MethodName := ⟨RX1, "read", "(LHillWays$Ways;)V"⟩
abbrev cX1_readRow : ByteArray := prog_3_method_4_code
def yX1_readRow : MethodName := ⟨RX1, "readRow", "([III)V"⟩
abbrev cX1_clear : ByteArray := prog_3_method_5_code
def yX1_clear : MethodName := ⟨RX1, "clear", "()V"⟩
abbrev cX1_join : ByteArray := prog_3_method_6_code
def yX1_join : MethodName := ⟨RX1, "join", "(II)V"⟩
def RX2 : String := "HillWays$Names"
def TX2 : u_T := fun k => match k with
  | 0 => ("HillWays$Names", "votes", "[I", true)
  | 1 => ("HillWays$Names", "name", "[I", true)
  | _ => ("HillWays$Names", "payers", "[I", true)
def tyX2 : Nat → FieldType := fun k => match k with
  | 0 => .array .int
  | 1 => .array .int
  | _ => .array .int
abbrev wsX20 : List Cond := u_ws RX2 TX2 3
theorem nmX2 : ∀ a, a < 3 → ∀ b, b < 3 → a ≠ b → (TX2 a).2.1 ≠ (TX2 b).2.1 := by decide +kernel
theorem tyX2_ok : ∀ k, k < 3 → parseFieldDescriptor (TX2 k).2.2.1 = some (tyX2 k) := by decide +kernel
abbrev cX2_init : ByteArray := prog_4_method_1_code
def yX2_init : MethodName := ⟨RX2, "<init>", "()V"⟩
abbrev cX2_read : ByteArray := prog_4_method_2_code
def yX2_read : MethodName := ⟨RX2, "read", "(LHillWays$Ways;LHillWays$Links;LHillWays$Order;)V"⟩
abbrev cX2_vote : ByteArray := prog_4_method_3_code
def yX2_vote : MethodName := ⟨RX2, "vote", "([IIILHillWays$Order;)V"⟩
abbrev cX2_nameOf : ByteArray := prog_4_method_4_code
def yX2_nameOf : MethodName := ⟨RX2, "nameOf", "(III)I"⟩
abbrev cX2_turned : ByteArray := prog_4_method_5_code
def yX2_turned : MethodName := ⟨RX2, "turned", "(I)I"⟩
abbrev cX2_after : ByteArray := prog_4_method_6_code
def yX2_after : MethodName := ⟨RX2, "after", "(II)I"⟩
abbrev cX2_firstValley : ByteArray := prog_4_method_7_code
def yX2_firstValley : MethodName := ⟨RX2, "firstValley", "([III)I"⟩
abbrev cX2_cone : ByteArray := prog_4_method_8_code
def yX2_cone : MethodName := ⟨RX2, "cone", "(I)I"⟩
abbrev cX2_named : ByteArray := prog_4_method_9_code
def yX2_named : MethodName := ⟨RX2, "named", "(I)I"⟩
abbrev cX2_contradictions : ByteArray := prog_4_method_10_code
def yX2_contradictions : MethodName := ⟨RX2, "contradictions", "()I"⟩
abbrev cX2_contradictedAt : ByteArray := prog_4_method_11_code
def yX2_contradictedAt : MethodName := ⟨RX2, "contradictedAt", "(I)I"⟩
abbrev cX2_lesserVotes : ByteArray := prog_4_method_12_code
def yX2_lesserVotes : MethodName := ⟨RX2, "lesserVotes", "(II)I"⟩
def RX3 : String := "HillWays$Order"
def TX3 : u_T := fun k => match k with
  | 0 => ("HillWays$Order", "netAt", "[I", true)
  | 1 => ("HillWays$Order", "placeOf", "[I", true)
  | 2 => ("HillWays$Order", "size", "I", false)
  | _ => ("HillWays$Order", "top", "I", false)
def tyX3 : Nat → FieldType := fun k => match k with
  | 0 => .array .int
  | 1 => .array .int
  | 2 => .int
  | _ => .int
abbrev wsX30 : List Cond := u_ws RX3 TX3 4
theorem nmX3 : ∀ a, a < 4 → ∀ b, b < 4 → a ≠ b → (TX3 a).2.1 ≠ (TX3 b).2.1 := by decide +kernel
theorem tyX3_ok : ∀ k, k < 4 → parseFieldDescriptor (TX3 k).2.2.1 = some (tyX3 k) := by decide +kernel
abbrev cX3_init : ByteArray := prog_5_method_1_code
def yX3_init : MethodName := ⟨RX3, "<init>", "()V"⟩
abbrev cX3_read : ByteArray := prog_5_method_2_code
def yX3_read : MethodName := ⟨RX3, "read", "(LHillWays$Links;)V"⟩
abbrev cX3_firstOf : ByteArray := prog_5_method_3_code
def yX3_firstOf : MethodName := ⟨RX3, "firstOf", "([III)I"⟩
abbrev cX3_countAhead : ByteArray := prog_5_method_4_code
def yX3_countAhead : MethodName := ⟨RX3, "countAhead", "(LHillWays$Links;I)I"⟩
abbrev cX3_isAhead : ByteArray := prog_5_method_5_code
def yX3_isAhead : MethodName := ⟨RX3, "isAhead", "(LHillWays$Links;II)Z"⟩
abbrev cX3_bestSet : ByteArray := prog_5_method_6_code
def yX3_bestSet : MethodName := ⟨RX3, "bestSet", "(LHillWays$Links;I)I"⟩
abbrev cX3_isAllLinked : ByteArray := prog_5_method_7_code
def yX3_isAllLinked : MethodName := ⟨RX3, "isAllLinked", "(LHillWays$Links;I)Z"⟩
abbrev cX3_isBetter : ByteArray := prog_5_method_8_code
def yX3_isBetter : MethodName := ⟨RX3, "isBetter", "(LHillWays$Links;II)Z"⟩
abbrev cX3_degreeSum : ByteArray := prog_5_method_9_code
def yX3_degreeSum : MethodName := ⟨RX3, "degreeSum", "(LHillWays$Links;I)I"⟩
def RX4 : String := "HillWays$Page"
def TX4 : u_T := fun k => match k with
  | 0 => ("HillWays$Page", "nets", "[I", true)
  | _ => ("HillWays$Page", "size", "I", false)
def tyX4 : Nat → FieldType := fun k => match k with
  | 0 => .array .int
  | _ => .int
abbrev wsX40 : List Cond := u_ws RX4 TX4 2
theorem nmX4 : ∀ a, a < 2 → ∀ b, b < 2 → a ≠ b → (TX4 a).2.1 ≠ (TX4 b).2.1 := by decide +kernel
theorem tyX4_ok : ∀ k, k < 2 → parseFieldDescriptor (TX4 k).2.2.1 = some (tyX4 k) := by decide +kernel
abbrev cX4_init : ByteArray := prog_6_method_1_code
def yX4_init : MethodName := ⟨RX4, "<init>", "()V"⟩
abbrev cX4_append : ByteArray := prog_6_method_2_code
def yX4_append : MethodName := ⟨RX4, "append", "(I)V"⟩
abbrev cX4_codeAt : ByteArray := prog_6_method_3_code
def yX4_codeAt : MethodName := ⟨RX4, "codeAt", "(I)I"⟩
abbrev cX4_firstFault : ByteArray := prog_6_method_4_code
def yX4_firstFault : MethodName := ⟨RX4, "firstFault", "()I"⟩
abbrev cX4_isWay : ByteArray := prog_6_method_5_code
def yX4_isWay : MethodName := ⟨RX4, "isWay", "()Z"⟩
def RX5 : String := "HillWays$Rows"
def TX5 : u_T := fun k => match k with
  | 0 => ("HillWays$Rows", "fewest", "[I", true)
  | 1 => ("HillWays$Rows", "reached", "[I", true)
  | _ => ("HillWays$Rows", "reachedNow", "[I", true)
def tyX5 : Nat → FieldType := fun k => match k with
  | 0 => .array .int
  | 1 => .array .int
  | _ => .array .int
abbrev wsX50 : List Cond := u_ws RX5 TX5 3
theorem nmX5 : ∀ a, a < 3 → ∀ b, b < 3 → a ≠ b → (TX5 a).2.1 ≠ (TX5 b).2.1 := by decide +kernel
theorem tyX5_ok : ∀ k, k < 3 → parseFieldDescriptor (TX5 k).2.2.1 = some (tyX5 k) := by decide +kernel
abbrev cX5_init : ByteArray := prog_7_method_1_code
def yX5_init : MethodName := ⟨RX5, "<init>", "()V"⟩
abbrev cX5_read : ByteArray := prog_7_method_2_code
def yX5_read : MethodName := ⟨RX5, "read", "(LHillWays$Names;I)V"⟩
abbrev cX5_reachedByOneMore : ByteArray := prog_7_method_3_code
def yX5_reachedByOneMore : MethodName := ⟨RX5, "reachedByOneMore", "(LHillWays$Names;I)I"⟩
abbrev cX5_settle : ByteArray := prog_7_method_4_code
def yX5_settle : MethodName := ⟨RX5, "settle", "(I)Z"⟩
abbrev cX5_fewestLinks : ByteArray := prog_7_method_5_code
def yX5_fewestLinks : MethodName := ⟨RX5, "fewestLinks", "(III)I"⟩
abbrev cX5_leastSecond : ByteArray := prog_7_method_6_code
def yX5_leastSecond : MethodName := ⟨RX5, "leastSecond", "(LHillWays$Names;II)I"⟩
def RX6 : String := "HillWays$Ways"
def TX6 : u_T := fun k => match k with
  | 0 => ("HillWays$Ways", "nets", "[I", true)
  | 1 => ("HillWays$Ways", "sizes", "[I", true)
  | 2 => ("HillWays$Ways", "cut", "[I", true)
  | 3 => ("HillWays$Ways", "cutSizes", "[I", true)
  | _ => ("HillWays$Ways", "count", "I", false)
def tyX6 : Nat → FieldType := fun k => match k with
  | 0 => .array .int
  | 1 => .array .int
  | 2 => .array .int
  | 3 => .array .int
  | _ => .int
abbrev wsX60 : List Cond := u_ws RX6 TX6 5
theorem nmX6 : ∀ a, a < 5 → ∀ b, b < 5 → a ≠ b → (TX6 a).2.1 ≠ (TX6 b).2.1 := by decide +kernel
theorem tyX6_ok : ∀ k, k < 5 → parseFieldDescriptor (TX6 k).2.2.1 = some (tyX6 k) := by decide +kernel
abbrev cX6_init : ByteArray := prog_8_method_1_code
def yX6_init : MethodName := ⟨RX6, "<init>", "()V"⟩
abbrev cX6_has : ByteArray := prog_8_method_2_code
def yX6_has : MethodName := ⟨RX6, "has", "(I)Z"⟩
abbrev cX6_add : ByteArray := prog_8_method_3_code
def yX6_add : MethodName := ⟨RX6, "add", "(LHillWays$Page;)V"⟩
abbrev cX6_remove : ByteArray := prog_8_method_4_code
def yX6_remove : MethodName := ⟨RX6, "remove", "(I)V"⟩
abbrev cX6_cutOut : ByteArray := prog_8_method_5_code
def yX6_cutOut : MethodName := ⟨RX6, "cutOut", "(I)V"⟩
def RX7 : String := "HillWays"
def TX7 : u_T := fun k => match k with
  | 0 => ("HillWays", "page", "LHillWays$Page;", true)
  | 1 => ("HillWays", "ways", "LHillWays$Ways;", true)
  | 2 => ("HillWays", "links", "LHillWays$Links;", true)
  | 3 => ("HillWays", "order", "LHillWays$Order;", true)
  | 4 => ("HillWays", "names", "LHillWays$Names;", true)
  | 5 => ("HillWays", "rows", "LHillWays$Rows;", true)
  | 6 => ("HillWays", "told", "[I", true)
  | 7 => ("HillWays", "exchanges", "I", false)
  | _ => ("HillWays", "readings", "I", false)
def tyX7 : Nat → FieldType := fun k => match k with
  | 0 => .object "HillWays$Page"
  | 1 => .object "HillWays$Ways"
  | 2 => .object "HillWays$Links"
  | 3 => .object "HillWays$Order"
  | 4 => .object "HillWays$Names"
  | 5 => .object "HillWays$Rows"
  | 6 => .array .int
  | 7 => .int
  | _ => .int
abbrev wsX70 : List Cond := u_ws RX7 TX7 9
theorem nmX7 : ∀ a, a < 9 → ∀ b, b < 9 → a ≠ b → (TX7 a).2.1 ≠ (TX7 b).2.1 := by decide +kernel
theorem tyX7_ok : ∀ k, k < 9 → parseFieldDescriptor (TX7 k).2.2.1 = some (tyX7 k) := by decide +kernel
abbrev cX7_init : ByteArray := prog_1_method_1_code
def yX7_init : MethodName := ⟨RX7, "<init>", "()V"⟩
abbrev cX7_letter : ByteArray := prog_1_method_2_code
def yX7_letter : MethodName := ⟨RX7, "letter", "(I)I"⟩
abbrev cX7_blank : ByteArray := prog_1_method_3_code
def yX7_blank : MethodName := ⟨RX7, "blank", "()I"⟩
abbrev cX7_fault : ByteArray := prog_1_method_4_code
def yX7_fault : MethodName := ⟨RX7, "fault", "()I"⟩
abbrev cX7_way : ByteArray := prog_1_method_5_code
def yX7_way : MethodName := ⟨RX7, "way", "()I"⟩
abbrev cX7_valley : ByteArray := prog_1_method_6_code
def yX7_valley : MethodName := ⟨RX7, "valley", "()I"⟩
abbrev cX7_drop : ByteArray := prog_1_method_7_code
def yX7_drop : MethodName := ⟨RX7, "drop", "(I)I"⟩
abbrev cX7_exchange : ByteArray := prog_1_method_8_code
def yX7_exchange : MethodName := ⟨RX7, "exchange", "(IZ)I"⟩
abbrev cX7_tell : ByteArray := prog_1_method_9_code
def yX7_tell : MethodName := ⟨RX7, "tell", "(III)I"⟩
abbrev cX7_net : ByteArray := prog_1_method_10_code
def yX7_net : MethodName := ⟨RX7, "net", "(II)I"⟩
abbrev cX7_rank : ByteArray := prog_1_method_11_code
def yX7_rank : MethodName := ⟨RX7, "rank", "(I)I"⟩
abbrev cX7_top : ByteArray := prog_1_method_12_code
def yX7_top : MethodName := ⟨RX7, "top", "()I"⟩
abbrev cX7_link : ByteArray := prog_1_method_13_code
def yX7_link : MethodName := ⟨RX7, "link", "(III)I"⟩
abbrev cX7_contradicted : ByteArray := prog_1_method_14_code
def yX7_contradicted : MethodName := ⟨RX7, "contradicted", "(I)I"⟩
abbrev cX7_seen : ByteArray := prog_1_method_15_code
def yX7_seen : MethodName := ⟨RX7, "seen", "(II)I"⟩
abbrev cX7_near : ByteArray := prog_1_method_16_code
def yX7_near : MethodName := ⟨RX7, "near", "(III)I"⟩
abbrev cX7_count : ByteArray := prog_1_method_17_code
def yX7_count : MethodName := ⟨RX7, "count", "(I)I"⟩
abbrev cX7_digest : ByteArray := prog_1_method_18_code
def yX7_digest : MethodName := ⟨RX7, "digest", "()J"⟩
abbrev cX7_refresh : ByteArray := prog_1_method_19_code
def yX7_refresh : MethodName := ⟨RX7, "refresh", "()V"⟩
abbrev cX7_arePair : ByteArray := prog_1_method_20_code
def yX7_arePair : MethodName := ⟨RX7, "arePair", "(II)Z"⟩
abbrev cX7_waysWithValley : ByteArray := prog_1_method_21_code
def yX7_waysWithValley : MethodName := ⟨RX7, "waysWithValley", "()I"⟩
abbrev cX7_toldLinks : ByteArray := prog_1_method_22_code
def yX7_toldLinks : MethodName := ⟨RX7, "toldLinks", "(Z)I"⟩
abbrev cX7_digestOfNets : ByteArray := prog_1_method_23_code
def yX7_digestOfNets : MethodName := ⟨RX7, "digestOfNets", "(J)J"⟩
abbrev cX7_digestOfPairs : ByteArray := prog_1_method_24_code
def yX7_digestOfPairs : MethodName := ⟨RX7, "digestOfPairs", "(J)J"⟩
abbrev cX7_digestOfTheRest : ByteArray := prog_1_method_25_code
def yX7_digestOfTheRest : MethodName := ⟨RX7, "digestOfTheRest", "(J)J"⟩
def RX8 : String := "HillWaysModel"
def TX8 : u_T := fun k => match k with
  | 0 => ("HillWaysModel", "pageLength", "I", false)
  | 1 => ("HillWaysModel", "page", "[I", true)
  | 2 => ("HillWaysModel", "ways", "I", false)
  | 3 => ("HillWaysModel", "wayAt", "[I", true)
  | 4 => ("HillWaysModel", "wayLong", "[I", true)
  | 5 => ("HillWaysModel", "exchanges", "I", false)
  | 6 => ("HillWaysModel", "toldAt", "[I", true)
  | 7 => ("HillWaysModel", "waysRead", "I", false)
  | 8 => ("HillWaysModel", "isLaid", "Z", false)
  | 9 => ("HillWaysModel", "bareAt", "[I", true)
  | 10 => ("HillWaysModel", "bareLong", "[I", true)
  | 11 => ("HillWaysModel", "linked", "[I", true)
  | 12 => ("HillWaysModel", "beside", "[I", true)
  | 13 => ("HillWaysModel", "seenBits", "I", false)
  | 14 => ("HillWaysModel", "ranked", "[I", true)
  | 15 => ("HillWaysModel", "rankedMany", "I", false)
  | 16 => ("HillWaysModel", "placeOf", "[I", true)
  | 17 => ("HillWaysModel", "topBits", "I", false)
  | 18 => ("HillWaysModel", "votes", "[I", true)
  | 19 => ("HillWaysModel", "often", "[I", true)
  | 20 => ("HillWaysModel", "names", "[I", true)
  | 21 => ("HillWaysModel", "row", "[I", true)
  | 22 => ("HillWaysModel", "rowLong", "I", false)
  | 23 => ("HillWaysModel", "far", "[I", true)
  | _ => ("HillWaysModel", "h", "J", false)
def tyX8 : Nat → FieldType := fun k => match k with
  | 0 => .int
  | 1 => .array .int
  | 2 => .int
  | 3 => .array .int
  | 4 => .array .int
  | 5 => .int
  | 6 => .array .int
  | 7 => .int
  | 8 => .boolean
  | 9 => .array .int
  | 10 => .array .int
  | 11 => .array .int
  | 12 => .array .int
  | 13 => .int
  | 14 => .array .int
  | 15 => .int
  | 16 => .array .int
  | 17 => .int
  | 18 => .array .int
  | 19 => .array .int
  | 20 => .array .int
  | 21 => .array .int
  | 22 => .int
  | 23 => .array .int
  | _ => .long
abbrev wsX80 : List Cond := u_ws RX8 TX8 25
theorem nmX8 : ∀ a, a < 25 → ∀ b, b < 25 → a ≠ b → (TX8 a).2.1 ≠ (TX8 b).2.1 := by decide +kernel
theorem tyX8_ok : ∀ k, k < 25 → parseFieldDescriptor (TX8 k).2.2.1 = some (tyX8 k) := by decide +kernel
abbrev cX8_init : ByteArray := prog_10_method_1_code
def yX8_init : MethodName := ⟨RX8, "<init>", "()V"⟩
abbrev cX8_within : ByteArray := prog_10_method_3_code
def yX8_within : MethodName := ⟨RX8, "within", "(III)Z"⟩
abbrev cX8_has : ByteArray := prog_10_method_4_code
def yX8_has : MethodName := ⟨RX8, "has", "(II)Z"⟩
abbrev cX8_ones : ByteArray := prog_10_method_5_code
def yX8_ones : MethodName := ⟨RX8, "ones", "(I)I"⟩
abbrev cX8_letter : ByteArray := prog_10_method_6_code
def yX8_letter : MethodName := ⟨RX8, "letter", "(I)I"⟩
abbrev cX8_blank : ByteArray := prog_10_method_7_code
def yX8_blank : MethodName := ⟨RX8, "blank", "()I"⟩
abbrev cX8_isRight : ByteArray := prog_10_method_8_code
def yX8_isRight : MethodName := ⟨RX8, "isRight", "(I)Z"⟩
abbrev cX8_rightLetters : ByteArray := prog_10_method_9_code
def yX8_rightLetters : MethodName := ⟨RX8, "rightLetters", "()I"⟩
abbrev cX8_fault : ByteArray := prog_10_method_10_code
def yX8_fault : MethodName := ⟨RX8, "fault", "()I"⟩
abbrev cX8_isWayThere : ByteArray := prog_10_method_11_code
def yX8_isWayThere : MethodName := ⟨RX8, "isWayThere", "()Z"⟩
abbrev cX8_way : ByteArray := prog_10_method_12_code
def yX8_way : MethodName := ⟨RX8, "way", "()I"⟩
abbrev cX8_drop : ByteArray := prog_10_method_13_code
def yX8_drop : MethodName := ⟨RX8, "drop", "(I)I"⟩
abbrev cX8_isNet : ByteArray := prog_10_method_14_code
def yX8_isNet : MethodName := ⟨RX8, "isNet", "(I)Z"⟩
abbrev cX8_exchange : ByteArray := prog_10_method_15_code
def yX8_exchange : MethodName := ⟨RX8, "exchange", "(IZ)I"⟩
abbrev cX8_areTwo : ByteArray := prog_10_method_16_code
def yX8_areTwo : MethodName := ⟨RX8, "areTwo", "(II)Z"⟩
abbrev cX8_turned : ByteArray := prog_10_method_17_code
def yX8_turned : MethodName := ⟨RX8, "turned", "(I)I"⟩
abbrev cX8_tell : ByteArray := prog_10_method_18_code
def yX8_tell : MethodName := ⟨RX8, "tell", "(III)I"⟩
abbrev cX8_layWays : ByteArray := prog_10_method_19_code
def yX8_layWays : MethodName := ⟨RX8, "layWays", "()V"⟩
abbrev cX8_layTwo : ByteArray := prog_10_method_20_code
def yX8_layTwo : MethodName := ⟨RX8, "layTwo", "(II)V"⟩
abbrev cX8_weightOf : ByteArray := prog_10_method_21_code
def yX8_weightOf : MethodName := ⟨RX8, "weightOf", "(I)I"⟩
abbrev cX8_layRanks : ByteArray := prog_10_method_22_code
def yX8_layRanks : MethodName := ⟨RX8, "layRanks", "()V"⟩
abbrev cX8_degrees : ByteArray := prog_10_method_23_code
def yX8_degrees : MethodName := ⟨RX8, "degrees", "(I)I"⟩
abbrev cX8_areAllLinked : ByteArray := prog_10_method_24_code
def yX8_areAllLinked : MethodName := ⟨RX8, "areAllLinked", "(I)Z"⟩
abbrev cX8_layTop : ByteArray := prog_10_method_25_code
def yX8_layTop : MethodName := ⟨RX8, "layTop", "()V"⟩
abbrev cX8_hillOf : ByteArray := prog_10_method_26_code
def yX8_hillOf : MethodName := ⟨RX8, "hillOf", "(I)I"⟩
abbrev cX8_areTops : ByteArray := prog_10_method_27_code
def yX8_areTops : MethodName := ⟨RX8, "areTops", "(II)Z"⟩
abbrev cX8_layVotes : ByteArray := prog_10_method_28_code
def yX8_layVotes : MethodName := ⟨RX8, "layVotes", "()V"⟩
abbrev cX8_nameBy : ByteArray := prog_10_method_29_code
def yX8_nameBy : MethodName := ⟨RX8, "nameBy", "(II)I"⟩
abbrev cX8_lay : ByteArray := prog_10_method_30_code
def yX8_lay : MethodName := ⟨RX8, "lay", "()V"⟩
abbrev cX8_coneOf : ByteArray := prog_10_method_31_code
def yX8_coneOf : MethodName := ⟨RX8, "coneOf", "(I)I"⟩
abbrev cX8_netNow : ByteArray := prog_10_method_32_code
def yX8_netNow : MethodName := ⟨RX8, "netNow", "(II)I"⟩
abbrev cX8_net : ByteArray := prog_10_method_33_code
def yX8_net : MethodName := ⟨RX8, "net", "(II)I"⟩
abbrev cX8_rankNow : ByteArray := prog_10_method_34_code
def yX8_rankNow : MethodName := ⟨RX8, "rankNow", "(I)I"⟩
abbrev cX8_rank : ByteArray := prog_10_method_35_code
def yX8_rank : MethodName := ⟨RX8, "rank", "(I)I"⟩
abbrev cX8_topNow : ByteArray := prog_10_method_36_code
def yX8_topNow : MethodName := ⟨RX8, "topNow", "()I"⟩
abbrev cX8_top : ByteArray := prog_10_method_37_code
def yX8_top : MethodName := ⟨RX8, "top", "()I"⟩
abbrev cX8_linkNow : ByteArray := prog_10_method_38_code
def yX8_linkNow : MethodName := ⟨RX8, "linkNow", "(III)I"⟩
abbrev cX8_link : ByteArray := prog_10_method_39_code
def yX8_link : MethodName := ⟨RX8, "link", "(III)I"⟩
abbrev cX8_lesserOf : ByteArray := prog_10_method_40_code
def yX8_lesserOf : MethodName := ⟨RX8, "lesserOf", "(I)I"⟩
abbrev cX8_contradictedNow : ByteArray := prog_10_method_41_code
def yX8_contradictedNow : MethodName := ⟨RX8, "contradictedNow", "(I)I"⟩
abbrev cX8_contradicted : ByteArray := prog_10_method_42_code
def yX8_contradicted : MethodName := ⟨RX8, "contradicted", "(I)I"⟩
abbrev cX8_valleyOf : ByteArray := prog_10_method_43_code
def yX8_valleyOf : MethodName := ⟨RX8, "valleyOf", "()I"⟩
abbrev cX8_valleyOfWay : ByteArray := prog_10_method_44_code
def yX8_valleyOfWay : MethodName := ⟨RX8, "valleyOfWay", "(I)I"⟩
abbrev cX8_valley : ByteArray := prog_10_method_45_code
def yX8_valley : MethodName := ⟨RX8, "valley", "()I"⟩
abbrev cX8_seenNow : ByteArray := prog_10_method_46_code
def yX8_seenNow : MethodName := ⟨RX8, "seenNow", "(II)I"⟩
abbrev cX8_seen : ByteArray := prog_10_method_47_code
def yX8_seen : MethodName := ⟨RX8, "seen", "(II)I"⟩
abbrev cX8_behind : ByteArray := prog_10_method_48_code
def yX8_behind : MethodName := ⟨RX8, "behind", "(II)I"⟩
abbrev cX8_layFar : ByteArray := prog_10_method_49_code
def yX8_layFar : MethodName := ⟨RX8, "layFar", "(I)V"⟩
abbrev cX8_nearNow : ByteArray := prog_10_method_50_code
def yX8_nearNow : MethodName := ⟨RX8, "nearNow", "(III)I"⟩
abbrev cX8_near : ByteArray := prog_10_method_51_code
def yX8_near : MethodName := ⟨RX8, "near", "(III)I"⟩
abbrev cX8_linksOf : ByteArray := prog_10_method_52_code
def yX8_linksOf : MethodName := ⟨RX8, "linksOf", "(I)I"⟩
abbrev cX8_withValley : ByteArray := prog_10_method_53_code
def yX8_withValley : MethodName := ⟨RX8, "withValley", "()I"⟩
abbrev cX8_howMany : ByteArray := prog_10_method_54_code
def yX8_howMany : MethodName := ⟨RX8, "howMany", "(I)I"⟩
abbrev cX8_count : ByteArray := prog_10_method_55_code
def yX8_count : MethodName := ⟨RX8, "count", "(I)I"⟩
abbrev cX8_mix : ByteArray := prog_10_method_56_code
def yX8_mix : MethodName := ⟨RX8, "mix", "(J)V"⟩
abbrev cX8_mixNets : ByteArray := prog_10_method_57_code
def yX8_mixNets : MethodName := ⟨RX8, "mixNets", "()V"⟩
abbrev cX8_digest : ByteArray := prog_10_method_58_code
def yX8_digest : MethodName := ⟨RX8, "digest", "()J"⟩
def RJ6 : String := "java/lang/Integer"
def TJ6 : u_T := fun k => match k with
  | _ => ("", "", "", false)
def tyJ6 : Nat → FieldType := fun k => match k with
  | _ => .int
abbrev wsJ60 : List Cond := u_ws RJ6 TJ6 0
theorem nmJ6 : ∀ a, a < 0 → ∀ b, b < 0 → a ≠ b → (TJ6 a).2.1 ≠ (TJ6 b).2.1 := by decide +kernel
theorem tyJ6_ok : ∀ k, k < 0 → parseFieldDescriptor (TJ6 k).2.2.1 = some (tyJ6 k) := by decide +kernel
abbrev cJ6_bitCount_0f7a4 : ByteArray := prog_11_method_49_code
def yJ6_bitCount_0f7a4 : MethodName := ⟨RJ6, "bitCount", "(I)I"⟩
def RJ9 : String := "java/lang/Math"
def TJ9 : u_T := fun k => match k with
  | _ => ("", "", "", false)
def tyJ9 : Nat → FieldType := fun k => match k with
  | _ => .int
abbrev wsJ90 : List Cond := u_ws RJ9 TJ9 0
theorem nmJ9 : ∀ a, a < 0 → ∀ b, b < 0 → a ≠ b → (TJ9 a).2.1 ≠ (TJ9 b).2.1 := by decide +kernel
theorem tyJ9_ok : ∀ k, k < 0 → parseFieldDescriptor (TJ9 k).2.2.1 = some (tyJ9 k) := by decide +kernel
abbrev cJ9_min_7cf53 : ByteArray := prog_12_method_69_code
def yJ9_min_7cf53 : MethodName := ⟨RJ9, "min", "(II)I"⟩
def RL : String := "HillWaysLaw"
abbrev cL_law : ByteArray := code
def yL_law : MethodName := ⟨RL, "law", "([I)Z"⟩
theorem dX0_isNet_0 : decode cX0_isNet 0 = .ok (.iload_n 0, 1) := by decide +kernel
theorem dX0_isNet_1 : decode cX0_isNet 1 = .ok (.ifCond .lt 13, 3) := by decide +kernel
theorem dX0_isNet_4 : decode cX0_isNet 4 = .ok (.iload_n 0, 1) := by decide +kernel
theorem dX0_isNet_5 : decode cX0_isNet 5 = .ok (.bipush 8, 2) := by decide +kernel
theorem dX0_isNet_7 : decode cX0_isNet 7 = .ok (.if_icmp .ge 7, 3) := by decide +kernel
theorem dX0_isNet_10 : decode cX0_isNet 10 = .ok (.iconst 1, 1) := by decide +kernel
theorem dX0_isNet_11 : decode cX0_isNet 11 = .ok (.goto 4, 3) := by decide +kernel
theorem dX0_isNet_14 : decode cX0_isNet 14 = .ok (.iconst 0, 1) := by decide +kernel
theorem dX0_isNet_15 : decode cX0_isNet 15 = .ok (.ireturn, 1) := by decide +kernel
theorem dX0_at_0 : decode cX0_at 0 = .ok (.iload_n 0, 1) := by decide +kernel
theorem dX0_at_1 : decode cX0_at 1 = .ok (.iload_n 1, 1) := by decide +kernel
theorem dX0_at_2 : decode cX0_at 2 = .ok (.ishr, 1) := by decide +kernel
theorem dX0_at_3 : decode cX0_at 3 = .ok (.iconst 1, 1) := by decide +kernel
theorem dX0_at_4 : decode cX0_at 4 = .ok (.iand, 1) := by decide +kernel
theorem dX0_at_5 : decode cX0_at 5 = .ok (.ireturn, 1) := by decide +kernel
theorem dX0_has_0 : decode cX0_has 0 = .ok (.iload_n 0, 1) := by decide +kernel
theorem dX0_has_1 : decode cX0_has 1 = .ok (.iload_n 1, 1) := by decide +kernel
theorem dX0_has_2 : decode cX0_has 2 = .ok (.ishr, 1) := by decide +kernel
theorem dX0_has_3 : decode cX0_has 3 = .ok (.iconst 1, 1) := by decide +kernel
theorem dX0_has_4 : decode cX0_has 4 = .ok (.iand, 1) := by decide +kernel
theorem dX0_has_5 : decode cX0_has 5 = .ok (.iconst 1, 1) := by decide +kernel
theorem dX0_has_6 : decode cX0_has 6 = .ok (.if_icmp .ne 7, 3) := by decide +kernel
theorem dX0_has_9 : decode cX0_has 9 = .ok (.iconst 1, 1) := by decide +kernel
theorem dX0_has_10 : decode cX0_has 10 = .ok (.goto 4, 3) := by decide +kernel
theorem dX0_has_13 : decode cX0_has 13 = .ok (.iconst 0, 1) := by decide +kernel
theorem dX0_has_14 : decode cX0_has 14 = .ok (.ireturn, 1) := by decide +kernel
theorem dX1_init_0 : decode cX1_init 0 = .ok (.aload_n 0, 1) := by decide +kernel
theorem dX1_init_1 : decode cX1_init 1 = .ok (.invokespecial 3, 3) := by decide +kernel
theorem dX1_init_4 : decode cX1_init 4 = .ok (.aload_n 0, 1) := by decide +kernel
theorem dX1_init_5 : decode cX1_init 5 = .ok (.bipush 8, 2) := by decide +kernel
theorem dX1_init_7 : decode cX1_init 7 = .ok (.newarray .int, 2) := by decide +kernel
theorem dX1_init_9 : decode cX1_init 9 = .ok (.putfield 9, 3) := by decide +kernel
theorem dX1_init_12 : decode cX1_init 12 = .ok (.aload_n 0, 1) := by decide +kernel
theorem dX1_init_13 : decode cX1_init 13 = .ok (.bipush 8, 2) := by decide +kernel
theorem dX1_init_15 : decode cX1_init 15 = .ok (.newarray .int, 2) := by decide +kernel
theorem dX1_init_17 : decode cX1_init 17 = .ok (.putfield 15, 3) := by decide +kernel
theorem dX1_init_20 : decode cX1_init 20 = .ok (.aload_n 0, 1) := by decide +kernel
theorem dX1_init_21 : decode cX1_init 21 = .ok (.bipush 8, 2) := by decide +kernel
theorem dX1_init_23 : decode cX1_init 23 = .ok (.newarray .int, 2) := by decide +kernel
theorem dX1_init_25 : decode cX1_init 25 = .ok (.putfield 18, 3) := by decide +kernel
theorem dX1_init_28 : decode cX1_init 28 = .ok (.aload_n 0, 1) := by decide +kernel
theorem dX1_init_29 : decode cX1_init 29 = .ok (.bipush 8, 2) := by decide +kernel
theorem dX1_init_31 : decode cX1_init 31 = .ok (.newarray .int, 2) := by decide +kernel
theorem dX1_init_33 : decode cX1_init 33 = .ok (.putfield 21, 3) := by decide +kernel
theorem dX1_init_36 : decode cX1_init 36 = .ok (.aload_n 0, 1) := by decide +kernel
theorem dX1_init_37 : decode cX1_init 37 = .ok (.bipush 64, 2) := by decide +kernel
theorem dX1_init_39 : decode cX1_init 39 = .ok (.newarray .int, 2) := by decide +kernel
theorem dX1_init_41 : decode cX1_init 41 = .ok (.putfield 24, 3) := by decide +kernel
theorem dX1_init_44 : decode cX1_init 44 = .ok (.aload_n 0, 1) := by decide +kernel
theorem dX1_init_45 : decode cX1_init 45 = .ok (.iconst 0, 1) := by decide +kernel
theorem dX1_init_46 : decode cX1_init 46 = .ok (.putfield 27, 3) := by decide +kernel
theorem dX1_init_49 : decode cX1_init 49 = .ok (.return_, 1) := by decide +kernel
theorem dX1_total_0 : decode cX1_total 0 = .ok (.iconst 0, 1) := by decide +kernel
theorem dX1_total_1 : decode cX1_total 1 = .ok (.istore_n 1, 1) := by decide +kernel
theorem dX1_total_2 : decode cX1_total 2 = .ok (.iconst 0, 1) := by decide +kernel
theorem dX1_total_3 : decode cX1_total 3 = .ok (.istore_n 2, 1) := by decide +kernel
theorem dX1_total_4 : decode cX1_total 4 = .ok (.iload_n 2, 1) := by decide +kernel
theorem dX1_total_5 : decode cX1_total 5 = .ok (.bipush 8, 2) := by decide +kernel
theorem dX1_total_7 : decode cX1_total 7 = .ok (.if_icmp .ge 18, 3) := by decide +kernel
theorem dX1_total_10 : decode cX1_total 10 = .ok (.iload_n 1, 1) := by decide +kernel
theorem dX1_total_11 : decode cX1_total 11 = .ok (.aload_n 0, 1) := by decide +kernel
theorem dX1_total_12 : decode cX1_total 12 = .ok (.getfield 18, 3) := by decide +kernel
theorem dX1_total_15 : decode cX1_total 15 = .ok (.iload_n 2, 1) := by decide +kernel
theorem dX1_total_16 : decode cX1_total 16 = .ok (.iaload, 1) := by decide +kernel
theorem dX1_total_17 : decode cX1_total 17 = .ok (.iadd, 1) := by decide +kernel
theorem dX1_total_18 : decode cX1_total 18 = .ok (.istore_n 1, 1) := by decide +kernel
theorem dX1_total_19 : decode cX1_total 19 = .ok (.iinc 2 1, 3) := by decide +kernel
theorem dX1_total_22 : decode cX1_total 22 = .ok (.goto (-18), 3) := by decide +kernel
theorem dX1_total_25 : decode cX1_total 25 = .ok (.iload_n 1, 1) := by decide +kernel
theorem dX1_total_26 : decode cX1_total 26 = .ok (.iconst 2, 1) := by decide +kernel
theorem dX1_total_27 : decode cX1_total 27 = .ok (.idiv, 1) := by decide +kernel
theorem dX1_total_28 : decode cX1_total 28 = .ok (.ireturn, 1) := by decide +kernel
theorem dX1_read_0 : decode cX1_read 0 = .ok (.aload_n 0, 1) := by decide +kernel
theorem dX1_read_1 : decode cX1_read 1 = .ok (.invokevirtual 31, 3) := by decide +kernel
theorem dX1_read_4 : decode cX1_read 4 = .ok (.iconst 0, 1) := by decide +kernel
theorem dX1_read_5 : decode cX1_read 5 = .ok (.istore_n 2, 1) := by decide +kernel
theorem dX1_read_6 : decode cX1_read 6 = .ok (.iload_n 2, 1) := by decide +kernel
theorem dX1_read_7 : decode cX1_read 7 = .ok (.aload_n 1, 1) := by decide +kernel
theorem dX1_read_8 : decode cX1_read 8 = .ok (.getfield 34, 3) := by decide +kernel
theorem dX1_read_11 : decode cX1_read 11 = .ok (.if_icmp .ge 27, 3) := by decide +kernel
theorem dX1_read_14 : decode cX1_read 14 = .ok (.aload_n 0, 1) := by decide +kernel
theorem dX1_read_15 : decode cX1_read 15 = .ok (.aload_n 1, 1) := by decide +kernel
theorem dX1_read_16 : decode cX1_read 16 = .ok (.getfield 39, 3) := by decide +kernel
theorem dX1_read_19 : decode cX1_read 19 = .ok (.iload_n 2, 1) := by decide +kernel
theorem dX1_read_20 : decode cX1_read 20 = .ok (.bipush 6, 2) := by decide +kernel
theorem dX1_read_22 : decode cX1_read 22 = .ok (.imul, 1) := by decide +kernel
theorem dX1_read_23 : decode cX1_read 23 = .ok (.aload_n 1, 1) := by decide +kernel
theorem dX1_read_24 : decode cX1_read 24 = .ok (.getfield 42, 3) := by decide +kernel
theorem dX1_read_27 : decode cX1_read 27 = .ok (.iload_n 2, 1) := by decide +kernel
theorem dX1_read_28 : decode cX1_read 28 = .ok (.iaload, 1) := by decide +kernel
theorem dX1_read_29 : decode cX1_read 29 = .ok (.invokevirtual 45, 3) := by decide +kernel
theorem dX1_read_32 : decode cX1_read 32 = .ok (.iinc 2 1, 3) := by decide +kernel
theorem dX1_read_35 : decode cX1_read 35 = .ok (.goto (-29), 3) := by decide +kernel
theorem dX1_read_38 : decode cX1_read 38 = .ok (.iconst 0, 1) := by decide +kernel
theorem dX1_read_39 : decode cX1_read 39 = .ok (.istore_n 2, 1) := by decide +kernel
theorem dX1_read_40 : decode cX1_read 40 = .ok (.iload_n 2, 1) := by decide +kernel
theorem dX1_read_41 : decode cX1_read 41 = .ok (.bipush 8, 2) := by decide +kernel
theorem dX1_read_43 : decode cX1_read 43 = .ok (.if_icmp .ge 39, 3) := by decide +kernel
theorem dX1_read_46 : decode cX1_read 46 = .ok (.aload_n 0, 1) := by decide +kernel
theorem dX1_read_47 : decode cX1_read 47 = .ok (.getfield 18, 3) := by decide +kernel
theorem dX1_read_50 : decode cX1_read 50 = .ok (.iload_n 2, 1) := by decide +kernel
theorem dX1_read_51 : decode cX1_read 51 = .ok (.aload_n 0, 1) := by decide +kernel
theorem dX1_read_52 : decode cX1_read 52 = .ok (.getfield 9, 3) := by decide +kernel
theorem dX1_read_55 : decode cX1_read 55 = .ok (.iload_n 2, 1) := by decide +kernel
theorem dX1_read_56 : decode cX1_read 56 = .ok (.iaload, 1) := by decide +kernel
theorem dX1_read_57 : decode cX1_read 57 = .ok (.invokestatic 49, 3) := by decide +kernel
theorem dX1_read_60 : decode cX1_read 60 = .ok (.iastore, 1) := by decide +kernel
theorem dX1_read_61 : decode cX1_read 61 = .ok (.aload_n 0, 1) := by decide +kernel
theorem dX1_read_62 : decode cX1_read 62 = .ok (.getfield 21, 3) := by decide +kernel
theorem dX1_read_65 : decode cX1_read 65 = .ok (.iload_n 2, 1) := by decide +kernel
theorem dX1_read_66 : decode cX1_read 66 = .ok (.aload_n 0, 1) := by decide +kernel
theorem dX1_read_67 : decode cX1_read 67 = .ok (.getfield 15, 3) := by decide +kernel
theorem dX1_read_70 : decode cX1_read 70 = .ok (.iload_n 2, 1) := by decide +kernel
theorem dX1_read_71 : decode cX1_read 71 = .ok (.iaload, 1) := by decide +kernel
theorem dX1_read_72 : decode cX1_read 72 = .ok (.invokestatic 49, 3) := by decide +kernel
theorem dX1_read_75 : decode cX1_read 75 = .ok (.iastore, 1) := by decide +kernel
theorem dX1_read_76 : decode cX1_read 76 = .ok (.iinc 2 1, 3) := by decide +kernel
theorem dX1_read_79 : decode cX1_read 79 = .ok (.goto (-39), 3) := by decide +kernel
theorem dX1_read_82 : decode cX1_read 82 = .ok (.return_, 1) := by decide +kernel
theorem dX1_readRow_0 : decode cX1_readRow 0 = .ok (.iload_n 2, 1) := by decide +kernel
theorem dX1_readRow_1 : decode cX1_readRow 1 = .ok (.iload_n 3, 1) := by decide +kernel
theorem dX1_readRow_2 : decode cX1_readRow 2 = .ok (.iadd, 1) := by decide +kernel
theorem dX1_readRow_3 : decode cX1_readRow 3 = .ok (.iconst 1, 1) := by decide +kernel
theorem dX1_readRow_4 : decode cX1_readRow 4 = .ok (.isub, 1) := by decide +kernel
theorem dX1_readRow_5 : decode cX1_readRow 5 = .ok (.istore 4, 2) := by decide +kernel
theorem dX1_readRow_7 : decode cX1_readRow 7 = .ok (.iload_n 2, 1) := by decide +kernel
theorem dX1_readRow_8 : decode cX1_readRow 8 = .ok (.istore 5, 2) := by decide +kernel
theorem dX1_readRow_10 : decode cX1_readRow 10 = .ok (.iload 5, 2) := by decide +kernel
theorem dX1_readRow_12 : decode cX1_readRow 12 = .ok (.iload 4, 2) := by decide +kernel
theorem dX1_readRow_14 : decode cX1_readRow 14 = .ok (.if_icmp .gt 24, 3) := by decide +kernel
theorem dX1_readRow_17 : decode cX1_readRow 17 = .ok (.aload_n 0, 1) := by decide +kernel
theorem dX1_readRow_18 : decode cX1_readRow 18 = .ok (.dup, 1) := by decide +kernel
theorem dX1_readRow_19 : decode cX1_readRow 19 = .ok (.getfield 27, 3) := by decide +kernel
theorem dX1_readRow_22 : decode cX1_readRow 22 = .ok (.iconst 1, 1) := by decide +kernel
theorem dX1_readRow_23 : decode cX1_readRow 23 = .ok (.aload_n 1, 1) := by decide +kernel
theorem dX1_readRow_24 : decode cX1_readRow 24 = .ok (.iload 5, 2) := by decide +kernel
theorem dX1_readRow_26 : decode cX1_readRow 26 = .ok (.iaload, 1) := by decide +kernel
theorem dX1_readRow_27 : decode cX1_readRow 27 = .ok (.ishl, 1) := by decide +kernel
theorem dX1_readRow_28 : decode cX1_readRow 28 = .ok (.ior, 1) := by decide +kernel
theorem dX1_readRow_29 : decode cX1_readRow 29 = .ok (.putfield 27, 3) := by decide +kernel
theorem dX1_readRow_32 : decode cX1_readRow 32 = .ok (.iinc 5 1, 3) := by decide +kernel
theorem dX1_readRow_35 : decode cX1_readRow 35 = .ok (.goto (-25), 3) := by decide +kernel
theorem dX1_readRow_38 : decode cX1_readRow 38 = .ok (.iload_n 2, 1) := by decide +kernel
theorem dX1_readRow_39 : decode cX1_readRow 39 = .ok (.istore 5, 2) := by decide +kernel
theorem dX1_readRow_41 : decode cX1_readRow 41 = .ok (.iload 5, 2) := by decide +kernel
theorem dX1_readRow_43 : decode cX1_readRow 43 = .ok (.iload 4, 2) := by decide +kernel
theorem dX1_readRow_45 : decode cX1_readRow 45 = .ok (.if_icmp .ge 23, 3) := by decide +kernel
theorem dX1_readRow_48 : decode cX1_readRow 48 = .ok (.aload_n 0, 1) := by decide +kernel
theorem dX1_readRow_49 : decode cX1_readRow 49 = .ok (.aload_n 1, 1) := by decide +kernel
theorem dX1_readRow_50 : decode cX1_readRow 50 = .ok (.iload 5, 2) := by decide +kernel
theorem dX1_readRow_52 : decode cX1_readRow 52 = .ok (.iaload, 1) := by decide +kernel
theorem dX1_readRow_53 : decode cX1_readRow 53 = .ok (.aload_n 1, 1) := by decide +kernel
theorem dX1_readRow_54 : decode cX1_readRow 54 = .ok (.iload 5, 2) := by decide +kernel
theorem dX1_readRow_56 : decode cX1_readRow 56 = .ok (.iconst 1, 1) := by decide +kernel
theorem dX1_readRow_57 : decode cX1_readRow 57 = .ok (.iadd, 1) := by decide +kernel
theorem dX1_readRow_58 : decode cX1_readRow 58 = .ok (.iaload, 1) := by decide +kernel
theorem dX1_readRow_59 : decode cX1_readRow 59 = .ok (.invokevirtual 55, 3) := by decide +kernel
theorem dX1_readRow_62 : decode cX1_readRow 62 = .ok (.iinc 5 1, 3) := by decide +kernel
theorem dX1_readRow_65 : decode cX1_readRow 65 = .ok (.goto (-24), 3) := by decide +kernel
theorem dX1_readRow_68 : decode cX1_readRow 68 = .ok (.iload_n 2, 1) := by decide +kernel
theorem dX1_readRow_69 : decode cX1_readRow 69 = .ok (.iconst 1, 1) := by decide +kernel
theorem dX1_readRow_70 : decode cX1_readRow 70 = .ok (.iadd, 1) := by decide +kernel
theorem dX1_readRow_71 : decode cX1_readRow 71 = .ok (.istore 5, 2) := by decide +kernel
theorem dX1_readRow_73 : decode cX1_readRow 73 = .ok (.iload 5, 2) := by decide +kernel
theorem dX1_readRow_75 : decode cX1_readRow 75 = .ok (.iload 4, 2) := by decide +kernel
theorem dX1_readRow_77 : decode cX1_readRow 77 = .ok (.if_icmp .ge 38, 3) := by decide +kernel
theorem dX1_readRow_80 : decode cX1_readRow 80 = .ok (.aload_n 0, 1) := by decide +kernel
theorem dX1_readRow_81 : decode cX1_readRow 81 = .ok (.getfield 15, 3) := by decide +kernel
theorem dX1_readRow_84 : decode cX1_readRow 84 = .ok (.aload_n 1, 1) := by decide +kernel
theorem dX1_readRow_85 : decode cX1_readRow 85 = .ok (.iload 5, 2) := by decide +kernel
theorem dX1_readRow_87 : decode cX1_readRow 87 = .ok (.iaload, 1) := by decide +kernel
theorem dX1_readRow_88 : decode cX1_readRow 88 = .ok (.dup2, 1) := by decide +kernel
theorem dX1_readRow_89 : decode cX1_readRow 89 = .ok (.iaload, 1) := by decide +kernel
theorem dX1_readRow_90 : decode cX1_readRow 90 = .ok (.iconst 1, 1) := by decide +kernel
theorem dX1_readRow_91 : decode cX1_readRow 91 = .ok (.aload_n 1, 1) := by decide +kernel
theorem dX1_readRow_92 : decode cX1_readRow 92 = .ok (.iload 5, 2) := by decide +kernel
theorem dX1_readRow_94 : decode cX1_readRow 94 = .ok (.iconst 1, 1) := by decide +kernel
theorem dX1_readRow_95 : decode cX1_readRow 95 = .ok (.isub, 1) := by decide +kernel
theorem dX1_readRow_96 : decode cX1_readRow 96 = .ok (.iaload, 1) := by decide +kernel
theorem dX1_readRow_97 : decode cX1_readRow 97 = .ok (.ishl, 1) := by decide +kernel
theorem dX1_readRow_98 : decode cX1_readRow 98 = .ok (.iconst 1, 1) := by decide +kernel
theorem dX1_readRow_99 : decode cX1_readRow 99 = .ok (.aload_n 1, 1) := by decide +kernel
theorem dX1_readRow_100 : decode cX1_readRow 100 = .ok (.iload 5, 2) := by decide +kernel
theorem dX1_readRow_102 : decode cX1_readRow 102 = .ok (.iconst 1, 1) := by decide +kernel
theorem dX1_readRow_103 : decode cX1_readRow 103 = .ok (.iadd, 1) := by decide +kernel
theorem dX1_readRow_104 : decode cX1_readRow 104 = .ok (.iaload, 1) := by decide +kernel
theorem dX1_readRow_105 : decode cX1_readRow 105 = .ok (.ishl, 1) := by decide +kernel
theorem dX1_readRow_106 : decode cX1_readRow 106 = .ok (.ior, 1) := by decide +kernel
theorem dX1_readRow_107 : decode cX1_readRow 107 = .ok (.ior, 1) := by decide +kernel
theorem dX1_readRow_108 : decode cX1_readRow 108 = .ok (.iastore, 1) := by decide +kernel
theorem dX1_readRow_109 : decode cX1_readRow 109 = .ok (.iinc 5 1, 3) := by decide +kernel
theorem dX1_readRow_112 : decode cX1_readRow 112 = .ok (.goto (-39), 3) := by decide +kernel
theorem dX1_readRow_115 : decode cX1_readRow 115 = .ok (.return_, 1) := by decide +kernel
theorem dX1_clear_0 : decode cX1_clear 0 = .ok (.aload_n 0, 1) := by decide +kernel
theorem dX1_clear_1 : decode cX1_clear 1 = .ok (.iconst 0, 1) := by decide +kernel
theorem dX1_clear_2 : decode cX1_clear 2 = .ok (.putfield 27, 3) := by decide +kernel
theorem dX1_clear_5 : decode cX1_clear 5 = .ok (.iconst 0, 1) := by decide +kernel
theorem dX1_clear_6 : decode cX1_clear 6 = .ok (.istore_n 1, 1) := by decide +kernel
theorem dX1_clear_7 : decode cX1_clear 7 = .ok (.iload_n 1, 1) := by decide +kernel
theorem dX1_clear_8 : decode cX1_clear 8 = .ok (.bipush 8, 2) := by decide +kernel
theorem dX1_clear_10 : decode cX1_clear 10 = .ok (.if_icmp .ge 23, 3) := by decide +kernel
theorem dX1_clear_13 : decode cX1_clear 13 = .ok (.aload_n 0, 1) := by decide +kernel
theorem dX1_clear_14 : decode cX1_clear 14 = .ok (.getfield 9, 3) := by decide +kernel
theorem dX1_clear_17 : decode cX1_clear 17 = .ok (.iload_n 1, 1) := by decide +kernel
theorem dX1_clear_18 : decode cX1_clear 18 = .ok (.iconst 0, 1) := by decide +kernel
theorem dX1_clear_19 : decode cX1_clear 19 = .ok (.iastore, 1) := by decide +kernel
theorem dX1_clear_20 : decode cX1_clear 20 = .ok (.aload_n 0, 1) := by decide +kernel
theorem dX1_clear_21 : decode cX1_clear 21 = .ok (.getfield 15, 3) := by decide +kernel
theorem dX1_clear_24 : decode cX1_clear 24 = .ok (.iload_n 1, 1) := by decide +kernel
theorem dX1_clear_25 : decode cX1_clear 25 = .ok (.iconst 0, 1) := by decide +kernel
theorem dX1_clear_26 : decode cX1_clear 26 = .ok (.iastore, 1) := by decide +kernel
theorem dX1_clear_27 : decode cX1_clear 27 = .ok (.iinc 1 1, 3) := by decide +kernel
theorem dX1_clear_30 : decode cX1_clear 30 = .ok (.goto (-23), 3) := by decide +kernel
theorem dX1_clear_33 : decode cX1_clear 33 = .ok (.iconst 0, 1) := by decide +kernel
theorem dX1_clear_34 : decode cX1_clear 34 = .ok (.istore_n 1, 1) := by decide +kernel
theorem dX1_clear_35 : decode cX1_clear 35 = .ok (.iload_n 1, 1) := by decide +kernel
theorem dX1_clear_36 : decode cX1_clear 36 = .ok (.bipush 64, 2) := by decide +kernel
theorem dX1_clear_38 : decode cX1_clear 38 = .ok (.if_icmp .ge 16, 3) := by decide +kernel
theorem dX1_clear_41 : decode cX1_clear 41 = .ok (.aload_n 0, 1) := by decide +kernel
theorem dX1_clear_42 : decode cX1_clear 42 = .ok (.getfield 24, 3) := by decide +kernel
theorem dX1_clear_45 : decode cX1_clear 45 = .ok (.iload_n 1, 1) := by decide +kernel
theorem dX1_clear_46 : decode cX1_clear 46 = .ok (.iconst 0, 1) := by decide +kernel
theorem dX1_clear_47 : decode cX1_clear 47 = .ok (.iastore, 1) := by decide +kernel
theorem dX1_clear_48 : decode cX1_clear 48 = .ok (.iinc 1 1, 3) := by decide +kernel
theorem dX1_clear_51 : decode cX1_clear 51 = .ok (.goto (-16), 3) := by decide +kernel
theorem dX1_clear_54 : decode cX1_clear 54 = .ok (.return_, 1) := by decide +kernel
theorem dX1_join_0 : decode cX1_join 0 = .ok (.aload_n 0, 1) := by decide +kernel
theorem dX1_join_1 : decode cX1_join 1 = .ok (.getfield 9, 3) := by decide +kernel
theorem dX1_join_4 : decode cX1_join 4 = .ok (.iload_n 1, 1) := by decide +kernel
theorem dX1_join_5 : decode cX1_join 5 = .ok (.dup2, 1) := by decide +kernel
theorem dX1_join_6 : decode cX1_join 6 = .ok (.iaload, 1) := by decide +kernel
theorem dX1_join_7 : decode cX1_join 7 = .ok (.iconst 1, 1) := by decide +kernel
theorem dX1_join_8 : decode cX1_join 8 = .ok (.iload_n 2, 1) := by decide +kernel
theorem dX1_join_9 : decode cX1_join 9 = .ok (.ishl, 1) := by decide +kernel
theorem dX1_join_10 : decode cX1_join 10 = .ok (.ior, 1) := by decide +kernel
theorem dX1_join_11 : decode cX1_join 11 = .ok (.iastore, 1) := by decide +kernel
theorem dX1_join_12 : decode cX1_join 12 = .ok (.aload_n 0, 1) := by decide +kernel
theorem dX1_join_13 : decode cX1_join 13 = .ok (.getfield 9, 3) := by decide +kernel
theorem dX1_join_16 : decode cX1_join 16 = .ok (.iload_n 2, 1) := by decide +kernel
theorem dX1_join_17 : decode cX1_join 17 = .ok (.dup2, 1) := by decide +kernel
theorem dX1_join_18 : decode cX1_join 18 = .ok (.iaload, 1) := by decide +kernel
theorem dX1_join_19 : decode cX1_join 19 = .ok (.iconst 1, 1) := by decide +kernel
theorem dX1_join_20 : decode cX1_join 20 = .ok (.iload_n 1, 1) := by decide +kernel
theorem dX1_join_21 : decode cX1_join 21 = .ok (.ishl, 1) := by decide +kernel
theorem dX1_join_22 : decode cX1_join 22 = .ok (.ior, 1) := by decide +kernel
theorem dX1_join_23 : decode cX1_join 23 = .ok (.iastore, 1) := by decide +kernel
theorem dX1_join_24 : decode cX1_join 24 = .ok (.aload_n 0, 1) := by decide +kernel
theorem dX1_join_25 : decode cX1_join 25 = .ok (.getfield 24, 3) := by decide +kernel
theorem dX1_join_28 : decode cX1_join 28 = .ok (.iload_n 1, 1) := by decide +kernel
theorem dX1_join_29 : decode cX1_join 29 = .ok (.bipush 8, 2) := by decide +kernel
theorem dX1_join_31 : decode cX1_join 31 = .ok (.imul, 1) := by decide +kernel
theorem dX1_join_32 : decode cX1_join 32 = .ok (.iload_n 2, 1) := by decide +kernel
theorem dX1_join_33 : decode cX1_join 33 = .ok (.iadd, 1) := by decide +kernel
theorem dX1_join_34 : decode cX1_join 34 = .ok (.dup2, 1) := by decide +kernel
theorem dX1_join_35 : decode cX1_join 35 = .ok (.iaload, 1) := by decide +kernel
theorem dX1_join_36 : decode cX1_join 36 = .ok (.iconst 1, 1) := by decide +kernel
theorem dX1_join_37 : decode cX1_join 37 = .ok (.iadd, 1) := by decide +kernel
theorem dX1_join_38 : decode cX1_join 38 = .ok (.iastore, 1) := by decide +kernel
theorem dX1_join_39 : decode cX1_join 39 = .ok (.aload_n 0, 1) := by decide +kernel
theorem dX1_join_40 : decode cX1_join 40 = .ok (.getfield 24, 3) := by decide +kernel
theorem dX1_join_43 : decode cX1_join 43 = .ok (.iload_n 2, 1) := by decide +kernel
theorem dX1_join_44 : decode cX1_join 44 = .ok (.bipush 8, 2) := by decide +kernel
theorem dX1_join_46 : decode cX1_join 46 = .ok (.imul, 1) := by decide +kernel
theorem dX1_join_47 : decode cX1_join 47 = .ok (.iload_n 1, 1) := by decide +kernel
theorem dX1_join_48 : decode cX1_join 48 = .ok (.iadd, 1) := by decide +kernel
theorem dX1_join_49 : decode cX1_join 49 = .ok (.dup2, 1) := by decide +kernel
theorem dX1_join_50 : decode cX1_join 50 = .ok (.iaload, 1) := by decide +kernel
theorem dX1_join_51 : decode cX1_join 51 = .ok (.iconst 1, 1) := by decide +kernel
theorem dX1_join_52 : decode cX1_join 52 = .ok (.iadd, 1) := by decide +kernel
theorem dX1_join_53 : decode cX1_join 53 = .ok (.iastore, 1) := by decide +kernel
theorem dX1_join_54 : decode cX1_join 54 = .ok (.return_, 1) := by decide +kernel
theorem dX2_init_0 : decode cX2_init 0 = .ok (.aload_n 0, 1) := by decide +kernel
theorem dX2_init_1 : decode cX2_init 1 = .ok (.invokespecial 3, 3) := by decide +kernel
theorem dX2_init_4 : decode cX2_init 4 = .ok (.aload_n 0, 1) := by decide +kernel
theorem dX2_init_5 : decode cX2_init 5 = .ok (.bipush 64, 2) := by decide +kernel
theorem dX2_init_7 : decode cX2_init 7 = .ok (.newarray .int, 2) := by decide +kernel
theorem dX2_init_9 : decode cX2_init 9 = .ok (.putfield 9, 3) := by decide +kernel
theorem dX2_init_12 : decode cX2_init 12 = .ok (.aload_n 0, 1) := by decide +kernel
theorem dX2_init_13 : decode cX2_init 13 = .ok (.bipush 64, 2) := by decide +kernel
theorem dX2_init_15 : decode cX2_init 15 = .ok (.newarray .int, 2) := by decide +kernel
theorem dX2_init_17 : decode cX2_init 17 = .ok (.putfield 15, 3) := by decide +kernel
theorem dX2_init_20 : decode cX2_init 20 = .ok (.aload_n 0, 1) := by decide +kernel
theorem dX2_init_21 : decode cX2_init 21 = .ok (.bipush 8, 2) := by decide +kernel
theorem dX2_init_23 : decode cX2_init 23 = .ok (.newarray .int, 2) := by decide +kernel
theorem dX2_init_25 : decode cX2_init 25 = .ok (.putfield 18, 3) := by decide +kernel
theorem dX2_init_28 : decode cX2_init 28 = .ok (.return_, 1) := by decide +kernel
theorem dX2_read_0 : decode cX2_read 0 = .ok (.iconst 0, 1) := by decide +kernel
theorem dX2_read_1 : decode cX2_read 1 = .ok (.istore 4, 2) := by decide +kernel
theorem dX2_read_3 : decode cX2_read 3 = .ok (.iload 4, 2) := by decide +kernel
theorem dX2_read_5 : decode cX2_read 5 = .ok (.bipush 64, 2) := by decide +kernel
theorem dX2_read_7 : decode cX2_read 7 = .ok (.if_icmp .ge 17, 3) := by decide +kernel
theorem dX2_read_10 : decode cX2_read 10 = .ok (.aload_n 0, 1) := by decide +kernel
theorem dX2_read_11 : decode cX2_read 11 = .ok (.getfield 9, 3) := by decide +kernel
theorem dX2_read_14 : decode cX2_read 14 = .ok (.iload 4, 2) := by decide +kernel
theorem dX2_read_16 : decode cX2_read 16 = .ok (.iconst 0, 1) := by decide +kernel
theorem dX2_read_17 : decode cX2_read 17 = .ok (.iastore, 1) := by decide +kernel
theorem dX2_read_18 : decode cX2_read 18 = .ok (.iinc 4 1, 3) := by decide +kernel
theorem dX2_read_21 : decode cX2_read 21 = .ok (.goto (-18), 3) := by decide +kernel
theorem dX2_read_24 : decode cX2_read 24 = .ok (.iconst 0, 1) := by decide +kernel
theorem dX2_read_25 : decode cX2_read 25 = .ok (.istore 4, 2) := by decide +kernel
theorem dX2_read_27 : decode cX2_read 27 = .ok (.iload 4, 2) := by decide +kernel
theorem dX2_read_29 : decode cX2_read 29 = .ok (.aload_n 1, 1) := by decide +kernel
theorem dX2_read_30 : decode cX2_read 30 = .ok (.getfield 21, 3) := by decide +kernel
theorem dX2_read_33 : decode cX2_read 33 = .ok (.if_icmp .ge 30, 3) := by decide +kernel
theorem dX2_read_36 : decode cX2_read 36 = .ok (.aload_n 0, 1) := by decide +kernel
theorem dX2_read_37 : decode cX2_read 37 = .ok (.aload_n 1, 1) := by decide +kernel
theorem dX2_read_38 : decode cX2_read 38 = .ok (.getfield 27, 3) := by decide +kernel
theorem dX2_read_41 : decode cX2_read 41 = .ok (.iload 4, 2) := by decide +kernel
theorem dX2_read_43 : decode cX2_read 43 = .ok (.bipush 6, 2) := by decide +kernel
theorem dX2_read_45 : decode cX2_read 45 = .ok (.imul, 1) := by decide +kernel
theorem dX2_read_46 : decode cX2_read 46 = .ok (.aload_n 1, 1) := by decide +kernel
theorem dX2_read_47 : decode cX2_read 47 = .ok (.getfield 30, 3) := by decide +kernel
theorem dX2_read_50 : decode cX2_read 50 = .ok (.iload 4, 2) := by decide +kernel
theorem dX2_read_52 : decode cX2_read 52 = .ok (.iaload, 1) := by decide +kernel
theorem dX2_read_53 : decode cX2_read 53 = .ok (.aload_n 3, 1) := by decide +kernel
theorem dX2_read_54 : decode cX2_read 54 = .ok (.invokevirtual 33, 3) := by decide +kernel
theorem dX2_read_57 : decode cX2_read 57 = .ok (.iinc 4 1, 3) := by decide +kernel
theorem dX2_read_60 : decode cX2_read 60 = .ok (.goto (-33), 3) := by decide +kernel
theorem dX2_read_63 : decode cX2_read 63 = .ok (.iconst 0, 1) := by decide +kernel
theorem dX2_read_64 : decode cX2_read 64 = .ok (.istore 4, 2) := by decide +kernel
theorem dX2_read_66 : decode cX2_read 66 = .ok (.iload 4, 2) := by decide +kernel
theorem dX2_read_68 : decode cX2_read 68 = .ok (.bipush 8, 2) := by decide +kernel
theorem dX2_read_70 : decode cX2_read 70 = .ok (.if_icmp .ge 105, 3) := by decide +kernel
theorem dX2_read_73 : decode cX2_read 73 = .ok (.aload_n 0, 1) := by decide +kernel
theorem dX2_read_74 : decode cX2_read 74 = .ok (.getfield 18, 3) := by decide +kernel
theorem dX2_read_77 : decode cX2_read 77 = .ok (.iload 4, 2) := by decide +kernel
theorem dX2_read_79 : decode cX2_read 79 = .ok (.iconst 0, 1) := by decide +kernel
theorem dX2_read_80 : decode cX2_read 80 = .ok (.iastore, 1) := by decide +kernel
theorem dX2_read_81 : decode cX2_read 81 = .ok (.iconst 0, 1) := by decide +kernel
theorem dX2_read_82 : decode cX2_read 82 = .ok (.istore 5, 2) := by decide +kernel
theorem dX2_read_84 : decode cX2_read 84 = .ok (.iload 5, 2) := by decide +kernel
theorem dX2_read_86 : decode cX2_read 86 = .ok (.bipush 8, 2) := by decide +kernel
theorem dX2_read_88 : decode cX2_read 88 = .ok (.if_icmp .ge 81, 3) := by decide +kernel
theorem dX2_read_91 : decode cX2_read 91 = .ok (.aload_n 2, 1) := by decide +kernel
theorem dX2_read_92 : decode cX2_read 92 = .ok (.getfield 37, 3) := by decide +kernel
theorem dX2_read_95 : decode cX2_read 95 = .ok (.iload 4, 2) := by decide +kernel
theorem dX2_read_97 : decode cX2_read 97 = .ok (.iaload, 1) := by decide +kernel
theorem dX2_read_98 : decode cX2_read 98 = .ok (.iload 5, 2) := by decide +kernel
theorem dX2_read_100 : decode cX2_read 100 = .ok (.invokestatic 42, 3) := by decide +kernel
theorem dX2_read_103 : decode cX2_read 103 = .ok (.ifCond .eq 18, 3) := by decide +kernel
theorem dX2_read_106 : decode cX2_read 106 = .ok (.aload_n 0, 1) := by decide +kernel
theorem dX2_read_107 : decode cX2_read 107 = .ok (.iload 4, 2) := by decide +kernel
theorem dX2_read_109 : decode cX2_read 109 = .ok (.iload 5, 2) := by decide +kernel
theorem dX2_read_111 : decode cX2_read 111 = .ok (.aload_n 3, 1) := by decide +kernel
theorem dX2_read_112 : decode cX2_read 112 = .ok (.getfield 48, 3) := by decide +kernel
theorem dX2_read_115 : decode cX2_read 115 = .ok (.invokevirtual 53, 3) := by decide +kernel
theorem dX2_read_118 : decode cX2_read 118 = .ok (.goto 4, 3) := by decide +kernel
theorem dX2_read_121 : decode cX2_read 121 = .ok (.iconst 0, 1) := by decide +kernel
theorem dX2_read_122 : decode cX2_read 122 = .ok (.istore 6, 2) := by decide +kernel
theorem dX2_read_124 : decode cX2_read 124 = .ok (.aload_n 0, 1) := by decide +kernel
theorem dX2_read_125 : decode cX2_read 125 = .ok (.getfield 15, 3) := by decide +kernel
theorem dX2_read_128 : decode cX2_read 128 = .ok (.iload 4, 2) := by decide +kernel
theorem dX2_read_130 : decode cX2_read 130 = .ok (.bipush 8, 2) := by decide +kernel
theorem dX2_read_132 : decode cX2_read 132 = .ok (.imul, 1) := by decide +kernel
theorem dX2_read_133 : decode cX2_read 133 = .ok (.iload 5, 2) := by decide +kernel
theorem dX2_read_135 : decode cX2_read 135 = .ok (.iadd, 1) := by decide +kernel
theorem dX2_read_136 : decode cX2_read 136 = .ok (.iload 6, 2) := by decide +kernel
theorem dX2_read_138 : decode cX2_read 138 = .ok (.iastore, 1) := by decide +kernel
theorem dX2_read_139 : decode cX2_read 139 = .ok (.aload_n 0, 1) := by decide +kernel
theorem dX2_read_140 : decode cX2_read 140 = .ok (.getfield 18, 3) := by decide +kernel
theorem dX2_read_143 : decode cX2_read 143 = .ok (.iload 4, 2) := by decide +kernel
theorem dX2_read_145 : decode cX2_read 145 = .ok (.dup2, 1) := by decide +kernel
theorem dX2_read_146 : decode cX2_read 146 = .ok (.iaload, 1) := by decide +kernel
theorem dX2_read_147 : decode cX2_read 147 = .ok (.iload 6, 2) := by decide +kernel
theorem dX2_read_149 : decode cX2_read 149 = .ok (.iconst 2, 1) := by decide +kernel
theorem dX2_read_150 : decode cX2_read 150 = .ok (.if_icmp .ne 10, 3) := by decide +kernel
theorem dX2_read_153 : decode cX2_read 153 = .ok (.iconst 1, 1) := by decide +kernel
theorem dX2_read_154 : decode cX2_read 154 = .ok (.iload 5, 2) := by decide +kernel
theorem dX2_read_156 : decode cX2_read 156 = .ok (.ishl, 1) := by decide +kernel
theorem dX2_read_157 : decode cX2_read 157 = .ok (.goto 4, 3) := by decide +kernel
theorem dX2_read_160 : decode cX2_read 160 = .ok (.iconst 0, 1) := by decide +kernel
theorem dX2_read_161 : decode cX2_read 161 = .ok (.ior, 1) := by decide +kernel
theorem dX2_read_162 : decode cX2_read 162 = .ok (.iastore, 1) := by decide +kernel
theorem dX2_read_163 : decode cX2_read 163 = .ok (.iinc 5 1, 3) := by decide +kernel
theorem dX2_read_166 : decode cX2_read 166 = .ok (.goto (-82), 3) := by decide +kernel
theorem dX2_read_169 : decode cX2_read 169 = .ok (.iinc 4 1, 3) := by decide +kernel
theorem dX2_read_172 : decode cX2_read 172 = .ok (.goto (-106), 3) := by decide +kernel
theorem dX2_read_175 : decode cX2_read 175 = .ok (.return_, 1) := by decide +kernel
theorem dX2_vote_0 : decode cX2_vote 0 = .ok (.aload 4, 2) := by decide +kernel
theorem dX2_vote_2 : decode cX2_vote 2 = .ok (.aload_n 1, 1) := by decide +kernel
theorem dX2_vote_3 : decode cX2_vote 3 = .ok (.iload_n 2, 1) := by decide +kernel
theorem dX2_vote_4 : decode cX2_vote 4 = .ok (.iload_n 3, 1) := by decide +kernel
theorem dX2_vote_5 : decode cX2_vote 5 = .ok (.invokevirtual 57, 3) := by decide +kernel
theorem dX2_vote_8 : decode cX2_vote 8 = .ok (.istore 5, 2) := by decide +kernel
theorem dX2_vote_10 : decode cX2_vote 10 = .ok (.iconst 0, 1) := by decide +kernel
theorem dX2_vote_11 : decode cX2_vote 11 = .ok (.istore 6, 2) := by decide +kernel
theorem dX2_vote_13 : decode cX2_vote 13 = .ok (.iload 6, 2) := by decide +kernel
theorem dX2_vote_15 : decode cX2_vote 15 = .ok (.iconst 1, 1) := by decide +kernel
theorem dX2_vote_16 : decode cX2_vote 16 = .ok (.iadd, 1) := by decide +kernel
theorem dX2_vote_17 : decode cX2_vote 17 = .ok (.iload_n 3, 1) := by decide +kernel
theorem dX2_vote_18 : decode cX2_vote 18 = .ok (.if_icmp .ge 100, 3) := by decide +kernel
theorem dX2_vote_21 : decode cX2_vote 21 = .ok (.aload_n 1, 1) := by decide +kernel
theorem dX2_vote_22 : decode cX2_vote 22 = .ok (.iload_n 2, 1) := by decide +kernel
theorem dX2_vote_23 : decode cX2_vote 23 = .ok (.iload 6, 2) := by decide +kernel
theorem dX2_vote_25 : decode cX2_vote 25 = .ok (.iadd, 1) := by decide +kernel
theorem dX2_vote_26 : decode cX2_vote 26 = .ok (.iaload, 1) := by decide +kernel
theorem dX2_vote_27 : decode cX2_vote 27 = .ok (.istore 7, 2) := by decide +kernel
theorem dX2_vote_29 : decode cX2_vote 29 = .ok (.aload_n 1, 1) := by decide +kernel
theorem dX2_vote_30 : decode cX2_vote 30 = .ok (.iload_n 2, 1) := by decide +kernel
theorem dX2_vote_31 : decode cX2_vote 31 = .ok (.iload 6, 2) := by decide +kernel
theorem dX2_vote_33 : decode cX2_vote 33 = .ok (.iadd, 1) := by decide +kernel
theorem dX2_vote_34 : decode cX2_vote 34 = .ok (.iconst 1, 1) := by decide +kernel
theorem dX2_vote_35 : decode cX2_vote 35 = .ok (.iadd, 1) := by decide +kernel
theorem dX2_vote_36 : decode cX2_vote 36 = .ok (.iaload, 1) := by decide +kernel
theorem dX2_vote_37 : decode cX2_vote 37 = .ok (.istore 8, 2) := by decide +kernel
theorem dX2_vote_39 : decode cX2_vote 39 = .ok (.aload 4, 2) := by decide +kernel
theorem dX2_vote_41 : decode cX2_vote 41 = .ok (.getfield 48, 3) := by decide +kernel
theorem dX2_vote_44 : decode cX2_vote 44 = .ok (.iload 7, 2) := by decide +kernel
theorem dX2_vote_46 : decode cX2_vote 46 = .ok (.invokestatic 42, 3) := by decide +kernel
theorem dX2_vote_49 : decode cX2_vote 49 = .ok (.ifCond .eq 19, 3) := by decide +kernel
theorem dX2_vote_52 : decode cX2_vote 52 = .ok (.aload 4, 2) := by decide +kernel
theorem dX2_vote_54 : decode cX2_vote 54 = .ok (.getfield 48, 3) := by decide +kernel
theorem dX2_vote_57 : decode cX2_vote 57 = .ok (.iload 8, 2) := by decide +kernel
theorem dX2_vote_59 : decode cX2_vote 59 = .ok (.invokestatic 42, 3) := by decide +kernel
theorem dX2_vote_62 : decode cX2_vote 62 = .ok (.ifCond .eq 6, 3) := by decide +kernel
theorem dX2_vote_65 : decode cX2_vote 65 = .ok (.goto 47, 3) := by decide +kernel
theorem dX2_vote_68 : decode cX2_vote 68 = .ok (.iload 6, 2) := by decide +kernel
theorem dX2_vote_70 : decode cX2_vote 70 = .ok (.iload 5, 2) := by decide +kernel
theorem dX2_vote_72 : decode cX2_vote 72 = .ok (.if_icmp .ge 23, 3) := by decide +kernel
theorem dX2_vote_75 : decode cX2_vote 75 = .ok (.aload_n 0, 1) := by decide +kernel
theorem dX2_vote_76 : decode cX2_vote 76 = .ok (.getfield 9, 3) := by decide +kernel
theorem dX2_vote_79 : decode cX2_vote 79 = .ok (.iload 7, 2) := by decide +kernel
theorem dX2_vote_81 : decode cX2_vote 81 = .ok (.bipush 8, 2) := by decide +kernel
theorem dX2_vote_83 : decode cX2_vote 83 = .ok (.imul, 1) := by decide +kernel
theorem dX2_vote_84 : decode cX2_vote 84 = .ok (.iload 8, 2) := by decide +kernel
theorem dX2_vote_86 : decode cX2_vote 86 = .ok (.iadd, 1) := by decide +kernel
theorem dX2_vote_87 : decode cX2_vote 87 = .ok (.dup2, 1) := by decide +kernel
theorem dX2_vote_88 : decode cX2_vote 88 = .ok (.iaload, 1) := by decide +kernel
theorem dX2_vote_89 : decode cX2_vote 89 = .ok (.iconst 1, 1) := by decide +kernel
theorem dX2_vote_90 : decode cX2_vote 90 = .ok (.iadd, 1) := by decide +kernel
theorem dX2_vote_91 : decode cX2_vote 91 = .ok (.iastore, 1) := by decide +kernel
theorem dX2_vote_92 : decode cX2_vote 92 = .ok (.goto 20, 3) := by decide +kernel
theorem dX2_vote_95 : decode cX2_vote 95 = .ok (.aload_n 0, 1) := by decide +kernel
theorem dX2_vote_96 : decode cX2_vote 96 = .ok (.getfield 9, 3) := by decide +kernel
theorem dX2_vote_99 : decode cX2_vote 99 = .ok (.iload 8, 2) := by decide +kernel
theorem dX2_vote_101 : decode cX2_vote 101 = .ok (.bipush 8, 2) := by decide +kernel
theorem dX2_vote_103 : decode cX2_vote 103 = .ok (.imul, 1) := by decide +kernel
theorem dX2_vote_104 : decode cX2_vote 104 = .ok (.iload 7, 2) := by decide +kernel
theorem dX2_vote_106 : decode cX2_vote 106 = .ok (.iadd, 1) := by decide +kernel
theorem dX2_vote_107 : decode cX2_vote 107 = .ok (.dup2, 1) := by decide +kernel
theorem dX2_vote_108 : decode cX2_vote 108 = .ok (.iaload, 1) := by decide +kernel
theorem dX2_vote_109 : decode cX2_vote 109 = .ok (.iconst 1, 1) := by decide +kernel
theorem dX2_vote_110 : decode cX2_vote 110 = .ok (.iadd, 1) := by decide +kernel
theorem dX2_vote_111 : decode cX2_vote 111 = .ok (.iastore, 1) := by decide +kernel
theorem dX2_vote_112 : decode cX2_vote 112 = .ok (.iinc 6 1, 3) := by decide +kernel
theorem dX2_vote_115 : decode cX2_vote 115 = .ok (.goto (-102), 3) := by decide +kernel
theorem dX2_vote_118 : decode cX2_vote 118 = .ok (.return_, 1) := by decide +kernel
theorem dX2_nameOf_0 : decode cX2_nameOf 0 = .ok (.iload_n 3, 1) := by decide +kernel
theorem dX2_nameOf_1 : decode cX2_nameOf 1 = .ok (.iload_n 1, 1) := by decide +kernel
theorem dX2_nameOf_2 : decode cX2_nameOf 2 = .ok (.invokestatic 42, 3) := by decide +kernel
theorem dX2_nameOf_5 : decode cX2_nameOf 5 = .ok (.ifCond .eq 13, 3) := by decide +kernel
theorem dX2_nameOf_8 : decode cX2_nameOf 8 = .ok (.iload_n 3, 1) := by decide +kernel
theorem dX2_nameOf_9 : decode cX2_nameOf 9 = .ok (.iload_n 2, 1) := by decide +kernel
theorem dX2_nameOf_10 : decode cX2_nameOf 10 = .ok (.invokestatic 42, 3) := by decide +kernel
theorem dX2_nameOf_13 : decode cX2_nameOf 13 = .ok (.ifCond .eq 5, 3) := by decide +kernel
theorem dX2_nameOf_16 : decode cX2_nameOf 16 = .ok (.iconst 3, 1) := by decide +kernel
theorem dX2_nameOf_17 : decode cX2_nameOf 17 = .ok (.ireturn, 1) := by decide +kernel
theorem dX2_nameOf_18 : decode cX2_nameOf 18 = .ok (.aload_n 0, 1) := by decide +kernel
theorem dX2_nameOf_19 : decode cX2_nameOf 19 = .ok (.getfield 9, 3) := by decide +kernel
theorem dX2_nameOf_22 : decode cX2_nameOf 22 = .ok (.iload_n 1, 1) := by decide +kernel
theorem dX2_nameOf_23 : decode cX2_nameOf 23 = .ok (.bipush 8, 2) := by decide +kernel
theorem dX2_nameOf_25 : decode cX2_nameOf 25 = .ok (.imul, 1) := by decide +kernel
theorem dX2_nameOf_26 : decode cX2_nameOf 26 = .ok (.iload_n 2, 1) := by decide +kernel
theorem dX2_nameOf_27 : decode cX2_nameOf 27 = .ok (.iadd, 1) := by decide +kernel
theorem dX2_nameOf_28 : decode cX2_nameOf 28 = .ok (.iaload, 1) := by decide +kernel
theorem dX2_nameOf_29 : decode cX2_nameOf 29 = .ok (.aload_n 0, 1) := by decide +kernel
theorem dX2_nameOf_30 : decode cX2_nameOf 30 = .ok (.getfield 9, 3) := by decide +kernel
theorem dX2_nameOf_33 : decode cX2_nameOf 33 = .ok (.iload_n 2, 1) := by decide +kernel
theorem dX2_nameOf_34 : decode cX2_nameOf 34 = .ok (.bipush 8, 2) := by decide +kernel
theorem dX2_nameOf_36 : decode cX2_nameOf 36 = .ok (.imul, 1) := by decide +kernel
theorem dX2_nameOf_37 : decode cX2_nameOf 37 = .ok (.iload_n 1, 1) := by decide +kernel
theorem dX2_nameOf_38 : decode cX2_nameOf 38 = .ok (.iadd, 1) := by decide +kernel
theorem dX2_nameOf_39 : decode cX2_nameOf 39 = .ok (.iaload, 1) := by decide +kernel
theorem dX2_nameOf_40 : decode cX2_nameOf 40 = .ok (.isub, 1) := by decide +kernel
theorem dX2_nameOf_41 : decode cX2_nameOf 41 = .ok (.istore 4, 2) := by decide +kernel
theorem dX2_nameOf_43 : decode cX2_nameOf 43 = .ok (.iload 4, 2) := by decide +kernel
theorem dX2_nameOf_45 : decode cX2_nameOf 45 = .ok (.ifCond .ne 5, 3) := by decide +kernel
theorem dX2_nameOf_48 : decode cX2_nameOf 48 = .ok (.iconst 4, 1) := by decide +kernel
theorem dX2_nameOf_49 : decode cX2_nameOf 49 = .ok (.ireturn, 1) := by decide +kernel
theorem dX2_nameOf_50 : decode cX2_nameOf 50 = .ok (.iload 4, 2) := by decide +kernel
theorem dX2_nameOf_52 : decode cX2_nameOf 52 = .ok (.ifCond .le 7, 3) := by decide +kernel
theorem dX2_nameOf_55 : decode cX2_nameOf 55 = .ok (.iconst 1, 1) := by decide +kernel
theorem dX2_nameOf_56 : decode cX2_nameOf 56 = .ok (.goto 4, 3) := by decide +kernel
theorem dX2_nameOf_59 : decode cX2_nameOf 59 = .ok (.iconst 2, 1) := by decide +kernel
theorem dX2_nameOf_60 : decode cX2_nameOf 60 = .ok (.ireturn, 1) := by decide +kernel
theorem dX2_turned_0 : decode cX2_turned 0 = .ok (.iload_n 0, 1) := by decide +kernel
theorem dX2_turned_1 : decode cX2_turned 1 = .ok (.iconst 1, 1) := by decide +kernel
theorem dX2_turned_2 : decode cX2_turned 2 = .ok (.if_icmp .ne 5, 3) := by decide +kernel
theorem dX2_turned_5 : decode cX2_turned 5 = .ok (.iconst 2, 1) := by decide +kernel
theorem dX2_turned_6 : decode cX2_turned 6 = .ok (.ireturn, 1) := by decide +kernel
theorem dX2_turned_7 : decode cX2_turned 7 = .ok (.iload_n 0, 1) := by decide +kernel
theorem dX2_turned_8 : decode cX2_turned 8 = .ok (.iconst 2, 1) := by decide +kernel
theorem dX2_turned_9 : decode cX2_turned 9 = .ok (.if_icmp .ne 7, 3) := by decide +kernel
theorem dX2_turned_12 : decode cX2_turned 12 = .ok (.iconst 1, 1) := by decide +kernel
theorem dX2_turned_13 : decode cX2_turned 13 = .ok (.goto 4, 3) := by decide +kernel
theorem dX2_turned_16 : decode cX2_turned 16 = .ok (.iload_n 0, 1) := by decide +kernel
theorem dX2_turned_17 : decode cX2_turned 17 = .ok (.ireturn, 1) := by decide +kernel
theorem dX2_after_0 : decode cX2_after 0 = .ok (.iload_n 1, 1) := by decide +kernel
theorem dX2_after_1 : decode cX2_after 1 = .ok (.tableswitch 55 1 4 #[31, 41, 43, 53], 31) := by decide +kernel
theorem dX2_after_32 : decode cX2_after 32 = .ok (.iload_n 0, 1) := by decide +kernel
theorem dX2_after_33 : decode cX2_after 33 = .ok (.ifCond .ne 7, 3) := by decide +kernel
theorem dX2_after_36 : decode cX2_after 36 = .ok (.iconst 0, 1) := by decide +kernel
theorem dX2_after_37 : decode cX2_after 37 = .ok (.goto 4, 3) := by decide +kernel
theorem dX2_after_40 : decode cX2_after 40 = .ok (.iconst (-1), 1) := by decide +kernel
theorem dX2_after_41 : decode cX2_after 41 = .ok (.ireturn, 1) := by decide +kernel
theorem dX2_after_42 : decode cX2_after 42 = .ok (.iconst 1, 1) := by decide +kernel
theorem dX2_after_43 : decode cX2_after 43 = .ok (.ireturn, 1) := by decide +kernel
theorem dX2_after_44 : decode cX2_after 44 = .ok (.iload_n 0, 1) := by decide +kernel
theorem dX2_after_45 : decode cX2_after 45 = .ok (.ifCond .ne 7, 3) := by decide +kernel
theorem dX2_after_48 : decode cX2_after 48 = .ok (.iconst 1, 1) := by decide +kernel
theorem dX2_after_49 : decode cX2_after 49 = .ok (.goto 4, 3) := by decide +kernel
theorem dX2_after_52 : decode cX2_after 52 = .ok (.iconst (-1), 1) := by decide +kernel
theorem dX2_after_53 : decode cX2_after 53 = .ok (.ireturn, 1) := by decide +kernel
theorem dX2_after_54 : decode cX2_after 54 = .ok (.iload_n 0, 1) := by decide +kernel
theorem dX2_after_55 : decode cX2_after 55 = .ok (.ireturn, 1) := by decide +kernel
theorem dX2_after_56 : decode cX2_after 56 = .ok (.iconst (-1), 1) := by decide +kernel
theorem dX2_after_57 : decode cX2_after 57 = .ok (.ireturn, 1) := by decide +kernel
theorem dX2_firstValley_0 : decode cX2_firstValley 0 = .ok (.iconst 0, 1) := by decide +kernel
theorem dX2_firstValley_1 : decode cX2_firstValley 1 = .ok (.istore 4, 2) := by decide +kernel
theorem dX2_firstValley_3 : decode cX2_firstValley 3 = .ok (.iconst 0, 1) := by decide +kernel
theorem dX2_firstValley_4 : decode cX2_firstValley 4 = .ok (.istore 5, 2) := by decide +kernel
theorem dX2_firstValley_6 : decode cX2_firstValley 6 = .ok (.iload 5, 2) := by decide +kernel
theorem dX2_firstValley_8 : decode cX2_firstValley 8 = .ok (.iconst 1, 1) := by decide +kernel
theorem dX2_firstValley_9 : decode cX2_firstValley 9 = .ok (.iadd, 1) := by decide +kernel
theorem dX2_firstValley_10 : decode cX2_firstValley 10 = .ok (.iload_n 3, 1) := by decide +kernel
theorem dX2_firstValley_11 : decode cX2_firstValley 11 = .ok (.if_icmp .ge 52, 3) := by decide +kernel
theorem dX2_firstValley_14 : decode cX2_firstValley 14 = .ok (.aload_n 1, 1) := by decide +kernel
theorem dX2_firstValley_15 : decode cX2_firstValley 15 = .ok (.iload_n 2, 1) := by decide +kernel
theorem dX2_firstValley_16 : decode cX2_firstValley 16 = .ok (.iload 5, 2) := by decide +kernel
theorem dX2_firstValley_18 : decode cX2_firstValley 18 = .ok (.iadd, 1) := by decide +kernel
theorem dX2_firstValley_19 : decode cX2_firstValley 19 = .ok (.iaload, 1) := by decide +kernel
theorem dX2_firstValley_20 : decode cX2_firstValley 20 = .ok (.bipush 8, 2) := by decide +kernel
theorem dX2_firstValley_22 : decode cX2_firstValley 22 = .ok (.imul, 1) := by decide +kernel
theorem dX2_firstValley_23 : decode cX2_firstValley 23 = .ok (.aload_n 1, 1) := by decide +kernel
theorem dX2_firstValley_24 : decode cX2_firstValley 24 = .ok (.iload_n 2, 1) := by decide +kernel
theorem dX2_firstValley_25 : decode cX2_firstValley 25 = .ok (.iload 5, 2) := by decide +kernel
theorem dX2_firstValley_27 : decode cX2_firstValley 27 = .ok (.iadd, 1) := by decide +kernel
theorem dX2_firstValley_28 : decode cX2_firstValley 28 = .ok (.iconst 1, 1) := by decide +kernel
theorem dX2_firstValley_29 : decode cX2_firstValley 29 = .ok (.iadd, 1) := by decide +kernel
theorem dX2_firstValley_30 : decode cX2_firstValley 30 = .ok (.iaload, 1) := by decide +kernel
theorem dX2_firstValley_31 : decode cX2_firstValley 31 = .ok (.iadd, 1) := by decide +kernel
theorem dX2_firstValley_32 : decode cX2_firstValley 32 = .ok (.istore 6, 2) := by decide +kernel
theorem dX2_firstValley_34 : decode cX2_firstValley 34 = .ok (.iload 4, 2) := by decide +kernel
theorem dX2_firstValley_36 : decode cX2_firstValley 36 = .ok (.aload_n 0, 1) := by decide +kernel
theorem dX2_firstValley_37 : decode cX2_firstValley 37 = .ok (.getfield 15, 3) := by decide +kernel
theorem dX2_firstValley_40 : decode cX2_firstValley 40 = .ok (.iload 6, 2) := by decide +kernel
theorem dX2_firstValley_42 : decode cX2_firstValley 42 = .ok (.iaload, 1) := by decide +kernel
theorem dX2_firstValley_43 : decode cX2_firstValley 43 = .ok (.invokestatic 61, 3) := by decide +kernel
theorem dX2_firstValley_46 : decode cX2_firstValley 46 = .ok (.istore 4, 2) := by decide +kernel
theorem dX2_firstValley_48 : decode cX2_firstValley 48 = .ok (.iload 4, 2) := by decide +kernel
theorem dX2_firstValley_50 : decode cX2_firstValley 50 = .ok (.iconst (-1), 1) := by decide +kernel
theorem dX2_firstValley_51 : decode cX2_firstValley 51 = .ok (.if_icmp .ne 6, 3) := by decide +kernel
theorem dX2_firstValley_54 : decode cX2_firstValley 54 = .ok (.iload 5, 2) := by decide +kernel
theorem dX2_firstValley_56 : decode cX2_firstValley 56 = .ok (.ireturn, 1) := by decide +kernel
theorem dX2_firstValley_57 : decode cX2_firstValley 57 = .ok (.iinc 5 1, 3) := by decide +kernel
theorem dX2_firstValley_60 : decode cX2_firstValley 60 = .ok (.goto (-54), 3) := by decide +kernel
theorem dX2_firstValley_63 : decode cX2_firstValley 63 = .ok (.iconst (-1), 1) := by decide +kernel
theorem dX2_firstValley_64 : decode cX2_firstValley 64 = .ok (.ireturn, 1) := by decide +kernel
theorem dX2_cone_0 : decode cX2_cone 0 = .ok (.iconst 1, 1) := by decide +kernel
theorem dX2_cone_1 : decode cX2_cone 1 = .ok (.iload_n 1, 1) := by decide +kernel
theorem dX2_cone_2 : decode cX2_cone 2 = .ok (.ishl, 1) := by decide +kernel
theorem dX2_cone_3 : decode cX2_cone 3 = .ok (.istore_n 2, 1) := by decide +kernel
theorem dX2_cone_4 : decode cX2_cone 4 = .ok (.iconst 1, 1) := by decide +kernel
theorem dX2_cone_5 : decode cX2_cone 5 = .ok (.istore_n 3, 1) := by decide +kernel
theorem dX2_cone_6 : decode cX2_cone 6 = .ok (.iload_n 3, 1) := by decide +kernel
theorem dX2_cone_7 : decode cX2_cone 7 = .ok (.bipush 8, 2) := by decide +kernel
theorem dX2_cone_9 : decode cX2_cone 9 = .ok (.if_icmp .ge 48, 3) := by decide +kernel
theorem dX2_cone_12 : decode cX2_cone 12 = .ok (.iconst 0, 1) := by decide +kernel
theorem dX2_cone_13 : decode cX2_cone 13 = .ok (.istore 4, 2) := by decide +kernel
theorem dX2_cone_15 : decode cX2_cone 15 = .ok (.iload 4, 2) := by decide +kernel
theorem dX2_cone_17 : decode cX2_cone 17 = .ok (.bipush 8, 2) := by decide +kernel
theorem dX2_cone_19 : decode cX2_cone 19 = .ok (.if_icmp .ge 32, 3) := by decide +kernel
theorem dX2_cone_22 : decode cX2_cone 22 = .ok (.iload_n 2, 1) := by decide +kernel
theorem dX2_cone_23 : decode cX2_cone 23 = .ok (.iload_n 2, 1) := by decide +kernel
theorem dX2_cone_24 : decode cX2_cone 24 = .ok (.iload 4, 2) := by decide +kernel
theorem dX2_cone_26 : decode cX2_cone 26 = .ok (.invokestatic 42, 3) := by decide +kernel
theorem dX2_cone_29 : decode cX2_cone 29 = .ok (.ifCond .eq 13, 3) := by decide +kernel
theorem dX2_cone_32 : decode cX2_cone 32 = .ok (.aload_n 0, 1) := by decide +kernel
theorem dX2_cone_33 : decode cX2_cone 33 = .ok (.getfield 18, 3) := by decide +kernel
theorem dX2_cone_36 : decode cX2_cone 36 = .ok (.iload 4, 2) := by decide +kernel
theorem dX2_cone_38 : decode cX2_cone 38 = .ok (.iaload, 1) := by decide +kernel
theorem dX2_cone_39 : decode cX2_cone 39 = .ok (.goto 4, 3) := by decide +kernel
theorem dX2_cone_42 : decode cX2_cone 42 = .ok (.iconst 0, 1) := by decide +kernel
theorem dX2_cone_43 : decode cX2_cone 43 = .ok (.ior, 1) := by decide +kernel
theorem dX2_cone_44 : decode cX2_cone 44 = .ok (.istore_n 2, 1) := by decide +kernel
theorem dX2_cone_45 : decode cX2_cone 45 = .ok (.iinc 4 1, 3) := by decide +kernel
theorem dX2_cone_48 : decode cX2_cone 48 = .ok (.goto (-33), 3) := by decide +kernel
theorem dX2_cone_51 : decode cX2_cone 51 = .ok (.iinc 3 1, 3) := by decide +kernel
theorem dX2_cone_54 : decode cX2_cone 54 = .ok (.goto (-48), 3) := by decide +kernel
theorem dX2_cone_57 : decode cX2_cone 57 = .ok (.iload_n 2, 1) := by decide +kernel
theorem dX2_cone_58 : decode cX2_cone 58 = .ok (.ireturn, 1) := by decide +kernel
theorem dX2_named_0 : decode cX2_named 0 = .ok (.iconst 0, 1) := by decide +kernel
theorem dX2_named_1 : decode cX2_named 1 = .ok (.istore_n 2, 1) := by decide +kernel
theorem dX2_named_2 : decode cX2_named 2 = .ok (.iconst 0, 1) := by decide +kernel
theorem dX2_named_3 : decode cX2_named 3 = .ok (.istore_n 3, 1) := by decide +kernel
theorem dX2_named_4 : decode cX2_named 4 = .ok (.iload_n 3, 1) := by decide +kernel
theorem dX2_named_5 : decode cX2_named 5 = .ok (.bipush 8, 2) := by decide +kernel
theorem dX2_named_7 : decode cX2_named 7 = .ok (.if_icmp .ge 46, 3) := by decide +kernel
theorem dX2_named_10 : decode cX2_named 10 = .ok (.iload_n 3, 1) := by decide +kernel
theorem dX2_named_11 : decode cX2_named 11 = .ok (.iconst 1, 1) := by decide +kernel
theorem dX2_named_12 : decode cX2_named 12 = .ok (.iadd, 1) := by decide +kernel
theorem dX2_named_13 : decode cX2_named 13 = .ok (.istore 4, 2) := by decide +kernel
theorem dX2_named_15 : decode cX2_named 15 = .ok (.iload 4, 2) := by decide +kernel
theorem dX2_named_17 : decode cX2_named 17 = .ok (.bipush 8, 2) := by decide +kernel
theorem dX2_named_19 : decode cX2_named 19 = .ok (.if_icmp .ge 28, 3) := by decide +kernel
theorem dX2_named_22 : decode cX2_named 22 = .ok (.aload_n 0, 1) := by decide +kernel
theorem dX2_named_23 : decode cX2_named 23 = .ok (.getfield 15, 3) := by decide +kernel
theorem dX2_named_26 : decode cX2_named 26 = .ok (.iload_n 3, 1) := by decide +kernel
theorem dX2_named_27 : decode cX2_named 27 = .ok (.bipush 8, 2) := by decide +kernel
theorem dX2_named_29 : decode cX2_named 29 = .ok (.imul, 1) := by decide +kernel
theorem dX2_named_30 : decode cX2_named 30 = .ok (.iload 4, 2) := by decide +kernel
theorem dX2_named_32 : decode cX2_named 32 = .ok (.iadd, 1) := by decide +kernel
theorem dX2_named_33 : decode cX2_named 33 = .ok (.iaload, 1) := by decide +kernel
theorem dX2_named_34 : decode cX2_named 34 = .ok (.iload_n 1, 1) := by decide +kernel
theorem dX2_named_35 : decode cX2_named 35 = .ok (.if_icmp .ne 6, 3) := by decide +kernel
theorem dX2_named_38 : decode cX2_named 38 = .ok (.iinc 2 1, 3) := by decide +kernel
theorem dX2_named_41 : decode cX2_named 41 = .ok (.iinc 4 1, 3) := by decide +kernel
theorem dX2_named_44 : decode cX2_named 44 = .ok (.goto (-29), 3) := by decide +kernel
theorem dX2_named_47 : decode cX2_named 47 = .ok (.iinc 3 1, 3) := by decide +kernel
theorem dX2_named_50 : decode cX2_named 50 = .ok (.goto (-46), 3) := by decide +kernel
theorem dX2_named_53 : decode cX2_named 53 = .ok (.iload_n 2, 1) := by decide +kernel
theorem dX2_named_54 : decode cX2_named 54 = .ok (.ireturn, 1) := by decide +kernel
theorem dX2_contradictions_0 : decode cX2_contradictions 0 = .ok (.iconst 0, 1) := by decide +kernel
theorem dX2_contradictions_1 : decode cX2_contradictions 1 = .ok (.istore_n 1, 1) := by decide +kernel
theorem dX2_contradictions_2 : decode cX2_contradictions 2 = .ok (.iconst 0, 1) := by decide +kernel
theorem dX2_contradictions_3 : decode cX2_contradictions 3 = .ok (.istore_n 2, 1) := by decide +kernel
theorem dX2_contradictions_4 : decode cX2_contradictions 4 = .ok (.iload_n 2, 1) := by decide +kernel
theorem dX2_contradictions_5 : decode cX2_contradictions 5 = .ok (.bipush 8, 2) := by decide +kernel
theorem dX2_contradictions_7 : decode cX2_contradictions 7 = .ok (.if_icmp .ge 37, 3) := by decide +kernel
theorem dX2_contradictions_10 : decode cX2_contradictions 10 = .ok (.iload_n 2, 1) := by decide +kernel
theorem dX2_contradictions_11 : decode cX2_contradictions 11 = .ok (.iconst 1, 1) := by decide +kernel
theorem dX2_contradictions_12 : decode cX2_contradictions 12 = .ok (.iadd, 1) := by decide +kernel
theorem dX2_contradictions_13 : decode cX2_contradictions 13 = .ok (.istore_n 3, 1) := by decide +kernel
theorem dX2_contradictions_14 : decode cX2_contradictions 14 = .ok (.iload_n 3, 1) := by decide +kernel
theorem dX2_contradictions_15 : decode cX2_contradictions 15 = .ok (.bipush 8, 2) := by decide +kernel
theorem dX2_contradictions_17 : decode cX2_contradictions 17 = .ok (.if_icmp .ge 21, 3) := by decide +kernel
theorem dX2_contradictions_20 : decode cX2_contradictions 20 = .ok (.aload_n 0, 1) := by decide +kernel
theorem dX2_contradictions_21 : decode cX2_contradictions 21 = .ok (.iload_n 2, 1) := by decide +kernel
theorem dX2_contradictions_22 : decode cX2_contradictions 22 = .ok (.iload_n 3, 1) := by decide +kernel
theorem dX2_contradictions_23 : decode cX2_contradictions 23 = .ok (.invokevirtual 65, 3) := by decide +kernel
theorem dX2_contradictions_26 : decode cX2_contradictions 26 = .ok (.ifCond .le 6, 3) := by decide +kernel
theorem dX2_contradictions_29 : decode cX2_contradictions 29 = .ok (.iinc 1 1, 3) := by decide +kernel
theorem dX2_contradictions_32 : decode cX2_contradictions 32 = .ok (.iinc 3 1, 3) := by decide +kernel
theorem dX2_contradictions_35 : decode cX2_contradictions 35 = .ok (.goto (-21), 3) := by decide +kernel
theorem dX2_contradictions_38 : decode cX2_contradictions 38 = .ok (.iinc 2 1, 3) := by decide +kernel
theorem dX2_contradictions_41 : decode cX2_contradictions 41 = .ok (.goto (-37), 3) := by decide +kernel
theorem dX2_contradictions_44 : decode cX2_contradictions 44 = .ok (.iload_n 1, 1) := by decide +kernel
theorem dX2_contradictions_45 : decode cX2_contradictions 45 = .ok (.ireturn, 1) := by decide +kernel
theorem dX2_contradictedAt_0 : decode cX2_contradictedAt 0 = .ok (.iconst 0, 1) := by decide +kernel
theorem dX2_contradictedAt_1 : decode cX2_contradictedAt 1 = .ok (.istore_n 2, 1) := by decide +kernel
theorem dX2_contradictedAt_2 : decode cX2_contradictedAt 2 = .ok (.bipush 12, 2) := by decide +kernel
theorem dX2_contradictedAt_4 : decode cX2_contradictedAt 4 = .ok (.istore_n 3, 1) := by decide +kernel
theorem dX2_contradictedAt_5 : decode cX2_contradictedAt 5 = .ok (.iload_n 3, 1) := by decide +kernel
theorem dX2_contradictedAt_6 : decode cX2_contradictedAt 6 = .ok (.ifCond .le 76, 3) := by decide +kernel
theorem dX2_contradictedAt_9 : decode cX2_contradictedAt 9 = .ok (.iconst 0, 1) := by decide +kernel
theorem dX2_contradictedAt_10 : decode cX2_contradictedAt 10 = .ok (.istore 4, 2) := by decide +kernel
theorem dX2_contradictedAt_12 : decode cX2_contradictedAt 12 = .ok (.iload 4, 2) := by decide +kernel
theorem dX2_contradictedAt_14 : decode cX2_contradictedAt 14 = .ok (.bipush 8, 2) := by decide +kernel
theorem dX2_contradictedAt_16 : decode cX2_contradictedAt 16 = .ok (.if_icmp .ge 60, 3) := by decide +kernel
theorem dX2_contradictedAt_19 : decode cX2_contradictedAt 19 = .ok (.iload 4, 2) := by decide +kernel
theorem dX2_contradictedAt_21 : decode cX2_contradictedAt 21 = .ok (.iconst 1, 1) := by decide +kernel
theorem dX2_contradictedAt_22 : decode cX2_contradictedAt 22 = .ok (.iadd, 1) := by decide +kernel
theorem dX2_contradictedAt_23 : decode cX2_contradictedAt 23 = .ok (.istore 5, 2) := by decide +kernel
theorem dX2_contradictedAt_25 : decode cX2_contradictedAt 25 = .ok (.iload 5, 2) := by decide +kernel
theorem dX2_contradictedAt_27 : decode cX2_contradictedAt 27 = .ok (.bipush 8, 2) := by decide +kernel
theorem dX2_contradictedAt_29 : decode cX2_contradictedAt 29 = .ok (.if_icmp .ge 41, 3) := by decide +kernel
theorem dX2_contradictedAt_32 : decode cX2_contradictedAt 32 = .ok (.aload_n 0, 1) := by decide +kernel
theorem dX2_contradictedAt_33 : decode cX2_contradictedAt 33 = .ok (.iload 4, 2) := by decide +kernel
theorem dX2_contradictedAt_35 : decode cX2_contradictedAt 35 = .ok (.iload 5, 2) := by decide +kernel
theorem dX2_contradictedAt_37 : decode cX2_contradictedAt 37 = .ok (.invokevirtual 65, 3) := by decide +kernel
theorem dX2_contradictedAt_40 : decode cX2_contradictedAt 40 = .ok (.iload_n 3, 1) := by decide +kernel
theorem dX2_contradictedAt_41 : decode cX2_contradictedAt 41 = .ok (.if_icmp .eq 6, 3) := by decide +kernel
theorem dX2_contradictedAt_44 : decode cX2_contradictedAt 44 = .ok (.goto 20, 3) := by decide +kernel
theorem dX2_contradictedAt_47 : decode cX2_contradictedAt 47 = .ok (.iload_n 2, 1) := by decide +kernel
theorem dX2_contradictedAt_48 : decode cX2_contradictedAt 48 = .ok (.iload_n 1, 1) := by decide +kernel
theorem dX2_contradictedAt_49 : decode cX2_contradictedAt 49 = .ok (.if_icmp .ne 12, 3) := by decide +kernel
theorem dX2_contradictedAt_52 : decode cX2_contradictedAt 52 = .ok (.iload 4, 2) := by decide +kernel
theorem dX2_contradictedAt_54 : decode cX2_contradictedAt 54 = .ok (.bipush 8, 2) := by decide +kernel
theorem dX2_contradictedAt_56 : decode cX2_contradictedAt 56 = .ok (.imul, 1) := by decide +kernel
theorem dX2_contradictedAt_57 : decode cX2_contradictedAt 57 = .ok (.iload 5, 2) := by decide +kernel
theorem dX2_contradictedAt_59 : decode cX2_contradictedAt 59 = .ok (.iadd, 1) := by decide +kernel
theorem dX2_contradictedAt_60 : decode cX2_contradictedAt 60 = .ok (.ireturn, 1) := by decide +kernel
theorem dX2_contradictedAt_61 : decode cX2_contradictedAt 61 = .ok (.iinc 2 1, 3) := by decide +kernel
theorem dX2_contradictedAt_64 : decode cX2_contradictedAt 64 = .ok (.iinc 5 1, 3) := by decide +kernel
theorem dX2_contradictedAt_67 : decode cX2_contradictedAt 67 = .ok (.goto (-42), 3) := by decide +kernel
theorem dX2_contradictedAt_70 : decode cX2_contradictedAt 70 = .ok (.iinc 4 1, 3) := by decide +kernel
theorem dX2_contradictedAt_73 : decode cX2_contradictedAt 73 = .ok (.goto (-61), 3) := by decide +kernel
theorem dX2_contradictedAt_76 : decode cX2_contradictedAt 76 = .ok (.iinc 3 (-1), 3) := by decide +kernel
theorem dX2_contradictedAt_79 : decode cX2_contradictedAt 79 = .ok (.goto (-74), 3) := by decide +kernel
theorem dX2_contradictedAt_82 : decode cX2_contradictedAt 82 = .ok (.iconst (-1), 1) := by decide +kernel
theorem dX2_contradictedAt_83 : decode cX2_contradictedAt 83 = .ok (.ireturn, 1) := by decide +kernel
theorem dX2_lesserVotes_0 : decode cX2_lesserVotes 0 = .ok (.aload_n 0, 1) := by decide +kernel
theorem dX2_lesserVotes_1 : decode cX2_lesserVotes 1 = .ok (.getfield 9, 3) := by decide +kernel
theorem dX2_lesserVotes_4 : decode cX2_lesserVotes 4 = .ok (.iload_n 1, 1) := by decide +kernel
theorem dX2_lesserVotes_5 : decode cX2_lesserVotes 5 = .ok (.bipush 8, 2) := by decide +kernel
theorem dX2_lesserVotes_7 : decode cX2_lesserVotes 7 = .ok (.imul, 1) := by decide +kernel
theorem dX2_lesserVotes_8 : decode cX2_lesserVotes 8 = .ok (.iload_n 2, 1) := by decide +kernel
theorem dX2_lesserVotes_9 : decode cX2_lesserVotes 9 = .ok (.iadd, 1) := by decide +kernel
theorem dX2_lesserVotes_10 : decode cX2_lesserVotes 10 = .ok (.iaload, 1) := by decide +kernel
theorem dX2_lesserVotes_11 : decode cX2_lesserVotes 11 = .ok (.aload_n 0, 1) := by decide +kernel
theorem dX2_lesserVotes_12 : decode cX2_lesserVotes 12 = .ok (.getfield 9, 3) := by decide +kernel
theorem dX2_lesserVotes_15 : decode cX2_lesserVotes 15 = .ok (.iload_n 2, 1) := by decide +kernel
theorem dX2_lesserVotes_16 : decode cX2_lesserVotes 16 = .ok (.bipush 8, 2) := by decide +kernel
theorem dX2_lesserVotes_18 : decode cX2_lesserVotes 18 = .ok (.imul, 1) := by decide +kernel
theorem dX2_lesserVotes_19 : decode cX2_lesserVotes 19 = .ok (.iload_n 1, 1) := by decide +kernel
theorem dX2_lesserVotes_20 : decode cX2_lesserVotes 20 = .ok (.iadd, 1) := by decide +kernel
theorem dX2_lesserVotes_21 : decode cX2_lesserVotes 21 = .ok (.iaload, 1) := by decide +kernel
theorem dX2_lesserVotes_22 : decode cX2_lesserVotes 22 = .ok (.invokestatic 68, 3) := by decide +kernel
theorem dX2_lesserVotes_25 : decode cX2_lesserVotes 25 = .ok (.ireturn, 1) := by decide +kernel
theorem dX3_init_0 : decode cX3_init 0 = .ok (.aload_n 0, 1) := by decide +kernel
theorem dX3_init_1 : decode cX3_init 1 = .ok (.invokespecial 3, 3) := by decide +kernel
theorem dX3_init_4 : decode cX3_init 4 = .ok (.aload_n 0, 1) := by decide +kernel
theorem dX3_init_5 : decode cX3_init 5 = .ok (.bipush 8, 2) := by decide +kernel
theorem dX3_init_7 : decode cX3_init 7 = .ok (.newarray .int, 2) := by decide +kernel
theorem dX3_init_9 : decode cX3_init 9 = .ok (.putfield 9, 3) := by decide +kernel
theorem dX3_init_12 : decode cX3_init 12 = .ok (.aload_n 0, 1) := by decide +kernel
theorem dX3_init_13 : decode cX3_init 13 = .ok (.bipush 8, 2) := by decide +kernel
theorem dX3_init_15 : decode cX3_init 15 = .ok (.newarray .int, 2) := by decide +kernel
theorem dX3_init_17 : decode cX3_init 17 = .ok (.putfield 15, 3) := by decide +kernel
theorem dX3_init_20 : decode cX3_init 20 = .ok (.aload_n 0, 1) := by decide +kernel
theorem dX3_init_21 : decode cX3_init 21 = .ok (.iconst 0, 1) := by decide +kernel
theorem dX3_init_22 : decode cX3_init 22 = .ok (.putfield 18, 3) := by decide +kernel
theorem dX3_init_25 : decode cX3_init 25 = .ok (.aload_n 0, 1) := by decide +kernel
theorem dX3_init_26 : decode cX3_init 26 = .ok (.iconst 0, 1) := by decide +kernel
theorem dX3_init_27 : decode cX3_init 27 = .ok (.putfield 22, 3) := by decide +kernel
theorem dX3_init_30 : decode cX3_init 30 = .ok (.return_, 1) := by decide +kernel
theorem dX3_read_0 : decode cX3_read 0 = .ok (.aload_n 0, 1) := by decide +kernel
theorem dX3_read_1 : decode cX3_read 1 = .ok (.aload_n 1, 1) := by decide +kernel
theorem dX3_read_2 : decode cX3_read 2 = .ok (.getfield 25, 3) := by decide +kernel
theorem dX3_read_5 : decode cX3_read 5 = .ok (.invokestatic 30, 3) := by decide +kernel
theorem dX3_read_8 : decode cX3_read 8 = .ok (.putfield 18, 3) := by decide +kernel
theorem dX3_read_11 : decode cX3_read 11 = .ok (.iconst 0, 1) := by decide +kernel
theorem dX3_read_12 : decode cX3_read 12 = .ok (.istore_n 2, 1) := by decide +kernel
theorem dX3_read_13 : decode cX3_read 13 = .ok (.iload_n 2, 1) := by decide +kernel
theorem dX3_read_14 : decode cX3_read 14 = .ok (.bipush 8, 2) := by decide +kernel
theorem dX3_read_16 : decode cX3_read 16 = .ok (.if_icmp .ge 57, 3) := by decide +kernel
theorem dX3_read_19 : decode cX3_read 19 = .ok (.aload_n 0, 1) := by decide +kernel
theorem dX3_read_20 : decode cX3_read 20 = .ok (.getfield 15, 3) := by decide +kernel
theorem dX3_read_23 : decode cX3_read 23 = .ok (.iload_n 2, 1) := by decide +kernel
theorem dX3_read_24 : decode cX3_read 24 = .ok (.aload_n 1, 1) := by decide +kernel
theorem dX3_read_25 : decode cX3_read 25 = .ok (.getfield 25, 3) := by decide +kernel
theorem dX3_read_28 : decode cX3_read 28 = .ok (.iload_n 2, 1) := by decide +kernel
theorem dX3_read_29 : decode cX3_read 29 = .ok (.invokestatic 36, 3) := by decide +kernel
theorem dX3_read_32 : decode cX3_read 32 = .ok (.ifCond .eq 11, 3) := by decide +kernel
theorem dX3_read_35 : decode cX3_read 35 = .ok (.aload_n 1, 1) := by decide +kernel
theorem dX3_read_36 : decode cX3_read 36 = .ok (.iload_n 2, 1) := by decide +kernel
theorem dX3_read_37 : decode cX3_read 37 = .ok (.invokestatic 42, 3) := by decide +kernel
theorem dX3_read_40 : decode cX3_read 40 = .ok (.goto 4, 3) := by decide +kernel
theorem dX3_read_43 : decode cX3_read 43 = .ok (.iconst (-1), 1) := by decide +kernel
theorem dX3_read_44 : decode cX3_read 44 = .ok (.iastore, 1) := by decide +kernel
theorem dX3_read_45 : decode cX3_read 45 = .ok (.aload_n 0, 1) := by decide +kernel
theorem dX3_read_46 : decode cX3_read 46 = .ok (.getfield 15, 3) := by decide +kernel
theorem dX3_read_49 : decode cX3_read 49 = .ok (.iload_n 2, 1) := by decide +kernel
theorem dX3_read_50 : decode cX3_read 50 = .ok (.iaload, 1) := by decide +kernel
theorem dX3_read_51 : decode cX3_read 51 = .ok (.iconst (-1), 1) := by decide +kernel
theorem dX3_read_52 : decode cX3_read 52 = .ok (.if_icmp .eq 15, 3) := by decide +kernel
theorem dX3_read_55 : decode cX3_read 55 = .ok (.aload_n 0, 1) := by decide +kernel
theorem dX3_read_56 : decode cX3_read 56 = .ok (.getfield 9, 3) := by decide +kernel
theorem dX3_read_59 : decode cX3_read 59 = .ok (.aload_n 0, 1) := by decide +kernel
theorem dX3_read_60 : decode cX3_read 60 = .ok (.getfield 15, 3) := by decide +kernel
theorem dX3_read_63 : decode cX3_read 63 = .ok (.iload_n 2, 1) := by decide +kernel
theorem dX3_read_64 : decode cX3_read 64 = .ok (.iaload, 1) := by decide +kernel
theorem dX3_read_65 : decode cX3_read 65 = .ok (.iload_n 2, 1) := by decide +kernel
theorem dX3_read_66 : decode cX3_read 66 = .ok (.iastore, 1) := by decide +kernel
theorem dX3_read_67 : decode cX3_read 67 = .ok (.iinc 2 1, 3) := by decide +kernel
theorem dX3_read_70 : decode cX3_read 70 = .ok (.goto (-57), 3) := by decide +kernel
theorem dX3_read_73 : decode cX3_read 73 = .ok (.aload_n 0, 1) := by decide +kernel
theorem dX3_read_74 : decode cX3_read 74 = .ok (.aload_n 0, 1) := by decide +kernel
theorem dX3_read_75 : decode cX3_read 75 = .ok (.getfield 18, 3) := by decide +kernel
theorem dX3_read_78 : decode cX3_read 78 = .ok (.ifCond .ne 7, 3) := by decide +kernel
theorem dX3_read_81 : decode cX3_read 81 = .ok (.iconst 0, 1) := by decide +kernel
theorem dX3_read_82 : decode cX3_read 82 = .ok (.goto 13, 3) := by decide +kernel
theorem dX3_read_85 : decode cX3_read 85 = .ok (.aload_n 1, 1) := by decide +kernel
theorem dX3_read_86 : decode cX3_read 86 = .ok (.aload_n 0, 1) := by decide +kernel
theorem dX3_read_87 : decode cX3_read 87 = .ok (.getfield 9, 3) := by decide +kernel
theorem dX3_read_90 : decode cX3_read 90 = .ok (.iconst 0, 1) := by decide +kernel
theorem dX3_read_91 : decode cX3_read 91 = .ok (.iaload, 1) := by decide +kernel
theorem dX3_read_92 : decode cX3_read 92 = .ok (.invokestatic 46, 3) := by decide +kernel
theorem dX3_read_95 : decode cX3_read 95 = .ok (.putfield 22, 3) := by decide +kernel
theorem dX3_read_98 : decode cX3_read 98 = .ok (.return_, 1) := by decide +kernel
theorem dX3_firstOf_0 : decode cX3_firstOf 0 = .ok (.iconst (-1), 1) := by decide +kernel
theorem dX3_firstOf_1 : decode cX3_firstOf 1 = .ok (.istore 4, 2) := by decide +kernel
theorem dX3_firstOf_3 : decode cX3_firstOf 3 = .ok (.iconst 0, 1) := by decide +kernel
theorem dX3_firstOf_4 : decode cX3_firstOf 4 = .ok (.istore 5, 2) := by decide +kernel
theorem dX3_firstOf_6 : decode cX3_firstOf 6 = .ok (.iload 5, 2) := by decide +kernel
theorem dX3_firstOf_8 : decode cX3_firstOf 8 = .ok (.iload_n 3, 1) := by decide +kernel
theorem dX3_firstOf_9 : decode cX3_firstOf 9 = .ok (.if_icmp .ge 44, 3) := by decide +kernel
theorem dX3_firstOf_12 : decode cX3_firstOf 12 = .ok (.iload 4, 2) := by decide +kernel
theorem dX3_firstOf_14 : decode cX3_firstOf 14 = .ok (.iconst (-1), 1) := by decide +kernel
theorem dX3_firstOf_15 : decode cX3_firstOf 15 = .ok (.if_icmp .eq 28, 3) := by decide +kernel
theorem dX3_firstOf_18 : decode cX3_firstOf 18 = .ok (.aload_n 0, 1) := by decide +kernel
theorem dX3_firstOf_19 : decode cX3_firstOf 19 = .ok (.getfield 15, 3) := by decide +kernel
theorem dX3_firstOf_22 : decode cX3_firstOf 22 = .ok (.aload_n 1, 1) := by decide +kernel
theorem dX3_firstOf_23 : decode cX3_firstOf 23 = .ok (.iload_n 2, 1) := by decide +kernel
theorem dX3_firstOf_24 : decode cX3_firstOf 24 = .ok (.iload 5, 2) := by decide +kernel
theorem dX3_firstOf_26 : decode cX3_firstOf 26 = .ok (.iadd, 1) := by decide +kernel
theorem dX3_firstOf_27 : decode cX3_firstOf 27 = .ok (.iaload, 1) := by decide +kernel
theorem dX3_firstOf_28 : decode cX3_firstOf 28 = .ok (.iaload, 1) := by decide +kernel
theorem dX3_firstOf_29 : decode cX3_firstOf 29 = .ok (.aload_n 0, 1) := by decide +kernel
theorem dX3_firstOf_30 : decode cX3_firstOf 30 = .ok (.getfield 15, 3) := by decide +kernel
theorem dX3_firstOf_33 : decode cX3_firstOf 33 = .ok (.aload_n 1, 1) := by decide +kernel
theorem dX3_firstOf_34 : decode cX3_firstOf 34 = .ok (.iload_n 2, 1) := by decide +kernel
theorem dX3_firstOf_35 : decode cX3_firstOf 35 = .ok (.iload 4, 2) := by decide +kernel
theorem dX3_firstOf_37 : decode cX3_firstOf 37 = .ok (.iadd, 1) := by decide +kernel
theorem dX3_firstOf_38 : decode cX3_firstOf 38 = .ok (.iaload, 1) := by decide +kernel
theorem dX3_firstOf_39 : decode cX3_firstOf 39 = .ok (.iaload, 1) := by decide +kernel
theorem dX3_firstOf_40 : decode cX3_firstOf 40 = .ok (.if_icmp .ge 7, 3) := by decide +kernel
theorem dX3_firstOf_43 : decode cX3_firstOf 43 = .ok (.iload 5, 2) := by decide +kernel
theorem dX3_firstOf_45 : decode cX3_firstOf 45 = .ok (.istore 4, 2) := by decide +kernel
theorem dX3_firstOf_47 : decode cX3_firstOf 47 = .ok (.iinc 5 1, 3) := by decide +kernel
theorem dX3_firstOf_50 : decode cX3_firstOf 50 = .ok (.goto (-44), 3) := by decide +kernel
theorem dX3_firstOf_53 : decode cX3_firstOf 53 = .ok (.iload 4, 2) := by decide +kernel
theorem dX3_firstOf_55 : decode cX3_firstOf 55 = .ok (.ireturn, 1) := by decide +kernel
theorem dX3_countAhead_0 : decode cX3_countAhead 0 = .ok (.iconst 0, 1) := by decide +kernel
theorem dX3_countAhead_1 : decode cX3_countAhead 1 = .ok (.istore_n 2, 1) := by decide +kernel
theorem dX3_countAhead_2 : decode cX3_countAhead 2 = .ok (.iconst 0, 1) := by decide +kernel
theorem dX3_countAhead_3 : decode cX3_countAhead 3 = .ok (.istore_n 3, 1) := by decide +kernel
theorem dX3_countAhead_4 : decode cX3_countAhead 4 = .ok (.iload_n 3, 1) := by decide +kernel
theorem dX3_countAhead_5 : decode cX3_countAhead 5 = .ok (.bipush 8, 2) := by decide +kernel
theorem dX3_countAhead_7 : decode cX3_countAhead 7 = .ok (.if_icmp .ge 32, 3) := by decide +kernel
theorem dX3_countAhead_10 : decode cX3_countAhead 10 = .ok (.aload_n 0, 1) := by decide +kernel
theorem dX3_countAhead_11 : decode cX3_countAhead 11 = .ok (.getfield 25, 3) := by decide +kernel
theorem dX3_countAhead_14 : decode cX3_countAhead 14 = .ok (.iload_n 3, 1) := by decide +kernel
theorem dX3_countAhead_15 : decode cX3_countAhead 15 = .ok (.invokestatic 36, 3) := by decide +kernel
theorem dX3_countAhead_18 : decode cX3_countAhead 18 = .ok (.ifCond .eq 15, 3) := by decide +kernel
theorem dX3_countAhead_21 : decode cX3_countAhead 21 = .ok (.aload_n 0, 1) := by decide +kernel
theorem dX3_countAhead_22 : decode cX3_countAhead 22 = .ok (.iload_n 3, 1) := by decide +kernel
theorem dX3_countAhead_23 : decode cX3_countAhead 23 = .ok (.iload_n 1, 1) := by decide +kernel
theorem dX3_countAhead_24 : decode cX3_countAhead 24 = .ok (.invokestatic 49, 3) := by decide +kernel
theorem dX3_countAhead_27 : decode cX3_countAhead 27 = .ok (.ifCond .eq 6, 3) := by decide +kernel
theorem dX3_countAhead_30 : decode cX3_countAhead 30 = .ok (.iinc 2 1, 3) := by decide +kernel
theorem dX3_countAhead_33 : decode cX3_countAhead 33 = .ok (.iinc 3 1, 3) := by decide +kernel
theorem dX3_countAhead_36 : decode cX3_countAhead 36 = .ok (.goto (-32), 3) := by decide +kernel
theorem dX3_countAhead_39 : decode cX3_countAhead 39 = .ok (.iload_n 2, 1) := by decide +kernel
theorem dX3_countAhead_40 : decode cX3_countAhead 40 = .ok (.ireturn, 1) := by decide +kernel
theorem dX3_isAhead_0 : decode cX3_isAhead 0 = .ok (.aload_n 0, 1) := by decide +kernel
theorem dX3_isAhead_1 : decode cX3_isAhead 1 = .ok (.getfield 53, 3) := by decide +kernel
theorem dX3_isAhead_4 : decode cX3_isAhead 4 = .ok (.iload_n 1, 1) := by decide +kernel
theorem dX3_isAhead_5 : decode cX3_isAhead 5 = .ok (.iaload, 1) := by decide +kernel
theorem dX3_isAhead_6 : decode cX3_isAhead 6 = .ok (.aload_n 0, 1) := by decide +kernel
theorem dX3_isAhead_7 : decode cX3_isAhead 7 = .ok (.getfield 53, 3) := by decide +kernel
theorem dX3_isAhead_10 : decode cX3_isAhead 10 = .ok (.iload_n 2, 1) := by decide +kernel
theorem dX3_isAhead_11 : decode cX3_isAhead 11 = .ok (.iaload, 1) := by decide +kernel
theorem dX3_isAhead_12 : decode cX3_isAhead 12 = .ok (.if_icmp .eq 24, 3) := by decide +kernel
theorem dX3_isAhead_15 : decode cX3_isAhead 15 = .ok (.aload_n 0, 1) := by decide +kernel
theorem dX3_isAhead_16 : decode cX3_isAhead 16 = .ok (.getfield 53, 3) := by decide +kernel
theorem dX3_isAhead_19 : decode cX3_isAhead 19 = .ok (.iload_n 1, 1) := by decide +kernel
theorem dX3_isAhead_20 : decode cX3_isAhead 20 = .ok (.iaload, 1) := by decide +kernel
theorem dX3_isAhead_21 : decode cX3_isAhead 21 = .ok (.aload_n 0, 1) := by decide +kernel
theorem dX3_isAhead_22 : decode cX3_isAhead 22 = .ok (.getfield 53, 3) := by decide +kernel
theorem dX3_isAhead_25 : decode cX3_isAhead 25 = .ok (.iload_n 2, 1) := by decide +kernel
theorem dX3_isAhead_26 : decode cX3_isAhead 26 = .ok (.iaload, 1) := by decide +kernel
theorem dX3_isAhead_27 : decode cX3_isAhead 27 = .ok (.if_icmp .le 7, 3) := by decide +kernel
theorem dX3_isAhead_30 : decode cX3_isAhead 30 = .ok (.iconst 1, 1) := by decide +kernel
theorem dX3_isAhead_31 : decode cX3_isAhead 31 = .ok (.goto 4, 3) := by decide +kernel
theorem dX3_isAhead_34 : decode cX3_isAhead 34 = .ok (.iconst 0, 1) := by decide +kernel
theorem dX3_isAhead_35 : decode cX3_isAhead 35 = .ok (.ireturn, 1) := by decide +kernel
theorem dX3_isAhead_36 : decode cX3_isAhead 36 = .ok (.aload_n 0, 1) := by decide +kernel
theorem dX3_isAhead_37 : decode cX3_isAhead 37 = .ok (.getfield 56, 3) := by decide +kernel
theorem dX3_isAhead_40 : decode cX3_isAhead 40 = .ok (.iload_n 1, 1) := by decide +kernel
theorem dX3_isAhead_41 : decode cX3_isAhead 41 = .ok (.iaload, 1) := by decide +kernel
theorem dX3_isAhead_42 : decode cX3_isAhead 42 = .ok (.aload_n 0, 1) := by decide +kernel
theorem dX3_isAhead_43 : decode cX3_isAhead 43 = .ok (.getfield 56, 3) := by decide +kernel
theorem dX3_isAhead_46 : decode cX3_isAhead 46 = .ok (.iload_n 2, 1) := by decide +kernel
theorem dX3_isAhead_47 : decode cX3_isAhead 47 = .ok (.iaload, 1) := by decide +kernel
theorem dX3_isAhead_48 : decode cX3_isAhead 48 = .ok (.if_icmp .eq 24, 3) := by decide +kernel
theorem dX3_isAhead_51 : decode cX3_isAhead 51 = .ok (.aload_n 0, 1) := by decide +kernel
theorem dX3_isAhead_52 : decode cX3_isAhead 52 = .ok (.getfield 56, 3) := by decide +kernel
theorem dX3_isAhead_55 : decode cX3_isAhead 55 = .ok (.iload_n 1, 1) := by decide +kernel
theorem dX3_isAhead_56 : decode cX3_isAhead 56 = .ok (.iaload, 1) := by decide +kernel
theorem dX3_isAhead_57 : decode cX3_isAhead 57 = .ok (.aload_n 0, 1) := by decide +kernel
theorem dX3_isAhead_58 : decode cX3_isAhead 58 = .ok (.getfield 56, 3) := by decide +kernel
theorem dX3_isAhead_61 : decode cX3_isAhead 61 = .ok (.iload_n 2, 1) := by decide +kernel
theorem dX3_isAhead_62 : decode cX3_isAhead 62 = .ok (.iaload, 1) := by decide +kernel
theorem dX3_isAhead_63 : decode cX3_isAhead 63 = .ok (.if_icmp .le 7, 3) := by decide +kernel
theorem dX3_isAhead_66 : decode cX3_isAhead 66 = .ok (.iconst 1, 1) := by decide +kernel
theorem dX3_isAhead_67 : decode cX3_isAhead 67 = .ok (.goto 4, 3) := by decide +kernel
theorem dX3_isAhead_70 : decode cX3_isAhead 70 = .ok (.iconst 0, 1) := by decide +kernel
theorem dX3_isAhead_71 : decode cX3_isAhead 71 = .ok (.ireturn, 1) := by decide +kernel
theorem dX3_isAhead_72 : decode cX3_isAhead 72 = .ok (.iload_n 1, 1) := by decide +kernel
theorem dX3_isAhead_73 : decode cX3_isAhead 73 = .ok (.iload_n 2, 1) := by decide +kernel
theorem dX3_isAhead_74 : decode cX3_isAhead 74 = .ok (.if_icmp .ge 7, 3) := by decide +kernel
theorem dX3_isAhead_77 : decode cX3_isAhead 77 = .ok (.iconst 1, 1) := by decide +kernel
theorem dX3_isAhead_78 : decode cX3_isAhead 78 = .ok (.goto 4, 3) := by decide +kernel
theorem dX3_isAhead_81 : decode cX3_isAhead 81 = .ok (.iconst 0, 1) := by decide +kernel
theorem dX3_isAhead_82 : decode cX3_isAhead 82 = .ok (.ireturn, 1) := by decide +kernel
theorem dX3_bestSet_0 : decode cX3_bestSet 0 = .ok (.iconst 1, 1) := by decide +kernel
theorem dX3_bestSet_1 : decode cX3_bestSet 1 = .ok (.iload_n 1, 1) := by decide +kernel
theorem dX3_bestSet_2 : decode cX3_bestSet 2 = .ok (.ishl, 1) := by decide +kernel
theorem dX3_bestSet_3 : decode cX3_bestSet 3 = .ok (.istore_n 2, 1) := by decide +kernel
theorem dX3_bestSet_4 : decode cX3_bestSet 4 = .ok (.iconst 1, 1) := by decide +kernel
theorem dX3_bestSet_5 : decode cX3_bestSet 5 = .ok (.istore_n 3, 1) := by decide +kernel
theorem dX3_bestSet_6 : decode cX3_bestSet 6 = .ok (.iload_n 3, 1) := by decide +kernel
theorem dX3_bestSet_7 : decode cX3_bestSet 7 = .ok (.sipush 256, 3) := by decide +kernel
theorem dX3_bestSet_10 : decode cX3_bestSet 10 = .ok (.if_icmp .ge 36, 3) := by decide +kernel
theorem dX3_bestSet_13 : decode cX3_bestSet 13 = .ok (.iload_n 3, 1) := by decide +kernel
theorem dX3_bestSet_14 : decode cX3_bestSet 14 = .ok (.iload_n 1, 1) := by decide +kernel
theorem dX3_bestSet_15 : decode cX3_bestSet 15 = .ok (.invokestatic 36, 3) := by decide +kernel
theorem dX3_bestSet_18 : decode cX3_bestSet 18 = .ok (.ifCond .eq 22, 3) := by decide +kernel
theorem dX3_bestSet_21 : decode cX3_bestSet 21 = .ok (.aload_n 0, 1) := by decide +kernel
theorem dX3_bestSet_22 : decode cX3_bestSet 22 = .ok (.iload_n 3, 1) := by decide +kernel
theorem dX3_bestSet_23 : decode cX3_bestSet 23 = .ok (.invokestatic 59, 3) := by decide +kernel
theorem dX3_bestSet_26 : decode cX3_bestSet 26 = .ok (.ifCond .eq 14, 3) := by decide +kernel
theorem dX3_bestSet_29 : decode cX3_bestSet 29 = .ok (.aload_n 0, 1) := by decide +kernel
theorem dX3_bestSet_30 : decode cX3_bestSet 30 = .ok (.iload_n 3, 1) := by decide +kernel
theorem dX3_bestSet_31 : decode cX3_bestSet 31 = .ok (.iload_n 2, 1) := by decide +kernel
theorem dX3_bestSet_32 : decode cX3_bestSet 32 = .ok (.invokestatic 63, 3) := by decide +kernel
theorem dX3_bestSet_35 : decode cX3_bestSet 35 = .ok (.ifCond .eq 5, 3) := by decide +kernel
theorem dX3_bestSet_38 : decode cX3_bestSet 38 = .ok (.iload_n 3, 1) := by decide +kernel
theorem dX3_bestSet_39 : decode cX3_bestSet 39 = .ok (.istore_n 2, 1) := by decide +kernel
theorem dX3_bestSet_40 : decode cX3_bestSet 40 = .ok (.iinc 3 1, 3) := by decide +kernel
theorem dX3_bestSet_43 : decode cX3_bestSet 43 = .ok (.goto (-37), 3) := by decide +kernel
theorem dX3_bestSet_46 : decode cX3_bestSet 46 = .ok (.iload_n 2, 1) := by decide +kernel
theorem dX3_bestSet_47 : decode cX3_bestSet 47 = .ok (.ireturn, 1) := by decide +kernel
theorem dX3_isAllLinked_0 : decode cX3_isAllLinked 0 = .ok (.iconst 0, 1) := by decide +kernel
theorem dX3_isAllLinked_1 : decode cX3_isAllLinked 1 = .ok (.istore_n 2, 1) := by decide +kernel
theorem dX3_isAllLinked_2 : decode cX3_isAllLinked 2 = .ok (.iload_n 2, 1) := by decide +kernel
theorem dX3_isAllLinked_3 : decode cX3_isAllLinked 3 = .ok (.bipush 8, 2) := by decide +kernel
theorem dX3_isAllLinked_5 : decode cX3_isAllLinked 5 = .ok (.if_icmp .ge 40, 3) := by decide +kernel
theorem dX3_isAllLinked_8 : decode cX3_isAllLinked 8 = .ok (.iload_n 1, 1) := by decide +kernel
theorem dX3_isAllLinked_9 : decode cX3_isAllLinked 9 = .ok (.iconst 1, 1) := by decide +kernel
theorem dX3_isAllLinked_10 : decode cX3_isAllLinked 10 = .ok (.iload_n 2, 1) := by decide +kernel
theorem dX3_isAllLinked_11 : decode cX3_isAllLinked 11 = .ok (.ishl, 1) := by decide +kernel
theorem dX3_isAllLinked_12 : decode cX3_isAllLinked 12 = .ok (.iconst (-1), 1) := by decide +kernel
theorem dX3_isAllLinked_13 : decode cX3_isAllLinked 13 = .ok (.ixor, 1) := by decide +kernel
theorem dX3_isAllLinked_14 : decode cX3_isAllLinked 14 = .ok (.iand, 1) := by decide +kernel
theorem dX3_isAllLinked_15 : decode cX3_isAllLinked 15 = .ok (.istore_n 3, 1) := by decide +kernel
theorem dX3_isAllLinked_16 : decode cX3_isAllLinked 16 = .ok (.iload_n 1, 1) := by decide +kernel
theorem dX3_isAllLinked_17 : decode cX3_isAllLinked 17 = .ok (.iload_n 2, 1) := by decide +kernel
theorem dX3_isAllLinked_18 : decode cX3_isAllLinked 18 = .ok (.invokestatic 36, 3) := by decide +kernel
theorem dX3_isAllLinked_21 : decode cX3_isAllLinked 21 = .ok (.ifCond .eq 18, 3) := by decide +kernel
theorem dX3_isAllLinked_24 : decode cX3_isAllLinked 24 = .ok (.iload_n 3, 1) := by decide +kernel
theorem dX3_isAllLinked_25 : decode cX3_isAllLinked 25 = .ok (.aload_n 0, 1) := by decide +kernel
theorem dX3_isAllLinked_26 : decode cX3_isAllLinked 26 = .ok (.getfield 66, 3) := by decide +kernel
theorem dX3_isAllLinked_29 : decode cX3_isAllLinked 29 = .ok (.iload_n 2, 1) := by decide +kernel
theorem dX3_isAllLinked_30 : decode cX3_isAllLinked 30 = .ok (.iaload, 1) := by decide +kernel
theorem dX3_isAllLinked_31 : decode cX3_isAllLinked 31 = .ok (.iconst (-1), 1) := by decide +kernel
theorem dX3_isAllLinked_32 : decode cX3_isAllLinked 32 = .ok (.ixor, 1) := by decide +kernel
theorem dX3_isAllLinked_33 : decode cX3_isAllLinked 33 = .ok (.iand, 1) := by decide +kernel
theorem dX3_isAllLinked_34 : decode cX3_isAllLinked 34 = .ok (.ifCond .eq 5, 3) := by decide +kernel
theorem dX3_isAllLinked_37 : decode cX3_isAllLinked 37 = .ok (.iconst 0, 1) := by decide +kernel
theorem dX3_isAllLinked_38 : decode cX3_isAllLinked 38 = .ok (.ireturn, 1) := by decide +kernel
theorem dX3_isAllLinked_39 : decode cX3_isAllLinked 39 = .ok (.iinc 2 1, 3) := by decide +kernel
theorem dX3_isAllLinked_42 : decode cX3_isAllLinked 42 = .ok (.goto (-40), 3) := by decide +kernel
theorem dX3_isAllLinked_45 : decode cX3_isAllLinked 45 = .ok (.iconst 1, 1) := by decide +kernel
theorem dX3_isAllLinked_46 : decode cX3_isAllLinked 46 = .ok (.ireturn, 1) := by decide +kernel
theorem dX3_isBetter_0 : decode cX3_isBetter 0 = .ok (.iload_n 1, 1) := by decide +kernel
theorem dX3_isBetter_1 : decode cX3_isBetter 1 = .ok (.invokestatic 30, 3) := by decide +kernel
theorem dX3_isBetter_4 : decode cX3_isBetter 4 = .ok (.iload_n 2, 1) := by decide +kernel
theorem dX3_isBetter_5 : decode cX3_isBetter 5 = .ok (.invokestatic 30, 3) := by decide +kernel
theorem dX3_isBetter_8 : decode cX3_isBetter 8 = .ok (.isub, 1) := by decide +kernel
theorem dX3_isBetter_9 : decode cX3_isBetter 9 = .ok (.istore_n 3, 1) := by decide +kernel
theorem dX3_isBetter_10 : decode cX3_isBetter 10 = .ok (.iload_n 3, 1) := by decide +kernel
theorem dX3_isBetter_11 : decode cX3_isBetter 11 = .ok (.ifCond .eq 15, 3) := by decide +kernel
theorem dX3_isBetter_14 : decode cX3_isBetter 14 = .ok (.iload_n 3, 1) := by decide +kernel
theorem dX3_isBetter_15 : decode cX3_isBetter 15 = .ok (.ifCond .le 7, 3) := by decide +kernel
theorem dX3_isBetter_18 : decode cX3_isBetter 18 = .ok (.iconst 1, 1) := by decide +kernel
theorem dX3_isBetter_19 : decode cX3_isBetter 19 = .ok (.goto 25, 3) := by decide +kernel
theorem dX3_isBetter_22 : decode cX3_isBetter 22 = .ok (.iconst 0, 1) := by decide +kernel
theorem dX3_isBetter_23 : decode cX3_isBetter 23 = .ok (.goto 21, 3) := by decide +kernel
theorem dX3_isBetter_26 : decode cX3_isBetter 26 = .ok (.aload_n 0, 1) := by decide +kernel
theorem dX3_isBetter_27 : decode cX3_isBetter 27 = .ok (.iload_n 1, 1) := by decide +kernel
theorem dX3_isBetter_28 : decode cX3_isBetter 28 = .ok (.invokestatic 69, 3) := by decide +kernel
theorem dX3_isBetter_31 : decode cX3_isBetter 31 = .ok (.aload_n 0, 1) := by decide +kernel
theorem dX3_isBetter_32 : decode cX3_isBetter 32 = .ok (.iload_n 2, 1) := by decide +kernel
theorem dX3_isBetter_33 : decode cX3_isBetter 33 = .ok (.invokestatic 69, 3) := by decide +kernel
theorem dX3_isBetter_36 : decode cX3_isBetter 36 = .ok (.if_icmp .le 7, 3) := by decide +kernel
theorem dX3_isBetter_39 : decode cX3_isBetter 39 = .ok (.iconst 1, 1) := by decide +kernel
theorem dX3_isBetter_40 : decode cX3_isBetter 40 = .ok (.goto 4, 3) := by decide +kernel
theorem dX3_isBetter_43 : decode cX3_isBetter 43 = .ok (.iconst 0, 1) := by decide +kernel
theorem dX3_isBetter_44 : decode cX3_isBetter 44 = .ok (.ireturn, 1) := by decide +kernel
theorem dX3_degreeSum_0 : decode cX3_degreeSum 0 = .ok (.iconst 0, 1) := by decide +kernel
theorem dX3_degreeSum_1 : decode cX3_degreeSum 1 = .ok (.istore_n 2, 1) := by decide +kernel
theorem dX3_degreeSum_2 : decode cX3_degreeSum 2 = .ok (.iconst 0, 1) := by decide +kernel
theorem dX3_degreeSum_3 : decode cX3_degreeSum 3 = .ok (.istore_n 3, 1) := by decide +kernel
theorem dX3_degreeSum_4 : decode cX3_degreeSum 4 = .ok (.iload_n 3, 1) := by decide +kernel
theorem dX3_degreeSum_5 : decode cX3_degreeSum 5 = .ok (.bipush 8, 2) := by decide +kernel
theorem dX3_degreeSum_7 : decode cX3_degreeSum 7 = .ok (.if_icmp .ge 30, 3) := by decide +kernel
theorem dX3_degreeSum_10 : decode cX3_degreeSum 10 = .ok (.iload_n 2, 1) := by decide +kernel
theorem dX3_degreeSum_11 : decode cX3_degreeSum 11 = .ok (.iload_n 1, 1) := by decide +kernel
theorem dX3_degreeSum_12 : decode cX3_degreeSum 12 = .ok (.iload_n 3, 1) := by decide +kernel
theorem dX3_degreeSum_13 : decode cX3_degreeSum 13 = .ok (.invokestatic 36, 3) := by decide +kernel
theorem dX3_degreeSum_16 : decode cX3_degreeSum 16 = .ok (.ifCond .eq 12, 3) := by decide +kernel
theorem dX3_degreeSum_19 : decode cX3_degreeSum 19 = .ok (.aload_n 0, 1) := by decide +kernel
theorem dX3_degreeSum_20 : decode cX3_degreeSum 20 = .ok (.getfield 56, 3) := by decide +kernel
theorem dX3_degreeSum_23 : decode cX3_degreeSum 23 = .ok (.iload_n 3, 1) := by decide +kernel
theorem dX3_degreeSum_24 : decode cX3_degreeSum 24 = .ok (.iaload, 1) := by decide +kernel
theorem dX3_degreeSum_25 : decode cX3_degreeSum 25 = .ok (.goto 4, 3) := by decide +kernel
theorem dX3_degreeSum_28 : decode cX3_degreeSum 28 = .ok (.iconst 0, 1) := by decide +kernel
theorem dX3_degreeSum_29 : decode cX3_degreeSum 29 = .ok (.iadd, 1) := by decide +kernel
theorem dX3_degreeSum_30 : decode cX3_degreeSum 30 = .ok (.istore_n 2, 1) := by decide +kernel
theorem dX3_degreeSum_31 : decode cX3_degreeSum 31 = .ok (.iinc 3 1, 3) := by decide +kernel
theorem dX3_degreeSum_34 : decode cX3_degreeSum 34 = .ok (.goto (-30), 3) := by decide +kernel
theorem dX3_degreeSum_37 : decode cX3_degreeSum 37 = .ok (.iload_n 2, 1) := by decide +kernel
theorem dX3_degreeSum_38 : decode cX3_degreeSum 38 = .ok (.ireturn, 1) := by decide +kernel
theorem dX4_init_0 : decode cX4_init 0 = .ok (.aload_n 0, 1) := by decide +kernel
theorem dX4_init_1 : decode cX4_init 1 = .ok (.invokespecial 3, 3) := by decide +kernel
theorem dX4_init_4 : decode cX4_init 4 = .ok (.aload_n 0, 1) := by decide +kernel
theorem dX4_init_5 : decode cX4_init 5 = .ok (.bipush 6, 2) := by decide +kernel
theorem dX4_init_7 : decode cX4_init 7 = .ok (.newarray .int, 2) := by decide +kernel
theorem dX4_init_9 : decode cX4_init 9 = .ok (.putfield 9, 3) := by decide +kernel
theorem dX4_init_12 : decode cX4_init 12 = .ok (.aload_n 0, 1) := by decide +kernel
theorem dX4_init_13 : decode cX4_init 13 = .ok (.iconst 0, 1) := by decide +kernel
theorem dX4_init_14 : decode cX4_init 14 = .ok (.putfield 15, 3) := by decide +kernel
theorem dX4_init_17 : decode cX4_init 17 = .ok (.return_, 1) := by decide +kernel
theorem dX4_append_0 : decode cX4_append 0 = .ok (.aload_n 0, 1) := by decide +kernel
theorem dX4_append_1 : decode cX4_append 1 = .ok (.getfield 15, 3) := by decide +kernel
theorem dX4_append_4 : decode cX4_append 4 = .ok (.bipush 6, 2) := by decide +kernel
theorem dX4_append_6 : decode cX4_append 6 = .ok (.if_icmp .ge 26, 3) := by decide +kernel
theorem dX4_append_9 : decode cX4_append 9 = .ok (.aload_n 0, 1) := by decide +kernel
theorem dX4_append_10 : decode cX4_append 10 = .ok (.getfield 9, 3) := by decide +kernel
theorem dX4_append_13 : decode cX4_append 13 = .ok (.aload_n 0, 1) := by decide +kernel
theorem dX4_append_14 : decode cX4_append 14 = .ok (.getfield 15, 3) := by decide +kernel
theorem dX4_append_17 : decode cX4_append 17 = .ok (.iload_n 1, 1) := by decide +kernel
theorem dX4_append_18 : decode cX4_append 18 = .ok (.bipush 48, 2) := by decide +kernel
theorem dX4_append_20 : decode cX4_append 20 = .ok (.isub, 1) := by decide +kernel
theorem dX4_append_21 : decode cX4_append 21 = .ok (.iastore, 1) := by decide +kernel
theorem dX4_append_22 : decode cX4_append 22 = .ok (.aload_n 0, 1) := by decide +kernel
theorem dX4_append_23 : decode cX4_append 23 = .ok (.dup, 1) := by decide +kernel
theorem dX4_append_24 : decode cX4_append 24 = .ok (.getfield 15, 3) := by decide +kernel
theorem dX4_append_27 : decode cX4_append 27 = .ok (.iconst 1, 1) := by decide +kernel
theorem dX4_append_28 : decode cX4_append 28 = .ok (.iadd, 1) := by decide +kernel
theorem dX4_append_29 : decode cX4_append 29 = .ok (.putfield 15, 3) := by decide +kernel
theorem dX4_append_32 : decode cX4_append 32 = .ok (.return_, 1) := by decide +kernel
theorem dX4_codeAt_0 : decode cX4_codeAt 0 = .ok (.iload_n 1, 1) := by decide +kernel
theorem dX4_codeAt_1 : decode cX4_codeAt 1 = .ok (.ifCond .lt 23, 3) := by decide +kernel
theorem dX4_codeAt_4 : decode cX4_codeAt 4 = .ok (.iload_n 1, 1) := by decide +kernel
theorem dX4_codeAt_5 : decode cX4_codeAt 5 = .ok (.aload_n 0, 1) := by decide +kernel
theorem dX4_codeAt_6 : decode cX4_codeAt 6 = .ok (.getfield 15, 3) := by decide +kernel
theorem dX4_codeAt_9 : decode cX4_codeAt 9 = .ok (.if_icmp .ge 15, 3) := by decide +kernel
theorem dX4_codeAt_12 : decode cX4_codeAt 12 = .ok (.aload_n 0, 1) := by decide +kernel
theorem dX4_codeAt_13 : decode cX4_codeAt 13 = .ok (.getfield 9, 3) := by decide +kernel
theorem dX4_codeAt_16 : decode cX4_codeAt 16 = .ok (.iload_n 1, 1) := by decide +kernel
theorem dX4_codeAt_17 : decode cX4_codeAt 17 = .ok (.iaload, 1) := by decide +kernel
theorem dX4_codeAt_18 : decode cX4_codeAt 18 = .ok (.bipush 48, 2) := by decide +kernel
theorem dX4_codeAt_20 : decode cX4_codeAt 20 = .ok (.iadd, 1) := by decide +kernel
theorem dX4_codeAt_21 : decode cX4_codeAt 21 = .ok (.goto 4, 3) := by decide +kernel
theorem dX4_codeAt_24 : decode cX4_codeAt 24 = .ok (.iconst (-1), 1) := by decide +kernel
theorem dX4_codeAt_25 : decode cX4_codeAt 25 = .ok (.ireturn, 1) := by decide +kernel
theorem dX4_firstFault_0 : decode cX4_firstFault 0 = .ok (.iconst 0, 1) := by decide +kernel
theorem dX4_firstFault_1 : decode cX4_firstFault 1 = .ok (.istore_n 1, 1) := by decide +kernel
theorem dX4_firstFault_2 : decode cX4_firstFault 2 = .ok (.iconst 0, 1) := by decide +kernel
theorem dX4_firstFault_3 : decode cX4_firstFault 3 = .ok (.istore_n 2, 1) := by decide +kernel
theorem dX4_firstFault_4 : decode cX4_firstFault 4 = .ok (.iload_n 2, 1) := by decide +kernel
theorem dX4_firstFault_5 : decode cX4_firstFault 5 = .ok (.aload_n 0, 1) := by decide +kernel
theorem dX4_firstFault_6 : decode cX4_firstFault 6 = .ok (.getfield 15, 3) := by decide +kernel
theorem dX4_firstFault_9 : decode cX4_firstFault 9 = .ok (.if_icmp .ge 39, 3) := by decide +kernel
theorem dX4_firstFault_12 : decode cX4_firstFault 12 = .ok (.aload_n 0, 1) := by decide +kernel
theorem dX4_firstFault_13 : decode cX4_firstFault 13 = .ok (.getfield 9, 3) := by decide +kernel
theorem dX4_firstFault_16 : decode cX4_firstFault 16 = .ok (.iload_n 2, 1) := by decide +kernel
theorem dX4_firstFault_17 : decode cX4_firstFault 17 = .ok (.iaload, 1) := by decide +kernel
theorem dX4_firstFault_18 : decode cX4_firstFault 18 = .ok (.istore_n 3, 1) := by decide +kernel
theorem dX4_firstFault_19 : decode cX4_firstFault 19 = .ok (.iload_n 3, 1) := by decide +kernel
theorem dX4_firstFault_20 : decode cX4_firstFault 20 = .ok (.invokestatic 19, 3) := by decide +kernel
theorem dX4_firstFault_23 : decode cX4_firstFault 23 = .ok (.ifCond .eq 11, 3) := by decide +kernel
theorem dX4_firstFault_26 : decode cX4_firstFault 26 = .ok (.iload_n 1, 1) := by decide +kernel
theorem dX4_firstFault_27 : decode cX4_firstFault 27 = .ok (.iload_n 3, 1) := by decide +kernel
theorem dX4_firstFault_28 : decode cX4_firstFault 28 = .ok (.invokestatic 25, 3) := by decide +kernel
theorem dX4_firstFault_31 : decode cX4_firstFault 31 = .ok (.ifCond .eq 5, 3) := by decide +kernel
theorem dX4_firstFault_34 : decode cX4_firstFault 34 = .ok (.iload_n 2, 1) := by decide +kernel
theorem dX4_firstFault_35 : decode cX4_firstFault 35 = .ok (.ireturn, 1) := by decide +kernel
theorem dX4_firstFault_36 : decode cX4_firstFault 36 = .ok (.iload_n 1, 1) := by decide +kernel
theorem dX4_firstFault_37 : decode cX4_firstFault 37 = .ok (.iconst 1, 1) := by decide +kernel
theorem dX4_firstFault_38 : decode cX4_firstFault 38 = .ok (.iload_n 3, 1) := by decide +kernel
theorem dX4_firstFault_39 : decode cX4_firstFault 39 = .ok (.ishl, 1) := by decide +kernel
theorem dX4_firstFault_40 : decode cX4_firstFault 40 = .ok (.ior, 1) := by decide +kernel
theorem dX4_firstFault_41 : decode cX4_firstFault 41 = .ok (.istore_n 1, 1) := by decide +kernel
theorem dX4_firstFault_42 : decode cX4_firstFault 42 = .ok (.iinc 2 1, 3) := by decide +kernel
theorem dX4_firstFault_45 : decode cX4_firstFault 45 = .ok (.goto (-41), 3) := by decide +kernel
theorem dX4_firstFault_48 : decode cX4_firstFault 48 = .ok (.aload_n 0, 1) := by decide +kernel
theorem dX4_firstFault_49 : decode cX4_firstFault 49 = .ok (.getfield 15, 3) := by decide +kernel
theorem dX4_firstFault_52 : decode cX4_firstFault 52 = .ok (.ireturn, 1) := by decide +kernel
theorem dX4_isWay_0 : decode cX4_isWay 0 = .ok (.aload_n 0, 1) := by decide +kernel
theorem dX4_isWay_1 : decode cX4_isWay 1 = .ok (.getfield 15, 3) := by decide +kernel
theorem dX4_isWay_4 : decode cX4_isWay 4 = .ok (.iconst 2, 1) := by decide +kernel
theorem dX4_isWay_5 : decode cX4_isWay 5 = .ok (.if_icmp .lt 18, 3) := by decide +kernel
theorem dX4_isWay_8 : decode cX4_isWay 8 = .ok (.aload_n 0, 1) := by decide +kernel
theorem dX4_isWay_9 : decode cX4_isWay 9 = .ok (.invokevirtual 29, 3) := by decide +kernel
theorem dX4_isWay_12 : decode cX4_isWay 12 = .ok (.aload_n 0, 1) := by decide +kernel
theorem dX4_isWay_13 : decode cX4_isWay 13 = .ok (.getfield 15, 3) := by decide +kernel
theorem dX4_isWay_16 : decode cX4_isWay 16 = .ok (.if_icmp .ne 7, 3) := by decide +kernel
theorem dX4_isWay_19 : decode cX4_isWay 19 = .ok (.iconst 1, 1) := by decide +kernel
theorem dX4_isWay_20 : decode cX4_isWay 20 = .ok (.goto 4, 3) := by decide +kernel
theorem dX4_isWay_23 : decode cX4_isWay 23 = .ok (.iconst 0, 1) := by decide +kernel
theorem dX4_isWay_24 : decode cX4_isWay 24 = .ok (.ireturn, 1) := by decide +kernel
theorem dX5_init_0 : decode cX5_init 0 = .ok (.aload_n 0, 1) := by decide +kernel
theorem dX5_init_1 : decode cX5_init 1 = .ok (.invokespecial 3, 3) := by decide +kernel
theorem dX5_init_4 : decode cX5_init 4 = .ok (.aload_n 0, 1) := by decide +kernel
theorem dX5_init_5 : decode cX5_init 5 = .ok (.sipush 128, 3) := by decide +kernel
theorem dX5_init_8 : decode cX5_init 8 = .ok (.newarray .int, 2) := by decide +kernel
theorem dX5_init_10 : decode cX5_init 10 = .ok (.putfield 11, 3) := by decide +kernel
theorem dX5_init_13 : decode cX5_init 13 = .ok (.aload_n 0, 1) := by decide +kernel
theorem dX5_init_14 : decode cX5_init 14 = .ok (.bipush 16, 2) := by decide +kernel
theorem dX5_init_16 : decode cX5_init 16 = .ok (.newarray .int, 2) := by decide +kernel
theorem dX5_init_18 : decode cX5_init 18 = .ok (.putfield 15, 3) := by decide +kernel
theorem dX5_init_21 : decode cX5_init 21 = .ok (.aload_n 0, 1) := by decide +kernel
theorem dX5_init_22 : decode cX5_init 22 = .ok (.bipush 16, 2) := by decide +kernel
theorem dX5_init_24 : decode cX5_init 24 = .ok (.newarray .int, 2) := by decide +kernel
theorem dX5_init_26 : decode cX5_init 26 = .ok (.putfield 18, 3) := by decide +kernel
theorem dX5_init_29 : decode cX5_init 29 = .ok (.return_, 1) := by decide +kernel
theorem dX5_read_0 : decode cX5_read 0 = .ok (.iconst 0, 1) := by decide +kernel
theorem dX5_read_1 : decode cX5_read 1 = .ok (.istore_n 3, 1) := by decide +kernel
theorem dX5_read_2 : decode cX5_read 2 = .ok (.iload_n 3, 1) := by decide +kernel
theorem dX5_read_3 : decode cX5_read 3 = .ok (.sipush 128, 3) := by decide +kernel
theorem dX5_read_6 : decode cX5_read 6 = .ok (.if_icmp .ge 16, 3) := by decide +kernel
theorem dX5_read_9 : decode cX5_read 9 = .ok (.aload_n 0, 1) := by decide +kernel
theorem dX5_read_10 : decode cX5_read 10 = .ok (.getfield 11, 3) := by decide +kernel
theorem dX5_read_13 : decode cX5_read 13 = .ok (.iload_n 3, 1) := by decide +kernel
theorem dX5_read_14 : decode cX5_read 14 = .ok (.iconst (-1), 1) := by decide +kernel
theorem dX5_read_15 : decode cX5_read 15 = .ok (.iastore, 1) := by decide +kernel
theorem dX5_read_16 : decode cX5_read 16 = .ok (.iinc 3 1, 3) := by decide +kernel
theorem dX5_read_19 : decode cX5_read 19 = .ok (.goto (-17), 3) := by decide +kernel
theorem dX5_read_22 : decode cX5_read 22 = .ok (.iconst 0, 1) := by decide +kernel
theorem dX5_read_23 : decode cX5_read 23 = .ok (.istore_n 3, 1) := by decide +kernel
theorem dX5_read_24 : decode cX5_read 24 = .ok (.iload_n 3, 1) := by decide +kernel
theorem dX5_read_25 : decode cX5_read 25 = .ok (.bipush 16, 2) := by decide +kernel
theorem dX5_read_27 : decode cX5_read 27 = .ok (.if_icmp .ge 30, 3) := by decide +kernel
theorem dX5_read_30 : decode cX5_read 30 = .ok (.aload_n 0, 1) := by decide +kernel
theorem dX5_read_31 : decode cX5_read 31 = .ok (.getfield 15, 3) := by decide +kernel
theorem dX5_read_34 : decode cX5_read 34 = .ok (.iload_n 3, 1) := by decide +kernel
theorem dX5_read_35 : decode cX5_read 35 = .ok (.iconst 0, 1) := by decide +kernel
theorem dX5_read_36 : decode cX5_read 36 = .ok (.iastore, 1) := by decide +kernel
theorem dX5_read_37 : decode cX5_read 37 = .ok (.aload_n 0, 1) := by decide +kernel
theorem dX5_read_38 : decode cX5_read 38 = .ok (.getfield 18, 3) := by decide +kernel
theorem dX5_read_41 : decode cX5_read 41 = .ok (.iload_n 3, 1) := by decide +kernel
theorem dX5_read_42 : decode cX5_read 42 = .ok (.iload_n 2, 1) := by decide +kernel
theorem dX5_read_43 : decode cX5_read 43 = .ok (.iconst 1, 1) := by decide +kernel
theorem dX5_read_44 : decode cX5_read 44 = .ok (.iload_n 3, 1) := by decide +kernel
theorem dX5_read_45 : decode cX5_read 45 = .ok (.bipush 8, 2) := by decide +kernel
theorem dX5_read_47 : decode cX5_read 47 = .ok (.irem, 1) := by decide +kernel
theorem dX5_read_48 : decode cX5_read 48 = .ok (.ishl, 1) := by decide +kernel
theorem dX5_read_49 : decode cX5_read 49 = .ok (.iand, 1) := by decide +kernel
theorem dX5_read_50 : decode cX5_read 50 = .ok (.iastore, 1) := by decide +kernel
theorem dX5_read_51 : decode cX5_read 51 = .ok (.iinc 3 1, 3) := by decide +kernel
theorem dX5_read_54 : decode cX5_read 54 = .ok (.goto (-30), 3) := by decide +kernel
theorem dX5_read_57 : decode cX5_read 57 = .ok (.aload_n 0, 1) := by decide +kernel
theorem dX5_read_58 : decode cX5_read 58 = .ok (.iconst 0, 1) := by decide +kernel
theorem dX5_read_59 : decode cX5_read 59 = .ok (.invokevirtual 21, 3) := by decide +kernel
theorem dX5_read_62 : decode cX5_read 62 = .ok (.istore_n 3, 1) := by decide +kernel
theorem dX5_read_63 : decode cX5_read 63 = .ok (.iconst 1, 1) := by decide +kernel
theorem dX5_read_64 : decode cX5_read 64 = .ok (.istore 4, 2) := by decide +kernel
theorem dX5_read_66 : decode cX5_read 66 = .ok (.iload_n 3, 1) := by decide +kernel
theorem dX5_read_67 : decode cX5_read 67 = .ok (.ifCond .eq 61, 3) := by decide +kernel
theorem dX5_read_70 : decode cX5_read 70 = .ok (.iload 4, 2) := by decide +kernel
theorem dX5_read_72 : decode cX5_read 72 = .ok (.bipush 16, 2) := by decide +kernel
theorem dX5_read_74 : decode cX5_read 74 = .ok (.if_icmp .ge 54, 3) := by decide +kernel
theorem dX5_read_77 : decode cX5_read 77 = .ok (.iconst 0, 1) := by decide +kernel
theorem dX5_read_78 : decode cX5_read 78 = .ok (.istore 5, 2) := by decide +kernel
theorem dX5_read_80 : decode cX5_read 80 = .ok (.iload 5, 2) := by decide +kernel
theorem dX5_read_82 : decode cX5_read 82 = .ok (.bipush 16, 2) := by decide +kernel
theorem dX5_read_84 : decode cX5_read 84 = .ok (.if_icmp .ge 31, 3) := by decide +kernel
theorem dX5_read_87 : decode cX5_read 87 = .ok (.aload_n 0, 1) := by decide +kernel
theorem dX5_read_88 : decode cX5_read 88 = .ok (.getfield 18, 3) := by decide +kernel
theorem dX5_read_91 : decode cX5_read 91 = .ok (.iload 5, 2) := by decide +kernel
theorem dX5_read_93 : decode cX5_read 93 = .ok (.aload_n 0, 1) := by decide +kernel
theorem dX5_read_94 : decode cX5_read 94 = .ok (.getfield 15, 3) := by decide +kernel
theorem dX5_read_97 : decode cX5_read 97 = .ok (.iload 5, 2) := by decide +kernel
theorem dX5_read_99 : decode cX5_read 99 = .ok (.iaload, 1) := by decide +kernel
theorem dX5_read_100 : decode cX5_read 100 = .ok (.aload_n 0, 1) := by decide +kernel
theorem dX5_read_101 : decode cX5_read 101 = .ok (.aload_n 1, 1) := by decide +kernel
theorem dX5_read_102 : decode cX5_read 102 = .ok (.iload 5, 2) := by decide +kernel
theorem dX5_read_104 : decode cX5_read 104 = .ok (.invokevirtual 25, 3) := by decide +kernel
theorem dX5_read_107 : decode cX5_read 107 = .ok (.ior, 1) := by decide +kernel
theorem dX5_read_108 : decode cX5_read 108 = .ok (.iastore, 1) := by decide +kernel
theorem dX5_read_109 : decode cX5_read 109 = .ok (.iinc 5 1, 3) := by decide +kernel
theorem dX5_read_112 : decode cX5_read 112 = .ok (.goto (-32), 3) := by decide +kernel
theorem dX5_read_115 : decode cX5_read 115 = .ok (.aload_n 0, 1) := by decide +kernel
theorem dX5_read_116 : decode cX5_read 116 = .ok (.iload 4, 2) := by decide +kernel
theorem dX5_read_118 : decode cX5_read 118 = .ok (.invokevirtual 21, 3) := by decide +kernel
theorem dX5_read_121 : decode cX5_read 121 = .ok (.istore_n 3, 1) := by decide +kernel
theorem dX5_read_122 : decode cX5_read 122 = .ok (.iinc 4 1, 3) := by decide +kernel
theorem dX5_read_125 : decode cX5_read 125 = .ok (.goto (-59), 3) := by decide +kernel
theorem dX5_read_128 : decode cX5_read 128 = .ok (.return_, 1) := by decide +kernel
theorem dX5_reachedByOneMore_0 : decode cX5_reachedByOneMore 0 = .ok (.iconst 0, 1) := by decide +kernel
theorem dX5_reachedByOneMore_1 : decode cX5_reachedByOneMore 1 = .ok (.istore_n 3, 1) := by decide +kernel
theorem dX5_reachedByOneMore_2 : decode cX5_reachedByOneMore 2 = .ok (.iconst 0, 1) := by decide +kernel
theorem dX5_reachedByOneMore_3 : decode cX5_reachedByOneMore 3 = .ok (.istore 4, 2) := by decide +kernel
theorem dX5_reachedByOneMore_5 : decode cX5_reachedByOneMore 5 = .ok (.iload 4, 2) := by decide +kernel
theorem dX5_reachedByOneMore_7 : decode cX5_reachedByOneMore 7 = .ok (.bipush 8, 2) := by decide +kernel
theorem dX5_reachedByOneMore_9 : decode cX5_reachedByOneMore 9 = .ok (.if_icmp .ge 55, 3) := by decide +kernel
theorem dX5_reachedByOneMore_12 : decode cX5_reachedByOneMore 12 = .ok (.iload_n 2, 1) := by decide +kernel
theorem dX5_reachedByOneMore_13 : decode cX5_reachedByOneMore 13 = .ok (.bipush 8, 2) := by decide +kernel
theorem dX5_reachedByOneMore_15 : decode cX5_reachedByOneMore 15 = .ok (.idiv, 1) := by decide +kernel
theorem dX5_reachedByOneMore_16 : decode cX5_reachedByOneMore 16 = .ok (.aload_n 1, 1) := by decide +kernel
theorem dX5_reachedByOneMore_17 : decode cX5_reachedByOneMore 17 = .ok (.getfield 29, 3) := by decide +kernel
theorem dX5_reachedByOneMore_20 : decode cX5_reachedByOneMore 20 = .ok (.iload_n 2, 1) := by decide +kernel
theorem dX5_reachedByOneMore_21 : decode cX5_reachedByOneMore 21 = .ok (.bipush 8, 2) := by decide +kernel
theorem dX5_reachedByOneMore_23 : decode cX5_reachedByOneMore 23 = .ok (.irem, 1) := by decide +kernel
theorem dX5_reachedByOneMore_24 : decode cX5_reachedByOneMore 24 = .ok (.bipush 8, 2) := by decide +kernel
theorem dX5_reachedByOneMore_26 : decode cX5_reachedByOneMore 26 = .ok (.imul, 1) := by decide +kernel
theorem dX5_reachedByOneMore_27 : decode cX5_reachedByOneMore 27 = .ok (.iload 4, 2) := by decide +kernel
theorem dX5_reachedByOneMore_29 : decode cX5_reachedByOneMore 29 = .ok (.iadd, 1) := by decide +kernel
theorem dX5_reachedByOneMore_30 : decode cX5_reachedByOneMore 30 = .ok (.iaload, 1) := by decide +kernel
theorem dX5_reachedByOneMore_31 : decode cX5_reachedByOneMore 31 = .ok (.invokestatic 34, 3) := by decide +kernel
theorem dX5_reachedByOneMore_34 : decode cX5_reachedByOneMore 34 = .ok (.istore 5, 2) := by decide +kernel
theorem dX5_reachedByOneMore_36 : decode cX5_reachedByOneMore 36 = .ok (.iload 5, 2) := by decide +kernel
theorem dX5_reachedByOneMore_38 : decode cX5_reachedByOneMore 38 = .ok (.iconst (-1), 1) := by decide +kernel
theorem dX5_reachedByOneMore_39 : decode cX5_reachedByOneMore 39 = .ok (.if_icmp .eq 19, 3) := by decide +kernel
theorem dX5_reachedByOneMore_42 : decode cX5_reachedByOneMore 42 = .ok (.iload_n 3, 1) := by decide +kernel
theorem dX5_reachedByOneMore_43 : decode cX5_reachedByOneMore 43 = .ok (.aload_n 0, 1) := by decide +kernel
theorem dX5_reachedByOneMore_44 : decode cX5_reachedByOneMore 44 = .ok (.getfield 15, 3) := by decide +kernel
theorem dX5_reachedByOneMore_47 : decode cX5_reachedByOneMore 47 = .ok (.iload 5, 2) := by decide +kernel
theorem dX5_reachedByOneMore_49 : decode cX5_reachedByOneMore 49 = .ok (.bipush 8, 2) := by decide +kernel
theorem dX5_reachedByOneMore_51 : decode cX5_reachedByOneMore 51 = .ok (.imul, 1) := by decide +kernel
theorem dX5_reachedByOneMore_52 : decode cX5_reachedByOneMore 52 = .ok (.iload 4, 2) := by decide +kernel
theorem dX5_reachedByOneMore_54 : decode cX5_reachedByOneMore 54 = .ok (.iadd, 1) := by decide +kernel
theorem dX5_reachedByOneMore_55 : decode cX5_reachedByOneMore 55 = .ok (.iaload, 1) := by decide +kernel
theorem dX5_reachedByOneMore_56 : decode cX5_reachedByOneMore 56 = .ok (.ior, 1) := by decide +kernel
theorem dX5_reachedByOneMore_57 : decode cX5_reachedByOneMore 57 = .ok (.istore_n 3, 1) := by decide +kernel
theorem dX5_reachedByOneMore_58 : decode cX5_reachedByOneMore 58 = .ok (.iinc 4 1, 3) := by decide +kernel
theorem dX5_reachedByOneMore_61 : decode cX5_reachedByOneMore 61 = .ok (.goto (-56), 3) := by decide +kernel
theorem dX5_reachedByOneMore_64 : decode cX5_reachedByOneMore 64 = .ok (.iload_n 3, 1) := by decide +kernel
theorem dX5_reachedByOneMore_65 : decode cX5_reachedByOneMore 65 = .ok (.ireturn, 1) := by decide +kernel
theorem dX5_settle_0 : decode cX5_settle 0 = .ok (.iconst 0, 1) := by decide +kernel
theorem dX5_settle_1 : decode cX5_settle 1 = .ok (.istore_n 2, 1) := by decide +kernel
theorem dX5_settle_2 : decode cX5_settle 2 = .ok (.iconst 0, 1) := by decide +kernel
theorem dX5_settle_3 : decode cX5_settle 3 = .ok (.istore_n 3, 1) := by decide +kernel
theorem dX5_settle_4 : decode cX5_settle 4 = .ok (.iload_n 3, 1) := by decide +kernel
theorem dX5_settle_5 : decode cX5_settle 5 = .ok (.bipush 16, 2) := by decide +kernel
theorem dX5_settle_7 : decode cX5_settle 7 = .ok (.if_icmp .ge 79, 3) := by decide +kernel
theorem dX5_settle_10 : decode cX5_settle 10 = .ok (.aload_n 0, 1) := by decide +kernel
theorem dX5_settle_11 : decode cX5_settle 11 = .ok (.getfield 18, 3) := by decide +kernel
theorem dX5_settle_14 : decode cX5_settle 14 = .ok (.iload_n 3, 1) := by decide +kernel
theorem dX5_settle_15 : decode cX5_settle 15 = .ok (.iaload, 1) := by decide +kernel
theorem dX5_settle_16 : decode cX5_settle 16 = .ok (.aload_n 0, 1) := by decide +kernel
theorem dX5_settle_17 : decode cX5_settle 17 = .ok (.getfield 15, 3) := by decide +kernel
theorem dX5_settle_20 : decode cX5_settle 20 = .ok (.iload_n 3, 1) := by decide +kernel
theorem dX5_settle_21 : decode cX5_settle 21 = .ok (.iaload, 1) := by decide +kernel
theorem dX5_settle_22 : decode cX5_settle 22 = .ok (.iconst (-1), 1) := by decide +kernel
theorem dX5_settle_23 : decode cX5_settle 23 = .ok (.ixor, 1) := by decide +kernel
theorem dX5_settle_24 : decode cX5_settle 24 = .ok (.iand, 1) := by decide +kernel
theorem dX5_settle_25 : decode cX5_settle 25 = .ok (.istore 4, 2) := by decide +kernel
theorem dX5_settle_27 : decode cX5_settle 27 = .ok (.iconst 0, 1) := by decide +kernel
theorem dX5_settle_28 : decode cX5_settle 28 = .ok (.istore 5, 2) := by decide +kernel
theorem dX5_settle_30 : decode cX5_settle 30 = .ok (.iload 5, 2) := by decide +kernel
theorem dX5_settle_32 : decode cX5_settle 32 = .ok (.bipush 8, 2) := by decide +kernel
theorem dX5_settle_34 : decode cX5_settle 34 = .ok (.if_icmp .ge 34, 3) := by decide +kernel
theorem dX5_settle_37 : decode cX5_settle 37 = .ok (.iload 4, 2) := by decide +kernel
theorem dX5_settle_39 : decode cX5_settle 39 = .ok (.iload 5, 2) := by decide +kernel
theorem dX5_settle_41 : decode cX5_settle 41 = .ok (.invokestatic 38, 3) := by decide +kernel
theorem dX5_settle_44 : decode cX5_settle 44 = .ok (.ifCond .eq 18, 3) := by decide +kernel
theorem dX5_settle_47 : decode cX5_settle 47 = .ok (.aload_n 0, 1) := by decide +kernel
theorem dX5_settle_48 : decode cX5_settle 48 = .ok (.getfield 11, 3) := by decide +kernel
theorem dX5_settle_51 : decode cX5_settle 51 = .ok (.iload_n 3, 1) := by decide +kernel
theorem dX5_settle_52 : decode cX5_settle 52 = .ok (.bipush 8, 2) := by decide +kernel
theorem dX5_settle_54 : decode cX5_settle 54 = .ok (.imul, 1) := by decide +kernel
theorem dX5_settle_55 : decode cX5_settle 55 = .ok (.iload 5, 2) := by decide +kernel
theorem dX5_settle_57 : decode cX5_settle 57 = .ok (.iadd, 1) := by decide +kernel
theorem dX5_settle_58 : decode cX5_settle 58 = .ok (.iload_n 1, 1) := by decide +kernel
theorem dX5_settle_59 : decode cX5_settle 59 = .ok (.iastore, 1) := by decide +kernel
theorem dX5_settle_60 : decode cX5_settle 60 = .ok (.iconst 1, 1) := by decide +kernel
theorem dX5_settle_61 : decode cX5_settle 61 = .ok (.istore_n 2, 1) := by decide +kernel
theorem dX5_settle_62 : decode cX5_settle 62 = .ok (.iinc 5 1, 3) := by decide +kernel
theorem dX5_settle_65 : decode cX5_settle 65 = .ok (.goto (-35), 3) := by decide +kernel
theorem dX5_settle_68 : decode cX5_settle 68 = .ok (.aload_n 0, 1) := by decide +kernel
theorem dX5_settle_69 : decode cX5_settle 69 = .ok (.getfield 15, 3) := by decide +kernel
theorem dX5_settle_72 : decode cX5_settle 72 = .ok (.iload_n 3, 1) := by decide +kernel
theorem dX5_settle_73 : decode cX5_settle 73 = .ok (.aload_n 0, 1) := by decide +kernel
theorem dX5_settle_74 : decode cX5_settle 74 = .ok (.getfield 18, 3) := by decide +kernel
theorem dX5_settle_77 : decode cX5_settle 77 = .ok (.iload_n 3, 1) := by decide +kernel
theorem dX5_settle_78 : decode cX5_settle 78 = .ok (.iaload, 1) := by decide +kernel
theorem dX5_settle_79 : decode cX5_settle 79 = .ok (.iastore, 1) := by decide +kernel
theorem dX5_settle_80 : decode cX5_settle 80 = .ok (.iinc 3 1, 3) := by decide +kernel
theorem dX5_settle_83 : decode cX5_settle 83 = .ok (.goto (-79), 3) := by decide +kernel
theorem dX5_settle_86 : decode cX5_settle 86 = .ok (.iload_n 2, 1) := by decide +kernel
theorem dX5_settle_87 : decode cX5_settle 87 = .ok (.ireturn, 1) := by decide +kernel
theorem dX5_fewestLinks_0 : decode cX5_fewestLinks 0 = .ok (.aload_n 0, 1) := by decide +kernel
theorem dX5_fewestLinks_1 : decode cX5_fewestLinks 1 = .ok (.getfield 11, 3) := by decide +kernel
theorem dX5_fewestLinks_4 : decode cX5_fewestLinks 4 = .ok (.iload_n 1, 1) := by decide +kernel
theorem dX5_fewestLinks_5 : decode cX5_fewestLinks 5 = .ok (.bipush 8, 2) := by decide +kernel
theorem dX5_fewestLinks_7 : decode cX5_fewestLinks 7 = .ok (.imul, 1) := by decide +kernel
theorem dX5_fewestLinks_8 : decode cX5_fewestLinks 8 = .ok (.iload_n 2, 1) := by decide +kernel
theorem dX5_fewestLinks_9 : decode cX5_fewestLinks 9 = .ok (.iadd, 1) := by decide +kernel
theorem dX5_fewestLinks_10 : decode cX5_fewestLinks 10 = .ok (.bipush 8, 2) := by decide +kernel
theorem dX5_fewestLinks_12 : decode cX5_fewestLinks 12 = .ok (.imul, 1) := by decide +kernel
theorem dX5_fewestLinks_13 : decode cX5_fewestLinks 13 = .ok (.iload_n 3, 1) := by decide +kernel
theorem dX5_fewestLinks_14 : decode cX5_fewestLinks 14 = .ok (.iadd, 1) := by decide +kernel
theorem dX5_fewestLinks_15 : decode cX5_fewestLinks 15 = .ok (.iaload, 1) := by decide +kernel
theorem dX5_fewestLinks_16 : decode cX5_fewestLinks 16 = .ok (.ireturn, 1) := by decide +kernel
theorem dX5_leastSecond_0 : decode cX5_leastSecond 0 = .ok (.aload_n 0, 1) := by decide +kernel
theorem dX5_leastSecond_1 : decode cX5_leastSecond 1 = .ok (.iconst 0, 1) := by decide +kernel
theorem dX5_leastSecond_2 : decode cX5_leastSecond 2 = .ok (.iload_n 2, 1) := by decide +kernel
theorem dX5_leastSecond_3 : decode cX5_leastSecond 3 = .ok (.iload_n 3, 1) := by decide +kernel
theorem dX5_leastSecond_4 : decode cX5_leastSecond 4 = .ok (.invokevirtual 44, 3) := by decide +kernel
theorem dX5_leastSecond_7 : decode cX5_leastSecond 7 = .ok (.istore 4, 2) := by decide +kernel
theorem dX5_leastSecond_9 : decode cX5_leastSecond 9 = .ok (.iload 4, 2) := by decide +kernel
theorem dX5_leastSecond_11 : decode cX5_leastSecond 11 = .ok (.iconst (-1), 1) := by decide +kernel
theorem dX5_leastSecond_12 : decode cX5_leastSecond 12 = .ok (.if_icmp .ne 5, 3) := by decide +kernel
theorem dX5_leastSecond_15 : decode cX5_leastSecond 15 = .ok (.iconst (-1), 1) := by decide +kernel
theorem dX5_leastSecond_16 : decode cX5_leastSecond 16 = .ok (.ireturn, 1) := by decide +kernel
theorem dX5_leastSecond_17 : decode cX5_leastSecond 17 = .ok (.iconst 0, 1) := by decide +kernel
theorem dX5_leastSecond_18 : decode cX5_leastSecond 18 = .ok (.istore 5, 2) := by decide +kernel
theorem dX5_leastSecond_20 : decode cX5_leastSecond 20 = .ok (.iload 5, 2) := by decide +kernel
theorem dX5_leastSecond_22 : decode cX5_leastSecond 22 = .ok (.bipush 8, 2) := by decide +kernel
theorem dX5_leastSecond_24 : decode cX5_leastSecond 24 = .ok (.if_icmp .ge 57, 3) := by decide +kernel
theorem dX5_leastSecond_27 : decode cX5_leastSecond 27 = .ok (.iconst 0, 1) := by decide +kernel
theorem dX5_leastSecond_28 : decode cX5_leastSecond 28 = .ok (.aload_n 1, 1) := by decide +kernel
theorem dX5_leastSecond_29 : decode cX5_leastSecond 29 = .ok (.getfield 29, 3) := by decide +kernel
theorem dX5_leastSecond_32 : decode cX5_leastSecond 32 = .ok (.iload_n 2, 1) := by decide +kernel
theorem dX5_leastSecond_33 : decode cX5_leastSecond 33 = .ok (.bipush 8, 2) := by decide +kernel
theorem dX5_leastSecond_35 : decode cX5_leastSecond 35 = .ok (.imul, 1) := by decide +kernel
theorem dX5_leastSecond_36 : decode cX5_leastSecond 36 = .ok (.iload 5, 2) := by decide +kernel
theorem dX5_leastSecond_38 : decode cX5_leastSecond 38 = .ok (.iadd, 1) := by decide +kernel
theorem dX5_leastSecond_39 : decode cX5_leastSecond 39 = .ok (.iaload, 1) := by decide +kernel
theorem dX5_leastSecond_40 : decode cX5_leastSecond 40 = .ok (.invokestatic 34, 3) := by decide +kernel
theorem dX5_leastSecond_43 : decode cX5_leastSecond 43 = .ok (.istore 6, 2) := by decide +kernel
theorem dX5_leastSecond_45 : decode cX5_leastSecond 45 = .ok (.iload 4, 2) := by decide +kernel
theorem dX5_leastSecond_47 : decode cX5_leastSecond 47 = .ok (.ifCond .le 28, 3) := by decide +kernel
theorem dX5_leastSecond_50 : decode cX5_leastSecond 50 = .ok (.iload 6, 2) := by decide +kernel
theorem dX5_leastSecond_52 : decode cX5_leastSecond 52 = .ok (.iconst (-1), 1) := by decide +kernel
theorem dX5_leastSecond_53 : decode cX5_leastSecond 53 = .ok (.if_icmp .eq 22, 3) := by decide +kernel
theorem dX5_leastSecond_56 : decode cX5_leastSecond 56 = .ok (.aload_n 0, 1) := by decide +kernel
theorem dX5_leastSecond_57 : decode cX5_leastSecond 57 = .ok (.iload 6, 2) := by decide +kernel
theorem dX5_leastSecond_59 : decode cX5_leastSecond 59 = .ok (.iload 5, 2) := by decide +kernel
theorem dX5_leastSecond_61 : decode cX5_leastSecond 61 = .ok (.iload_n 3, 1) := by decide +kernel
theorem dX5_leastSecond_62 : decode cX5_leastSecond 62 = .ok (.invokevirtual 44, 3) := by decide +kernel
theorem dX5_leastSecond_65 : decode cX5_leastSecond 65 = .ok (.iload 4, 2) := by decide +kernel
theorem dX5_leastSecond_67 : decode cX5_leastSecond 67 = .ok (.iconst 1, 1) := by decide +kernel
theorem dX5_leastSecond_68 : decode cX5_leastSecond 68 = .ok (.isub, 1) := by decide +kernel
theorem dX5_leastSecond_69 : decode cX5_leastSecond 69 = .ok (.if_icmp .ne 6, 3) := by decide +kernel
theorem dX5_leastSecond_72 : decode cX5_leastSecond 72 = .ok (.iload 5, 2) := by decide +kernel
theorem dX5_leastSecond_74 : decode cX5_leastSecond 74 = .ok (.ireturn, 1) := by decide +kernel
theorem dX5_leastSecond_75 : decode cX5_leastSecond 75 = .ok (.iinc 5 1, 3) := by decide +kernel
theorem dX5_leastSecond_78 : decode cX5_leastSecond 78 = .ok (.goto (-58), 3) := by decide +kernel
theorem dX5_leastSecond_81 : decode cX5_leastSecond 81 = .ok (.iconst (-1), 1) := by decide +kernel
theorem dX5_leastSecond_82 : decode cX5_leastSecond 82 = .ok (.ireturn, 1) := by decide +kernel
theorem dX6_init_0 : decode cX6_init 0 = .ok (.aload_n 0, 1) := by decide +kernel
theorem dX6_init_1 : decode cX6_init 1 = .ok (.invokespecial 3, 3) := by decide +kernel
theorem dX6_init_4 : decode cX6_init 4 = .ok (.aload_n 0, 1) := by decide +kernel
theorem dX6_init_5 : decode cX6_init 5 = .ok (.bipush 72, 2) := by decide +kernel
theorem dX6_init_7 : decode cX6_init 7 = .ok (.newarray .int, 2) := by decide +kernel
theorem dX6_init_9 : decode cX6_init 9 = .ok (.putfield 9, 3) := by decide +kernel
theorem dX6_init_12 : decode cX6_init 12 = .ok (.aload_n 0, 1) := by decide +kernel
theorem dX6_init_13 : decode cX6_init 13 = .ok (.bipush 12, 2) := by decide +kernel
theorem dX6_init_15 : decode cX6_init 15 = .ok (.newarray .int, 2) := by decide +kernel
theorem dX6_init_17 : decode cX6_init 17 = .ok (.putfield 15, 3) := by decide +kernel
theorem dX6_init_20 : decode cX6_init 20 = .ok (.aload_n 0, 1) := by decide +kernel
theorem dX6_init_21 : decode cX6_init 21 = .ok (.bipush 72, 2) := by decide +kernel
theorem dX6_init_23 : decode cX6_init 23 = .ok (.newarray .int, 2) := by decide +kernel
theorem dX6_init_25 : decode cX6_init 25 = .ok (.putfield 18, 3) := by decide +kernel
theorem dX6_init_28 : decode cX6_init 28 = .ok (.aload_n 0, 1) := by decide +kernel
theorem dX6_init_29 : decode cX6_init 29 = .ok (.bipush 12, 2) := by decide +kernel
theorem dX6_init_31 : decode cX6_init 31 = .ok (.newarray .int, 2) := by decide +kernel
theorem dX6_init_33 : decode cX6_init 33 = .ok (.putfield 21, 3) := by decide +kernel
theorem dX6_init_36 : decode cX6_init 36 = .ok (.aload_n 0, 1) := by decide +kernel
theorem dX6_init_37 : decode cX6_init 37 = .ok (.iconst 0, 1) := by decide +kernel
theorem dX6_init_38 : decode cX6_init 38 = .ok (.putfield 24, 3) := by decide +kernel
theorem dX6_init_41 : decode cX6_init 41 = .ok (.return_, 1) := by decide +kernel
theorem dX6_has_0 : decode cX6_has 0 = .ok (.iload_n 1, 1) := by decide +kernel
theorem dX6_has_1 : decode cX6_has 1 = .ok (.ifCond .lt 15, 3) := by decide +kernel
theorem dX6_has_4 : decode cX6_has 4 = .ok (.iload_n 1, 1) := by decide +kernel
theorem dX6_has_5 : decode cX6_has 5 = .ok (.aload_n 0, 1) := by decide +kernel
theorem dX6_has_6 : decode cX6_has 6 = .ok (.getfield 24, 3) := by decide +kernel
theorem dX6_has_9 : decode cX6_has 9 = .ok (.if_icmp .ge 7, 3) := by decide +kernel
theorem dX6_has_12 : decode cX6_has 12 = .ok (.iconst 1, 1) := by decide +kernel
theorem dX6_has_13 : decode cX6_has 13 = .ok (.goto 4, 3) := by decide +kernel
theorem dX6_has_16 : decode cX6_has 16 = .ok (.iconst 0, 1) := by decide +kernel
theorem dX6_has_17 : decode cX6_has 17 = .ok (.ireturn, 1) := by decide +kernel
theorem dX6_add_0 : decode cX6_add 0 = .ok (.aload_n 0, 1) := by decide +kernel
theorem dX6_add_1 : decode cX6_add 1 = .ok (.getfield 24, 3) := by decide +kernel
theorem dX6_add_4 : decode cX6_add 4 = .ok (.bipush 12, 2) := by decide +kernel
theorem dX6_add_6 : decode cX6_add 6 = .ok (.if_icmp .lt 4, 3) := by decide +kernel
theorem dX6_add_9 : decode cX6_add 9 = .ok (.return_, 1) := by decide +kernel
theorem dX6_add_10 : decode cX6_add 10 = .ok (.iconst 0, 1) := by decide +kernel
theorem dX6_add_11 : decode cX6_add 11 = .ok (.istore_n 2, 1) := by decide +kernel
theorem dX6_add_12 : decode cX6_add 12 = .ok (.iload_n 2, 1) := by decide +kernel
theorem dX6_add_13 : decode cX6_add 13 = .ok (.aload_n 1, 1) := by decide +kernel
theorem dX6_add_14 : decode cX6_add 14 = .ok (.getfield 28, 3) := by decide +kernel
theorem dX6_add_17 : decode cX6_add 17 = .ok (.if_icmp .ge 29, 3) := by decide +kernel
theorem dX6_add_20 : decode cX6_add 20 = .ok (.aload_n 0, 1) := by decide +kernel
theorem dX6_add_21 : decode cX6_add 21 = .ok (.getfield 9, 3) := by decide +kernel
theorem dX6_add_24 : decode cX6_add 24 = .ok (.aload_n 0, 1) := by decide +kernel
theorem dX6_add_25 : decode cX6_add 25 = .ok (.getfield 24, 3) := by decide +kernel
theorem dX6_add_28 : decode cX6_add 28 = .ok (.bipush 6, 2) := by decide +kernel
theorem dX6_add_30 : decode cX6_add 30 = .ok (.imul, 1) := by decide +kernel
theorem dX6_add_31 : decode cX6_add 31 = .ok (.iload_n 2, 1) := by decide +kernel
theorem dX6_add_32 : decode cX6_add 32 = .ok (.iadd, 1) := by decide +kernel
theorem dX6_add_33 : decode cX6_add 33 = .ok (.aload_n 1, 1) := by decide +kernel
theorem dX6_add_34 : decode cX6_add 34 = .ok (.getfield 33, 3) := by decide +kernel
theorem dX6_add_37 : decode cX6_add 37 = .ok (.iload_n 2, 1) := by decide +kernel
theorem dX6_add_38 : decode cX6_add 38 = .ok (.iaload, 1) := by decide +kernel
theorem dX6_add_39 : decode cX6_add 39 = .ok (.iastore, 1) := by decide +kernel
theorem dX6_add_40 : decode cX6_add 40 = .ok (.iinc 2 1, 3) := by decide +kernel
theorem dX6_add_43 : decode cX6_add 43 = .ok (.goto (-31), 3) := by decide +kernel
theorem dX6_add_46 : decode cX6_add 46 = .ok (.aload_n 0, 1) := by decide +kernel
theorem dX6_add_47 : decode cX6_add 47 = .ok (.getfield 15, 3) := by decide +kernel
theorem dX6_add_50 : decode cX6_add 50 = .ok (.aload_n 0, 1) := by decide +kernel
theorem dX6_add_51 : decode cX6_add 51 = .ok (.getfield 24, 3) := by decide +kernel
theorem dX6_add_54 : decode cX6_add 54 = .ok (.aload_n 1, 1) := by decide +kernel
theorem dX6_add_55 : decode cX6_add 55 = .ok (.getfield 28, 3) := by decide +kernel
theorem dX6_add_58 : decode cX6_add 58 = .ok (.iastore, 1) := by decide +kernel
theorem dX6_add_59 : decode cX6_add 59 = .ok (.aload_n 0, 1) := by decide +kernel
theorem dX6_add_60 : decode cX6_add 60 = .ok (.dup, 1) := by decide +kernel
theorem dX6_add_61 : decode cX6_add 61 = .ok (.getfield 24, 3) := by decide +kernel
theorem dX6_add_64 : decode cX6_add 64 = .ok (.iconst 1, 1) := by decide +kernel
theorem dX6_add_65 : decode cX6_add 65 = .ok (.iadd, 1) := by decide +kernel
theorem dX6_add_66 : decode cX6_add 66 = .ok (.putfield 24, 3) := by decide +kernel
theorem dX6_add_69 : decode cX6_add 69 = .ok (.return_, 1) := by decide +kernel
theorem dX6_remove_0 : decode cX6_remove 0 = .ok (.aload_n 0, 1) := by decide +kernel
theorem dX6_remove_1 : decode cX6_remove 1 = .ok (.iload_n 1, 1) := by decide +kernel
theorem dX6_remove_2 : decode cX6_remove 2 = .ok (.invokevirtual 34, 3) := by decide +kernel
theorem dX6_remove_5 : decode cX6_remove 5 = .ok (.ifCond .ne 4, 3) := by decide +kernel
theorem dX6_remove_8 : decode cX6_remove 8 = .ok (.return_, 1) := by decide +kernel
theorem dX6_remove_9 : decode cX6_remove 9 = .ok (.iload_n 1, 1) := by decide +kernel
theorem dX6_remove_10 : decode cX6_remove 10 = .ok (.iconst 1, 1) := by decide +kernel
theorem dX6_remove_11 : decode cX6_remove 11 = .ok (.iadd, 1) := by decide +kernel
theorem dX6_remove_12 : decode cX6_remove 12 = .ok (.istore_n 2, 1) := by decide +kernel
theorem dX6_remove_13 : decode cX6_remove 13 = .ok (.iload_n 2, 1) := by decide +kernel
theorem dX6_remove_14 : decode cX6_remove 14 = .ok (.aload_n 0, 1) := by decide +kernel
theorem dX6_remove_15 : decode cX6_remove 15 = .ok (.getfield 24, 3) := by decide +kernel
theorem dX6_remove_18 : decode cX6_remove 18 = .ok (.if_icmp .ge 65, 3) := by decide +kernel
theorem dX6_remove_21 : decode cX6_remove 21 = .ok (.iconst 0, 1) := by decide +kernel
theorem dX6_remove_22 : decode cX6_remove 22 = .ok (.istore_n 3, 1) := by decide +kernel
theorem dX6_remove_23 : decode cX6_remove 23 = .ok (.iload_n 3, 1) := by decide +kernel
theorem dX6_remove_24 : decode cX6_remove 24 = .ok (.aload_n 0, 1) := by decide +kernel
theorem dX6_remove_25 : decode cX6_remove 25 = .ok (.getfield 15, 3) := by decide +kernel
theorem dX6_remove_28 : decode cX6_remove 28 = .ok (.iload_n 2, 1) := by decide +kernel
theorem dX6_remove_29 : decode cX6_remove 29 = .ok (.iaload, 1) := by decide +kernel
theorem dX6_remove_30 : decode cX6_remove 30 = .ok (.if_icmp .ge 33, 3) := by decide +kernel
theorem dX6_remove_33 : decode cX6_remove 33 = .ok (.aload_n 0, 1) := by decide +kernel
theorem dX6_remove_34 : decode cX6_remove 34 = .ok (.getfield 9, 3) := by decide +kernel
theorem dX6_remove_37 : decode cX6_remove 37 = .ok (.iload_n 2, 1) := by decide +kernel
theorem dX6_remove_38 : decode cX6_remove 38 = .ok (.iconst 1, 1) := by decide +kernel
theorem dX6_remove_39 : decode cX6_remove 39 = .ok (.isub, 1) := by decide +kernel
theorem dX6_remove_40 : decode cX6_remove 40 = .ok (.bipush 6, 2) := by decide +kernel
theorem dX6_remove_42 : decode cX6_remove 42 = .ok (.imul, 1) := by decide +kernel
theorem dX6_remove_43 : decode cX6_remove 43 = .ok (.iload_n 3, 1) := by decide +kernel
theorem dX6_remove_44 : decode cX6_remove 44 = .ok (.iadd, 1) := by decide +kernel
theorem dX6_remove_45 : decode cX6_remove 45 = .ok (.aload_n 0, 1) := by decide +kernel
theorem dX6_remove_46 : decode cX6_remove 46 = .ok (.getfield 9, 3) := by decide +kernel
theorem dX6_remove_49 : decode cX6_remove 49 = .ok (.iload_n 2, 1) := by decide +kernel
theorem dX6_remove_50 : decode cX6_remove 50 = .ok (.bipush 6, 2) := by decide +kernel
theorem dX6_remove_52 : decode cX6_remove 52 = .ok (.imul, 1) := by decide +kernel
theorem dX6_remove_53 : decode cX6_remove 53 = .ok (.iload_n 3, 1) := by decide +kernel
theorem dX6_remove_54 : decode cX6_remove 54 = .ok (.iadd, 1) := by decide +kernel
theorem dX6_remove_55 : decode cX6_remove 55 = .ok (.iaload, 1) := by decide +kernel
theorem dX6_remove_56 : decode cX6_remove 56 = .ok (.iastore, 1) := by decide +kernel
theorem dX6_remove_57 : decode cX6_remove 57 = .ok (.iinc 3 1, 3) := by decide +kernel
theorem dX6_remove_60 : decode cX6_remove 60 = .ok (.goto (-37), 3) := by decide +kernel
theorem dX6_remove_63 : decode cX6_remove 63 = .ok (.aload_n 0, 1) := by decide +kernel
theorem dX6_remove_64 : decode cX6_remove 64 = .ok (.getfield 15, 3) := by decide +kernel
theorem dX6_remove_67 : decode cX6_remove 67 = .ok (.iload_n 2, 1) := by decide +kernel
theorem dX6_remove_68 : decode cX6_remove 68 = .ok (.iconst 1, 1) := by decide +kernel
theorem dX6_remove_69 : decode cX6_remove 69 = .ok (.isub, 1) := by decide +kernel
theorem dX6_remove_70 : decode cX6_remove 70 = .ok (.aload_n 0, 1) := by decide +kernel
theorem dX6_remove_71 : decode cX6_remove 71 = .ok (.getfield 15, 3) := by decide +kernel
theorem dX6_remove_74 : decode cX6_remove 74 = .ok (.iload_n 2, 1) := by decide +kernel
theorem dX6_remove_75 : decode cX6_remove 75 = .ok (.iaload, 1) := by decide +kernel
theorem dX6_remove_76 : decode cX6_remove 76 = .ok (.iastore, 1) := by decide +kernel
theorem dX6_remove_77 : decode cX6_remove 77 = .ok (.iinc 2 1, 3) := by decide +kernel
theorem dX6_remove_80 : decode cX6_remove 80 = .ok (.goto (-67), 3) := by decide +kernel
theorem dX6_remove_83 : decode cX6_remove 83 = .ok (.aload_n 0, 1) := by decide +kernel
theorem dX6_remove_84 : decode cX6_remove 84 = .ok (.dup, 1) := by decide +kernel
theorem dX6_remove_85 : decode cX6_remove 85 = .ok (.getfield 24, 3) := by decide +kernel
theorem dX6_remove_88 : decode cX6_remove 88 = .ok (.iconst 1, 1) := by decide +kernel
theorem dX6_remove_89 : decode cX6_remove 89 = .ok (.isub, 1) := by decide +kernel
theorem dX6_remove_90 : decode cX6_remove 90 = .ok (.putfield 24, 3) := by decide +kernel
theorem dX6_remove_93 : decode cX6_remove 93 = .ok (.return_, 1) := by decide +kernel
theorem dX6_cutOut_0 : decode cX6_cutOut 0 = .ok (.iconst 0, 1) := by decide +kernel
theorem dX6_cutOut_1 : decode cX6_cutOut 1 = .ok (.istore_n 2, 1) := by decide +kernel
theorem dX6_cutOut_2 : decode cX6_cutOut 2 = .ok (.iload_n 2, 1) := by decide +kernel
theorem dX6_cutOut_3 : decode cX6_cutOut 3 = .ok (.aload_n 0, 1) := by decide +kernel
theorem dX6_cutOut_4 : decode cX6_cutOut 4 = .ok (.getfield 24, 3) := by decide +kernel
theorem dX6_cutOut_7 : decode cX6_cutOut 7 = .ok (.if_icmp .ge 77, 3) := by decide +kernel
theorem dX6_cutOut_10 : decode cX6_cutOut 10 = .ok (.iconst 0, 1) := by decide +kernel
theorem dX6_cutOut_11 : decode cX6_cutOut 11 = .ok (.istore_n 3, 1) := by decide +kernel
theorem dX6_cutOut_12 : decode cX6_cutOut 12 = .ok (.iconst 0, 1) := by decide +kernel
theorem dX6_cutOut_13 : decode cX6_cutOut 13 = .ok (.istore 4, 2) := by decide +kernel
theorem dX6_cutOut_15 : decode cX6_cutOut 15 = .ok (.iload 4, 2) := by decide +kernel
theorem dX6_cutOut_17 : decode cX6_cutOut 17 = .ok (.aload_n 0, 1) := by decide +kernel
theorem dX6_cutOut_18 : decode cX6_cutOut 18 = .ok (.getfield 15, 3) := by decide +kernel
theorem dX6_cutOut_21 : decode cX6_cutOut 21 = .ok (.iload_n 2, 1) := by decide +kernel
theorem dX6_cutOut_22 : decode cX6_cutOut 22 = .ok (.iaload, 1) := by decide +kernel
theorem dX6_cutOut_23 : decode cX6_cutOut 23 = .ok (.if_icmp .ge 48, 3) := by decide +kernel
theorem dX6_cutOut_26 : decode cX6_cutOut 26 = .ok (.aload_n 0, 1) := by decide +kernel
theorem dX6_cutOut_27 : decode cX6_cutOut 27 = .ok (.getfield 9, 3) := by decide +kernel
theorem dX6_cutOut_30 : decode cX6_cutOut 30 = .ok (.iload_n 2, 1) := by decide +kernel
theorem dX6_cutOut_31 : decode cX6_cutOut 31 = .ok (.bipush 6, 2) := by decide +kernel
theorem dX6_cutOut_33 : decode cX6_cutOut 33 = .ok (.imul, 1) := by decide +kernel
theorem dX6_cutOut_34 : decode cX6_cutOut 34 = .ok (.iload 4, 2) := by decide +kernel
theorem dX6_cutOut_36 : decode cX6_cutOut 36 = .ok (.iadd, 1) := by decide +kernel
theorem dX6_cutOut_37 : decode cX6_cutOut 37 = .ok (.iaload, 1) := by decide +kernel
theorem dX6_cutOut_38 : decode cX6_cutOut 38 = .ok (.istore 5, 2) := by decide +kernel
theorem dX6_cutOut_40 : decode cX6_cutOut 40 = .ok (.iload_n 1, 1) := by decide +kernel
theorem dX6_cutOut_41 : decode cX6_cutOut 41 = .ok (.iload 5, 2) := by decide +kernel
theorem dX6_cutOut_43 : decode cX6_cutOut 43 = .ok (.invokestatic 38, 3) := by decide +kernel
theorem dX6_cutOut_46 : decode cX6_cutOut 46 = .ok (.ifCond .ne 19, 3) := by decide +kernel
theorem dX6_cutOut_49 : decode cX6_cutOut 49 = .ok (.aload_n 0, 1) := by decide +kernel
theorem dX6_cutOut_50 : decode cX6_cutOut 50 = .ok (.getfield 18, 3) := by decide +kernel
theorem dX6_cutOut_53 : decode cX6_cutOut 53 = .ok (.iload_n 2, 1) := by decide +kernel
theorem dX6_cutOut_54 : decode cX6_cutOut 54 = .ok (.bipush 6, 2) := by decide +kernel
theorem dX6_cutOut_56 : decode cX6_cutOut 56 = .ok (.imul, 1) := by decide +kernel
theorem dX6_cutOut_57 : decode cX6_cutOut 57 = .ok (.iload_n 3, 1) := by decide +kernel
theorem dX6_cutOut_58 : decode cX6_cutOut 58 = .ok (.iadd, 1) := by decide +kernel
theorem dX6_cutOut_59 : decode cX6_cutOut 59 = .ok (.iload 5, 2) := by decide +kernel
theorem dX6_cutOut_61 : decode cX6_cutOut 61 = .ok (.iastore, 1) := by decide +kernel
theorem dX6_cutOut_62 : decode cX6_cutOut 62 = .ok (.iinc 3 1, 3) := by decide +kernel
theorem dX6_cutOut_65 : decode cX6_cutOut 65 = .ok (.iinc 4 1, 3) := by decide +kernel
theorem dX6_cutOut_68 : decode cX6_cutOut 68 = .ok (.goto (-53), 3) := by decide +kernel
theorem dX6_cutOut_71 : decode cX6_cutOut 71 = .ok (.aload_n 0, 1) := by decide +kernel
theorem dX6_cutOut_72 : decode cX6_cutOut 72 = .ok (.getfield 21, 3) := by decide +kernel
theorem dX6_cutOut_75 : decode cX6_cutOut 75 = .ok (.iload_n 2, 1) := by decide +kernel
theorem dX6_cutOut_76 : decode cX6_cutOut 76 = .ok (.iload_n 3, 1) := by decide +kernel
theorem dX6_cutOut_77 : decode cX6_cutOut 77 = .ok (.iastore, 1) := by decide +kernel
theorem dX6_cutOut_78 : decode cX6_cutOut 78 = .ok (.iinc 2 1, 3) := by decide +kernel
theorem dX6_cutOut_81 : decode cX6_cutOut 81 = .ok (.goto (-79), 3) := by decide +kernel
theorem dX6_cutOut_84 : decode cX6_cutOut 84 = .ok (.return_, 1) := by decide +kernel
theorem dX7_init_0 : decode cX7_init 0 = .ok (.aload_n 0, 1) := by decide +kernel
theorem dX7_init_1 : decode cX7_init 1 = .ok (.invokespecial 1, 3) := by decide +kernel
theorem dX7_init_4 : decode cX7_init 4 = .ok (.aload_n 0, 1) := by decide +kernel
theorem dX7_init_5 : decode cX7_init 5 = .ok (.new 7, 3) := by decide +kernel
theorem dX7_init_8 : decode cX7_init 8 = .ok (.dup, 1) := by decide +kernel
theorem dX7_init_9 : decode cX7_init 9 = .ok (.invokespecial 9, 3) := by decide +kernel
theorem dX7_init_12 : decode cX7_init 12 = .ok (.putfield 10, 3) := by decide +kernel
theorem dX7_init_15 : decode cX7_init 15 = .ok (.aload_n 0, 1) := by decide +kernel
theorem dX7_init_16 : decode cX7_init 16 = .ok (.new 16, 3) := by decide +kernel
theorem dX7_init_19 : decode cX7_init 19 = .ok (.dup, 1) := by decide +kernel
theorem dX7_init_20 : decode cX7_init 20 = .ok (.invokespecial 18, 3) := by decide +kernel
theorem dX7_init_23 : decode cX7_init 23 = .ok (.putfield 19, 3) := by decide +kernel
theorem dX7_init_26 : decode cX7_init 26 = .ok (.aload_n 0, 1) := by decide +kernel
theorem dX7_init_27 : decode cX7_init 27 = .ok (.new 23, 3) := by decide +kernel
theorem dX7_init_30 : decode cX7_init 30 = .ok (.dup, 1) := by decide +kernel
theorem dX7_init_31 : decode cX7_init 31 = .ok (.invokespecial 25, 3) := by decide +kernel
theorem dX7_init_34 : decode cX7_init 34 = .ok (.putfield 26, 3) := by decide +kernel
theorem dX7_init_37 : decode cX7_init 37 = .ok (.aload_n 0, 1) := by decide +kernel
theorem dX7_init_38 : decode cX7_init 38 = .ok (.new 30, 3) := by decide +kernel
theorem dX7_init_41 : decode cX7_init 41 = .ok (.dup, 1) := by decide +kernel
theorem dX7_init_42 : decode cX7_init 42 = .ok (.invokespecial 32, 3) := by decide +kernel
theorem dX7_init_45 : decode cX7_init 45 = .ok (.putfield 33, 3) := by decide +kernel
theorem dX7_init_48 : decode cX7_init 48 = .ok (.aload_n 0, 1) := by decide +kernel
theorem dX7_init_49 : decode cX7_init 49 = .ok (.new 37, 3) := by decide +kernel
theorem dX7_init_52 : decode cX7_init 52 = .ok (.dup, 1) := by decide +kernel
theorem dX7_init_53 : decode cX7_init 53 = .ok (.invokespecial 39, 3) := by decide +kernel
theorem dX7_init_56 : decode cX7_init 56 = .ok (.putfield 40, 3) := by decide +kernel
theorem dX7_init_59 : decode cX7_init 59 = .ok (.aload_n 0, 1) := by decide +kernel
theorem dX7_init_60 : decode cX7_init 60 = .ok (.new 44, 3) := by decide +kernel
theorem dX7_init_63 : decode cX7_init 63 = .ok (.dup, 1) := by decide +kernel
theorem dX7_init_64 : decode cX7_init 64 = .ok (.invokespecial 46, 3) := by decide +kernel
theorem dX7_init_67 : decode cX7_init 67 = .ok (.putfield 47, 3) := by decide +kernel
theorem dX7_init_70 : decode cX7_init 70 = .ok (.aload_n 0, 1) := by decide +kernel
theorem dX7_init_71 : decode cX7_init 71 = .ok (.bipush 64, 2) := by decide +kernel
theorem dX7_init_73 : decode cX7_init 73 = .ok (.newarray .int, 2) := by decide +kernel
theorem dX7_init_75 : decode cX7_init 75 = .ok (.putfield 51, 3) := by decide +kernel
theorem dX7_init_78 : decode cX7_init 78 = .ok (.aload_n 0, 1) := by decide +kernel
theorem dX7_init_79 : decode cX7_init 79 = .ok (.iconst 0, 1) := by decide +kernel
theorem dX7_init_80 : decode cX7_init 80 = .ok (.putfield 55, 3) := by decide +kernel
theorem dX7_init_83 : decode cX7_init 83 = .ok (.aload_n 0, 1) := by decide +kernel
theorem dX7_init_84 : decode cX7_init 84 = .ok (.iconst 0, 1) := by decide +kernel
theorem dX7_init_85 : decode cX7_init 85 = .ok (.putfield 59, 3) := by decide +kernel
theorem dX7_init_88 : decode cX7_init 88 = .ok (.aload_n 0, 1) := by decide +kernel
theorem dX7_init_89 : decode cX7_init 89 = .ok (.invokevirtual 62, 3) := by decide +kernel
theorem dX7_init_92 : decode cX7_init 92 = .ok (.return_, 1) := by decide +kernel
theorem dX7_letter_0 : decode cX7_letter 0 = .ok (.iload_n 1, 1) := by decide +kernel
theorem dX7_letter_1 : decode cX7_letter 1 = .ok (.bipush 32, 2) := by decide +kernel
theorem dX7_letter_3 : decode cX7_letter 3 = .ok (.if_icmp .lt 9, 3) := by decide +kernel
theorem dX7_letter_6 : decode cX7_letter 6 = .ok (.iload_n 1, 1) := by decide +kernel
theorem dX7_letter_7 : decode cX7_letter 7 = .ok (.bipush 126, 2) := by decide +kernel
theorem dX7_letter_9 : decode cX7_letter 9 = .ok (.if_icmp .le 7, 3) := by decide +kernel
theorem dX7_letter_12 : decode cX7_letter 12 = .ok (.sipush (-1002), 3) := by decide +kernel
theorem dX7_letter_15 : decode cX7_letter 15 = .ok (.ireturn, 1) := by decide +kernel
theorem dX7_letter_16 : decode cX7_letter 16 = .ok (.aload_n 0, 1) := by decide +kernel
theorem dX7_letter_17 : decode cX7_letter 17 = .ok (.getfield 10, 3) := by decide +kernel
theorem dX7_letter_20 : decode cX7_letter 20 = .ok (.getfield 65, 3) := by decide +kernel
theorem dX7_letter_23 : decode cX7_letter 23 = .ok (.bipush 6, 2) := by decide +kernel
theorem dX7_letter_25 : decode cX7_letter 25 = .ok (.if_icmp .lt 7, 3) := by decide +kernel
theorem dX7_letter_28 : decode cX7_letter 28 = .ok (.sipush (-1004), 3) := by decide +kernel
theorem dX7_letter_31 : decode cX7_letter 31 = .ok (.ireturn, 1) := by decide +kernel
theorem dX7_letter_32 : decode cX7_letter 32 = .ok (.aload_n 0, 1) := by decide +kernel
theorem dX7_letter_33 : decode cX7_letter 33 = .ok (.getfield 10, 3) := by decide +kernel
theorem dX7_letter_36 : decode cX7_letter 36 = .ok (.iload_n 1, 1) := by decide +kernel
theorem dX7_letter_37 : decode cX7_letter 37 = .ok (.invokevirtual 68, 3) := by decide +kernel
theorem dX7_letter_40 : decode cX7_letter 40 = .ok (.aload_n 0, 1) := by decide +kernel
theorem dX7_letter_41 : decode cX7_letter 41 = .ok (.getfield 10, 3) := by decide +kernel
theorem dX7_letter_44 : decode cX7_letter 44 = .ok (.getfield 65, 3) := by decide +kernel
theorem dX7_letter_47 : decode cX7_letter 47 = .ok (.ireturn, 1) := by decide +kernel
theorem dX7_blank_0 : decode cX7_blank 0 = .ok (.aload_n 0, 1) := by decide +kernel
theorem dX7_blank_1 : decode cX7_blank 1 = .ok (.getfield 10, 3) := by decide +kernel
theorem dX7_blank_4 : decode cX7_blank 4 = .ok (.getfield 65, 3) := by decide +kernel
theorem dX7_blank_7 : decode cX7_blank 7 = .ok (.istore_n 1, 1) := by decide +kernel
theorem dX7_blank_8 : decode cX7_blank 8 = .ok (.aload_n 0, 1) := by decide +kernel
theorem dX7_blank_9 : decode cX7_blank 9 = .ok (.getfield 10, 3) := by decide +kernel
theorem dX7_blank_12 : decode cX7_blank 12 = .ok (.iconst 0, 1) := by decide +kernel
theorem dX7_blank_13 : decode cX7_blank 13 = .ok (.putfield 65, 3) := by decide +kernel
theorem dX7_blank_16 : decode cX7_blank 16 = .ok (.iload_n 1, 1) := by decide +kernel
theorem dX7_blank_17 : decode cX7_blank 17 = .ok (.ireturn, 1) := by decide +kernel
theorem dX7_fault_0 : decode cX7_fault 0 = .ok (.aload_n 0, 1) := by decide +kernel
theorem dX7_fault_1 : decode cX7_fault 1 = .ok (.getfield 10, 3) := by decide +kernel
theorem dX7_fault_4 : decode cX7_fault 4 = .ok (.invokevirtual 72, 3) := by decide +kernel
theorem dX7_fault_7 : decode cX7_fault 7 = .ok (.ireturn, 1) := by decide +kernel
theorem dX7_way_0 : decode cX7_way 0 = .ok (.aload_n 0, 1) := by decide +kernel
theorem dX7_way_1 : decode cX7_way 1 = .ok (.getfield 10, 3) := by decide +kernel
theorem dX7_way_4 : decode cX7_way 4 = .ok (.invokevirtual 76, 3) := by decide +kernel
theorem dX7_way_7 : decode cX7_way 7 = .ok (.ifCond .ne 7, 3) := by decide +kernel
theorem dX7_way_10 : decode cX7_way 10 = .ok (.sipush (-1003), 3) := by decide +kernel
theorem dX7_way_13 : decode cX7_way 13 = .ok (.ireturn, 1) := by decide +kernel
theorem dX7_way_14 : decode cX7_way 14 = .ok (.aload_n 0, 1) := by decide +kernel
theorem dX7_way_15 : decode cX7_way 15 = .ok (.getfield 19, 3) := by decide +kernel
theorem dX7_way_18 : decode cX7_way 18 = .ok (.getfield 80, 3) := by decide +kernel
theorem dX7_way_21 : decode cX7_way 21 = .ok (.bipush 12, 2) := by decide +kernel
theorem dX7_way_23 : decode cX7_way 23 = .ok (.if_icmp .lt 7, 3) := by decide +kernel
theorem dX7_way_26 : decode cX7_way 26 = .ok (.sipush (-1004), 3) := by decide +kernel
theorem dX7_way_29 : decode cX7_way 29 = .ok (.ireturn, 1) := by decide +kernel
theorem dX7_way_30 : decode cX7_way 30 = .ok (.aload_n 0, 1) := by decide +kernel
theorem dX7_way_31 : decode cX7_way 31 = .ok (.getfield 19, 3) := by decide +kernel
theorem dX7_way_34 : decode cX7_way 34 = .ok (.aload_n 0, 1) := by decide +kernel
theorem dX7_way_35 : decode cX7_way 35 = .ok (.getfield 10, 3) := by decide +kernel
theorem dX7_way_38 : decode cX7_way 38 = .ok (.invokevirtual 83, 3) := by decide +kernel
theorem dX7_way_41 : decode cX7_way 41 = .ok (.aload_n 0, 1) := by decide +kernel
theorem dX7_way_42 : decode cX7_way 42 = .ok (.getfield 10, 3) := by decide +kernel
theorem dX7_way_45 : decode cX7_way 45 = .ok (.iconst 0, 1) := by decide +kernel
theorem dX7_way_46 : decode cX7_way 46 = .ok (.putfield 65, 3) := by decide +kernel
theorem dX7_way_49 : decode cX7_way 49 = .ok (.aload_n 0, 1) := by decide +kernel
theorem dX7_way_50 : decode cX7_way 50 = .ok (.dup, 1) := by decide +kernel
theorem dX7_way_51 : decode cX7_way 51 = .ok (.getfield 59, 3) := by decide +kernel
theorem dX7_way_54 : decode cX7_way 54 = .ok (.iconst 1, 1) := by decide +kernel
theorem dX7_way_55 : decode cX7_way 55 = .ok (.iadd, 1) := by decide +kernel
theorem dX7_way_56 : decode cX7_way 56 = .ok (.putfield 59, 3) := by decide +kernel
theorem dX7_way_59 : decode cX7_way 59 = .ok (.aload_n 0, 1) := by decide +kernel
theorem dX7_way_60 : decode cX7_way 60 = .ok (.invokevirtual 62, 3) := by decide +kernel
theorem dX7_way_63 : decode cX7_way 63 = .ok (.aload_n 0, 1) := by decide +kernel
theorem dX7_way_64 : decode cX7_way 64 = .ok (.getfield 19, 3) := by decide +kernel
theorem dX7_way_67 : decode cX7_way 67 = .ok (.getfield 80, 3) := by decide +kernel
theorem dX7_way_70 : decode cX7_way 70 = .ok (.iconst 1, 1) := by decide +kernel
theorem dX7_way_71 : decode cX7_way 71 = .ok (.isub, 1) := by decide +kernel
theorem dX7_way_72 : decode cX7_way 72 = .ok (.ireturn, 1) := by decide +kernel
theorem dX7_valley_0 : decode cX7_valley 0 = .ok (.aload_n 0, 1) := by decide +kernel
theorem dX7_valley_1 : decode cX7_valley 1 = .ok (.getfield 10, 3) := by decide +kernel
theorem dX7_valley_4 : decode cX7_valley 4 = .ok (.invokevirtual 76, 3) := by decide +kernel
theorem dX7_valley_7 : decode cX7_valley 7 = .ok (.ifCond .eq 28, 3) := by decide +kernel
theorem dX7_valley_10 : decode cX7_valley 10 = .ok (.aload_n 0, 1) := by decide +kernel
theorem dX7_valley_11 : decode cX7_valley 11 = .ok (.getfield 40, 3) := by decide +kernel
theorem dX7_valley_14 : decode cX7_valley 14 = .ok (.aload_n 0, 1) := by decide +kernel
theorem dX7_valley_15 : decode cX7_valley 15 = .ok (.getfield 10, 3) := by decide +kernel
theorem dX7_valley_18 : decode cX7_valley 18 = .ok (.getfield 87, 3) := by decide +kernel
theorem dX7_valley_21 : decode cX7_valley 21 = .ok (.iconst 0, 1) := by decide +kernel
theorem dX7_valley_22 : decode cX7_valley 22 = .ok (.aload_n 0, 1) := by decide +kernel
theorem dX7_valley_23 : decode cX7_valley 23 = .ok (.getfield 10, 3) := by decide +kernel
theorem dX7_valley_26 : decode cX7_valley 26 = .ok (.getfield 65, 3) := by decide +kernel
theorem dX7_valley_29 : decode cX7_valley 29 = .ok (.invokevirtual 90, 3) := by decide +kernel
theorem dX7_valley_32 : decode cX7_valley 32 = .ok (.goto 6, 3) := by decide +kernel
theorem dX7_valley_35 : decode cX7_valley 35 = .ok (.sipush (-1003), 3) := by decide +kernel
theorem dX7_valley_38 : decode cX7_valley 38 = .ok (.ireturn, 1) := by decide +kernel
theorem dX7_drop_0 : decode cX7_drop 0 = .ok (.aload_n 0, 1) := by decide +kernel
theorem dX7_drop_1 : decode cX7_drop 1 = .ok (.getfield 19, 3) := by decide +kernel
theorem dX7_drop_4 : decode cX7_drop 4 = .ok (.iload_n 1, 1) := by decide +kernel
theorem dX7_drop_5 : decode cX7_drop 5 = .ok (.invokevirtual 94, 3) := by decide +kernel
theorem dX7_drop_8 : decode cX7_drop 8 = .ok (.ifCond .ne 7, 3) := by decide +kernel
theorem dX7_drop_11 : decode cX7_drop 11 = .ok (.sipush (-1001), 3) := by decide +kernel
theorem dX7_drop_14 : decode cX7_drop 14 = .ok (.ireturn, 1) := by decide +kernel
theorem dX7_drop_15 : decode cX7_drop 15 = .ok (.aload_n 0, 1) := by decide +kernel
theorem dX7_drop_16 : decode cX7_drop 16 = .ok (.getfield 19, 3) := by decide +kernel
theorem dX7_drop_19 : decode cX7_drop 19 = .ok (.iload_n 1, 1) := by decide +kernel
theorem dX7_drop_20 : decode cX7_drop 20 = .ok (.invokevirtual 98, 3) := by decide +kernel
theorem dX7_drop_23 : decode cX7_drop 23 = .ok (.aload_n 0, 1) := by decide +kernel
theorem dX7_drop_24 : decode cX7_drop 24 = .ok (.invokevirtual 62, 3) := by decide +kernel
theorem dX7_drop_27 : decode cX7_drop 27 = .ok (.aload_n 0, 1) := by decide +kernel
theorem dX7_drop_28 : decode cX7_drop 28 = .ok (.getfield 19, 3) := by decide +kernel
theorem dX7_drop_31 : decode cX7_drop 31 = .ok (.getfield 80, 3) := by decide +kernel
theorem dX7_drop_34 : decode cX7_drop 34 = .ok (.ireturn, 1) := by decide +kernel
theorem dX7_exchange_0 : decode cX7_exchange 0 = .ok (.iload_n 1, 1) := by decide +kernel
theorem dX7_exchange_1 : decode cX7_exchange 1 = .ok (.invokestatic 101, 3) := by decide +kernel
theorem dX7_exchange_4 : decode cX7_exchange 4 = .ok (.ifCond .ne 7, 3) := by decide +kernel
theorem dX7_exchange_7 : decode cX7_exchange 7 = .ok (.sipush (-1001), 3) := by decide +kernel
theorem dX7_exchange_10 : decode cX7_exchange 10 = .ok (.ireturn, 1) := by decide +kernel
theorem dX7_exchange_11 : decode cX7_exchange 11 = .ok (.aload_n 0, 1) := by decide +kernel
theorem dX7_exchange_12 : decode cX7_exchange 12 = .ok (.getfield 55, 3) := by decide +kernel
theorem dX7_exchange_15 : decode cX7_exchange 15 = .ok (.iload_n 1, 1) := by decide +kernel
theorem dX7_exchange_16 : decode cX7_exchange 16 = .ok (.invokestatic 106, 3) := by decide +kernel
theorem dX7_exchange_19 : decode cX7_exchange 19 = .ok (.istore_n 3, 1) := by decide +kernel
theorem dX7_exchange_20 : decode cX7_exchange 20 = .ok (.aload_n 0, 1) := by decide +kernel
theorem dX7_exchange_21 : decode cX7_exchange 21 = .ok (.iload_n 2, 1) := by decide +kernel
theorem dX7_exchange_22 : decode cX7_exchange 22 = .ok (.ifCond .eq 14, 3) := by decide +kernel
theorem dX7_exchange_25 : decode cX7_exchange 25 = .ok (.aload_n 0, 1) := by decide +kernel
theorem dX7_exchange_26 : decode cX7_exchange 26 = .ok (.getfield 55, 3) := by decide +kernel
theorem dX7_exchange_29 : decode cX7_exchange 29 = .ok (.iconst 1, 1) := by decide +kernel
theorem dX7_exchange_30 : decode cX7_exchange 30 = .ok (.iload_n 1, 1) := by decide +kernel
theorem dX7_exchange_31 : decode cX7_exchange 31 = .ok (.ishl, 1) := by decide +kernel
theorem dX7_exchange_32 : decode cX7_exchange 32 = .ok (.ior, 1) := by decide +kernel
theorem dX7_exchange_33 : decode cX7_exchange 33 = .ok (.goto 13, 3) := by decide +kernel
theorem dX7_exchange_36 : decode cX7_exchange 36 = .ok (.aload_n 0, 1) := by decide +kernel
theorem dX7_exchange_37 : decode cX7_exchange 37 = .ok (.getfield 55, 3) := by decide +kernel
theorem dX7_exchange_40 : decode cX7_exchange 40 = .ok (.iconst 1, 1) := by decide +kernel
theorem dX7_exchange_41 : decode cX7_exchange 41 = .ok (.iload_n 1, 1) := by decide +kernel
theorem dX7_exchange_42 : decode cX7_exchange 42 = .ok (.ishl, 1) := by decide +kernel
theorem dX7_exchange_43 : decode cX7_exchange 43 = .ok (.iconst (-1), 1) := by decide +kernel
theorem dX7_exchange_44 : decode cX7_exchange 44 = .ok (.ixor, 1) := by decide +kernel
theorem dX7_exchange_45 : decode cX7_exchange 45 = .ok (.iand, 1) := by decide +kernel
theorem dX7_exchange_46 : decode cX7_exchange 46 = .ok (.putfield 55, 3) := by decide +kernel
theorem dX7_exchange_49 : decode cX7_exchange 49 = .ok (.aload_n 0, 1) := by decide +kernel
theorem dX7_exchange_50 : decode cX7_exchange 50 = .ok (.invokevirtual 62, 3) := by decide +kernel
theorem dX7_exchange_53 : decode cX7_exchange 53 = .ok (.iload_n 3, 1) := by decide +kernel
theorem dX7_exchange_54 : decode cX7_exchange 54 = .ok (.ireturn, 1) := by decide +kernel
theorem dX7_tell_0 : decode cX7_tell 0 = .ok (.iload_n 1, 1) := by decide +kernel
theorem dX7_tell_1 : decode cX7_tell 1 = .ok (.iload_n 2, 1) := by decide +kernel
theorem dX7_tell_2 : decode cX7_tell 2 = .ok (.invokestatic 110, 3) := by decide +kernel
theorem dX7_tell_5 : decode cX7_tell 5 = .ok (.ifCond .ne 7, 3) := by decide +kernel
theorem dX7_tell_8 : decode cX7_tell 8 = .ok (.sipush (-1001), 3) := by decide +kernel
theorem dX7_tell_11 : decode cX7_tell 11 = .ok (.ireturn, 1) := by decide +kernel
theorem dX7_tell_12 : decode cX7_tell 12 = .ok (.iload_n 3, 1) := by decide +kernel
theorem dX7_tell_13 : decode cX7_tell 13 = .ok (.ifCond .lt 8, 3) := by decide +kernel
theorem dX7_tell_16 : decode cX7_tell 16 = .ok (.iload_n 3, 1) := by decide +kernel
theorem dX7_tell_17 : decode cX7_tell 17 = .ok (.iconst 4, 1) := by decide +kernel
theorem dX7_tell_18 : decode cX7_tell 18 = .ok (.if_icmp .le 7, 3) := by decide +kernel
theorem dX7_tell_21 : decode cX7_tell 21 = .ok (.sipush (-1002), 3) := by decide +kernel
theorem dX7_tell_24 : decode cX7_tell 24 = .ok (.ireturn, 1) := by decide +kernel
theorem dX7_tell_25 : decode cX7_tell 25 = .ok (.aload_n 0, 1) := by decide +kernel
theorem dX7_tell_26 : decode cX7_tell 26 = .ok (.getfield 51, 3) := by decide +kernel
theorem dX7_tell_29 : decode cX7_tell 29 = .ok (.iload_n 1, 1) := by decide +kernel
theorem dX7_tell_30 : decode cX7_tell 30 = .ok (.bipush 8, 2) := by decide +kernel
theorem dX7_tell_32 : decode cX7_tell 32 = .ok (.imul, 1) := by decide +kernel
theorem dX7_tell_33 : decode cX7_tell 33 = .ok (.iload_n 2, 1) := by decide +kernel
theorem dX7_tell_34 : decode cX7_tell 34 = .ok (.iadd, 1) := by decide +kernel
theorem dX7_tell_35 : decode cX7_tell 35 = .ok (.iaload, 1) := by decide +kernel
theorem dX7_tell_36 : decode cX7_tell 36 = .ok (.istore 4, 2) := by decide +kernel
theorem dX7_tell_38 : decode cX7_tell 38 = .ok (.aload_n 0, 1) := by decide +kernel
theorem dX7_tell_39 : decode cX7_tell 39 = .ok (.getfield 51, 3) := by decide +kernel
theorem dX7_tell_42 : decode cX7_tell 42 = .ok (.iload_n 1, 1) := by decide +kernel
theorem dX7_tell_43 : decode cX7_tell 43 = .ok (.bipush 8, 2) := by decide +kernel
theorem dX7_tell_45 : decode cX7_tell 45 = .ok (.imul, 1) := by decide +kernel
theorem dX7_tell_46 : decode cX7_tell 46 = .ok (.iload_n 2, 1) := by decide +kernel
theorem dX7_tell_47 : decode cX7_tell 47 = .ok (.iadd, 1) := by decide +kernel
theorem dX7_tell_48 : decode cX7_tell 48 = .ok (.iload_n 3, 1) := by decide +kernel
theorem dX7_tell_49 : decode cX7_tell 49 = .ok (.iastore, 1) := by decide +kernel
theorem dX7_tell_50 : decode cX7_tell 50 = .ok (.aload_n 0, 1) := by decide +kernel
theorem dX7_tell_51 : decode cX7_tell 51 = .ok (.getfield 51, 3) := by decide +kernel
theorem dX7_tell_54 : decode cX7_tell 54 = .ok (.iload_n 2, 1) := by decide +kernel
theorem dX7_tell_55 : decode cX7_tell 55 = .ok (.bipush 8, 2) := by decide +kernel
theorem dX7_tell_57 : decode cX7_tell 57 = .ok (.imul, 1) := by decide +kernel
theorem dX7_tell_58 : decode cX7_tell 58 = .ok (.iload_n 1, 1) := by decide +kernel
theorem dX7_tell_59 : decode cX7_tell 59 = .ok (.iadd, 1) := by decide +kernel
theorem dX7_tell_60 : decode cX7_tell 60 = .ok (.iload_n 3, 1) := by decide +kernel
theorem dX7_tell_61 : decode cX7_tell 61 = .ok (.invokestatic 114, 3) := by decide +kernel
theorem dX7_tell_64 : decode cX7_tell 64 = .ok (.iastore, 1) := by decide +kernel
theorem dX7_tell_65 : decode cX7_tell 65 = .ok (.iload 4, 2) := by decide +kernel
theorem dX7_tell_67 : decode cX7_tell 67 = .ok (.ireturn, 1) := by decide +kernel
theorem dX7_net_0 : decode cX7_net 0 = .ok (.iload_n 1, 1) := by decide +kernel
theorem dX7_net_1 : decode cX7_net 1 = .ok (.invokestatic 101, 3) := by decide +kernel
theorem dX7_net_4 : decode cX7_net 4 = .ok (.ifCond .ne 7, 3) := by decide +kernel
theorem dX7_net_7 : decode cX7_net 7 = .ok (.sipush (-1001), 3) := by decide +kernel
theorem dX7_net_10 : decode cX7_net 10 = .ok (.ireturn, 1) := by decide +kernel
theorem dX7_net_11 : decode cX7_net 11 = .ok (.iload_n 2, 1) := by decide +kernel
theorem dX7_net_12 : decode cX7_net 12 = .ok (.tableswitch 100 0 5 #[40, 50, 60, 70, 82, 91], 40) := by decide +kernel
theorem dX7_net_52 : decode cX7_net 52 = .ok (.aload_n 0, 1) := by decide +kernel
theorem dX7_net_53 : decode cX7_net 53 = .ok (.getfield 26, 3) := by decide +kernel
theorem dX7_net_56 : decode cX7_net 56 = .ok (.getfield 118, 3) := by decide +kernel
theorem dX7_net_59 : decode cX7_net 59 = .ok (.iload_n 1, 1) := by decide +kernel
theorem dX7_net_60 : decode cX7_net 60 = .ok (.iaload, 1) := by decide +kernel
theorem dX7_net_61 : decode cX7_net 61 = .ok (.ireturn, 1) := by decide +kernel
theorem dX7_net_62 : decode cX7_net 62 = .ok (.aload_n 0, 1) := by decide +kernel
theorem dX7_net_63 : decode cX7_net 63 = .ok (.getfield 26, 3) := by decide +kernel
theorem dX7_net_66 : decode cX7_net 66 = .ok (.getfield 121, 3) := by decide +kernel
theorem dX7_net_69 : decode cX7_net 69 = .ok (.iload_n 1, 1) := by decide +kernel
theorem dX7_net_70 : decode cX7_net 70 = .ok (.iaload, 1) := by decide +kernel
theorem dX7_net_71 : decode cX7_net 71 = .ok (.ireturn, 1) := by decide +kernel
theorem dX7_net_72 : decode cX7_net 72 = .ok (.aload_n 0, 1) := by decide +kernel
theorem dX7_net_73 : decode cX7_net 73 = .ok (.getfield 33, 3) := by decide +kernel
theorem dX7_net_76 : decode cX7_net 76 = .ok (.getfield 124, 3) := by decide +kernel
theorem dX7_net_79 : decode cX7_net 79 = .ok (.iload_n 1, 1) := by decide +kernel
theorem dX7_net_80 : decode cX7_net 80 = .ok (.iaload, 1) := by decide +kernel
theorem dX7_net_81 : decode cX7_net 81 = .ok (.ireturn, 1) := by decide +kernel
theorem dX7_net_82 : decode cX7_net 82 = .ok (.aload_n 0, 1) := by decide +kernel
theorem dX7_net_83 : decode cX7_net 83 = .ok (.getfield 33, 3) := by decide +kernel
theorem dX7_net_86 : decode cX7_net 86 = .ok (.getfield 127, 3) := by decide +kernel
theorem dX7_net_89 : decode cX7_net 89 = .ok (.iload_n 1, 1) := by decide +kernel
theorem dX7_net_90 : decode cX7_net 90 = .ok (.invokestatic 106, 3) := by decide +kernel
theorem dX7_net_93 : decode cX7_net 93 = .ok (.ireturn, 1) := by decide +kernel
theorem dX7_net_94 : decode cX7_net 94 = .ok (.aload_n 0, 1) := by decide +kernel
theorem dX7_net_95 : decode cX7_net 95 = .ok (.getfield 40, 3) := by decide +kernel
theorem dX7_net_98 : decode cX7_net 98 = .ok (.iload_n 1, 1) := by decide +kernel
theorem dX7_net_99 : decode cX7_net 99 = .ok (.invokevirtual 130, 3) := by decide +kernel
theorem dX7_net_102 : decode cX7_net 102 = .ok (.ireturn, 1) := by decide +kernel
theorem dX7_net_103 : decode cX7_net 103 = .ok (.aload_n 0, 1) := by decide +kernel
theorem dX7_net_104 : decode cX7_net 104 = .ok (.getfield 55, 3) := by decide +kernel
theorem dX7_net_107 : decode cX7_net 107 = .ok (.iload_n 1, 1) := by decide +kernel
theorem dX7_net_108 : decode cX7_net 108 = .ok (.invokestatic 106, 3) := by decide +kernel
theorem dX7_net_111 : decode cX7_net 111 = .ok (.ireturn, 1) := by decide +kernel
theorem dX7_net_112 : decode cX7_net 112 = .ok (.sipush (-1002), 3) := by decide +kernel
theorem dX7_net_115 : decode cX7_net 115 = .ok (.ireturn, 1) := by decide +kernel
theorem dX7_rank_0 : decode cX7_rank 0 = .ok (.iload_n 1, 1) := by decide +kernel
theorem dX7_rank_1 : decode cX7_rank 1 = .ok (.ifCond .lt 26, 3) := by decide +kernel
theorem dX7_rank_4 : decode cX7_rank 4 = .ok (.iload_n 1, 1) := by decide +kernel
theorem dX7_rank_5 : decode cX7_rank 5 = .ok (.aload_n 0, 1) := by decide +kernel
theorem dX7_rank_6 : decode cX7_rank 6 = .ok (.getfield 33, 3) := by decide +kernel
theorem dX7_rank_9 : decode cX7_rank 9 = .ok (.getfield 133, 3) := by decide +kernel
theorem dX7_rank_12 : decode cX7_rank 12 = .ok (.if_icmp .ge 15, 3) := by decide +kernel
theorem dX7_rank_15 : decode cX7_rank 15 = .ok (.aload_n 0, 1) := by decide +kernel
theorem dX7_rank_16 : decode cX7_rank 16 = .ok (.getfield 33, 3) := by decide +kernel
theorem dX7_rank_19 : decode cX7_rank 19 = .ok (.getfield 134, 3) := by decide +kernel
theorem dX7_rank_22 : decode cX7_rank 22 = .ok (.iload_n 1, 1) := by decide +kernel
theorem dX7_rank_23 : decode cX7_rank 23 = .ok (.iaload, 1) := by decide +kernel
theorem dX7_rank_24 : decode cX7_rank 24 = .ok (.goto 4, 3) := by decide +kernel
theorem dX7_rank_27 : decode cX7_rank 27 = .ok (.iconst (-1), 1) := by decide +kernel
theorem dX7_rank_28 : decode cX7_rank 28 = .ok (.ireturn, 1) := by decide +kernel
theorem dX7_top_0 : decode cX7_top 0 = .ok (.aload_n 0, 1) := by decide +kernel
theorem dX7_top_1 : decode cX7_top 1 = .ok (.getfield 33, 3) := by decide +kernel
theorem dX7_top_4 : decode cX7_top 4 = .ok (.getfield 127, 3) := by decide +kernel
theorem dX7_top_7 : decode cX7_top 7 = .ok (.ireturn, 1) := by decide +kernel
theorem dX7_link_0 : decode cX7_link 0 = .ok (.iload_n 1, 1) := by decide +kernel
theorem dX7_link_1 : decode cX7_link 1 = .ok (.iload_n 2, 1) := by decide +kernel
theorem dX7_link_2 : decode cX7_link 2 = .ok (.invokestatic 110, 3) := by decide +kernel
theorem dX7_link_5 : decode cX7_link 5 = .ok (.ifCond .ne 7, 3) := by decide +kernel
theorem dX7_link_8 : decode cX7_link 8 = .ok (.sipush (-1001), 3) := by decide +kernel
theorem dX7_link_11 : decode cX7_link 11 = .ok (.ireturn, 1) := by decide +kernel
theorem dX7_link_12 : decode cX7_link 12 = .ok (.iload_n 3, 1) := by decide +kernel
theorem dX7_link_13 : decode cX7_link 13 = .ok (.tableswitch 107 0 4 #[35, 50, 65, 80, 95], 35) := by decide +kernel
theorem dX7_link_48 : decode cX7_link 48 = .ok (.aload_n 0, 1) := by decide +kernel
theorem dX7_link_49 : decode cX7_link 49 = .ok (.getfield 40, 3) := by decide +kernel
theorem dX7_link_52 : decode cX7_link 52 = .ok (.getfield 137, 3) := by decide +kernel
theorem dX7_link_55 : decode cX7_link 55 = .ok (.iload_n 1, 1) := by decide +kernel
theorem dX7_link_56 : decode cX7_link 56 = .ok (.bipush 8, 2) := by decide +kernel
theorem dX7_link_58 : decode cX7_link 58 = .ok (.imul, 1) := by decide +kernel
theorem dX7_link_59 : decode cX7_link 59 = .ok (.iload_n 2, 1) := by decide +kernel
theorem dX7_link_60 : decode cX7_link 60 = .ok (.iadd, 1) := by decide +kernel
theorem dX7_link_61 : decode cX7_link 61 = .ok (.iaload, 1) := by decide +kernel
theorem dX7_link_62 : decode cX7_link 62 = .ok (.ireturn, 1) := by decide +kernel
theorem dX7_link_63 : decode cX7_link 63 = .ok (.aload_n 0, 1) := by decide +kernel
theorem dX7_link_64 : decode cX7_link 64 = .ok (.getfield 40, 3) := by decide +kernel
theorem dX7_link_67 : decode cX7_link 67 = .ok (.getfield 140, 3) := by decide +kernel
theorem dX7_link_70 : decode cX7_link 70 = .ok (.iload_n 1, 1) := by decide +kernel
theorem dX7_link_71 : decode cX7_link 71 = .ok (.bipush 8, 2) := by decide +kernel
theorem dX7_link_73 : decode cX7_link 73 = .ok (.imul, 1) := by decide +kernel
theorem dX7_link_74 : decode cX7_link 74 = .ok (.iload_n 2, 1) := by decide +kernel
theorem dX7_link_75 : decode cX7_link 75 = .ok (.iadd, 1) := by decide +kernel
theorem dX7_link_76 : decode cX7_link 76 = .ok (.iaload, 1) := by decide +kernel
theorem dX7_link_77 : decode cX7_link 77 = .ok (.ireturn, 1) := by decide +kernel
theorem dX7_link_78 : decode cX7_link 78 = .ok (.aload_n 0, 1) := by decide +kernel
theorem dX7_link_79 : decode cX7_link 79 = .ok (.getfield 40, 3) := by decide +kernel
theorem dX7_link_82 : decode cX7_link 82 = .ok (.getfield 140, 3) := by decide +kernel
theorem dX7_link_85 : decode cX7_link 85 = .ok (.iload_n 2, 1) := by decide +kernel
theorem dX7_link_86 : decode cX7_link 86 = .ok (.bipush 8, 2) := by decide +kernel
theorem dX7_link_88 : decode cX7_link 88 = .ok (.imul, 1) := by decide +kernel
theorem dX7_link_89 : decode cX7_link 89 = .ok (.iload_n 1, 1) := by decide +kernel
theorem dX7_link_90 : decode cX7_link 90 = .ok (.iadd, 1) := by decide +kernel
theorem dX7_link_91 : decode cX7_link 91 = .ok (.iaload, 1) := by decide +kernel
theorem dX7_link_92 : decode cX7_link 92 = .ok (.ireturn, 1) := by decide +kernel
theorem dX7_link_93 : decode cX7_link 93 = .ok (.aload_n 0, 1) := by decide +kernel
theorem dX7_link_94 : decode cX7_link 94 = .ok (.getfield 26, 3) := by decide +kernel
theorem dX7_link_97 : decode cX7_link 97 = .ok (.getfield 143, 3) := by decide +kernel
theorem dX7_link_100 : decode cX7_link 100 = .ok (.iload_n 1, 1) := by decide +kernel
theorem dX7_link_101 : decode cX7_link 101 = .ok (.bipush 8, 2) := by decide +kernel
theorem dX7_link_103 : decode cX7_link 103 = .ok (.imul, 1) := by decide +kernel
theorem dX7_link_104 : decode cX7_link 104 = .ok (.iload_n 2, 1) := by decide +kernel
theorem dX7_link_105 : decode cX7_link 105 = .ok (.iadd, 1) := by decide +kernel
theorem dX7_link_106 : decode cX7_link 106 = .ok (.iaload, 1) := by decide +kernel
theorem dX7_link_107 : decode cX7_link 107 = .ok (.ireturn, 1) := by decide +kernel
theorem dX7_link_108 : decode cX7_link 108 = .ok (.aload_n 0, 1) := by decide +kernel
theorem dX7_link_109 : decode cX7_link 109 = .ok (.getfield 51, 3) := by decide +kernel
theorem dX7_link_112 : decode cX7_link 112 = .ok (.iload_n 1, 1) := by decide +kernel
theorem dX7_link_113 : decode cX7_link 113 = .ok (.bipush 8, 2) := by decide +kernel
theorem dX7_link_115 : decode cX7_link 115 = .ok (.imul, 1) := by decide +kernel
theorem dX7_link_116 : decode cX7_link 116 = .ok (.iload_n 2, 1) := by decide +kernel
theorem dX7_link_117 : decode cX7_link 117 = .ok (.iadd, 1) := by decide +kernel
theorem dX7_link_118 : decode cX7_link 118 = .ok (.iaload, 1) := by decide +kernel
theorem dX7_link_119 : decode cX7_link 119 = .ok (.ireturn, 1) := by decide +kernel
theorem dX7_link_120 : decode cX7_link 120 = .ok (.sipush (-1002), 3) := by decide +kernel
theorem dX7_link_123 : decode cX7_link 123 = .ok (.ireturn, 1) := by decide +kernel
theorem dX7_contradicted_0 : decode cX7_contradicted 0 = .ok (.iload_n 1, 1) := by decide +kernel
theorem dX7_contradicted_1 : decode cX7_contradicted 1 = .ok (.ifCond .ge 7, 3) := by decide +kernel
theorem dX7_contradicted_4 : decode cX7_contradicted 4 = .ok (.iconst (-1), 1) := by decide +kernel
theorem dX7_contradicted_5 : decode cX7_contradicted 5 = .ok (.goto 11, 3) := by decide +kernel
theorem dX7_contradicted_8 : decode cX7_contradicted 8 = .ok (.aload_n 0, 1) := by decide +kernel
theorem dX7_contradicted_9 : decode cX7_contradicted 9 = .ok (.getfield 40, 3) := by decide +kernel
theorem dX7_contradicted_12 : decode cX7_contradicted 12 = .ok (.iload_n 1, 1) := by decide +kernel
theorem dX7_contradicted_13 : decode cX7_contradicted 13 = .ok (.invokevirtual 146, 3) := by decide +kernel
theorem dX7_contradicted_16 : decode cX7_contradicted 16 = .ok (.ireturn, 1) := by decide +kernel
theorem dX7_seen_0 : decode cX7_seen 0 = .ok (.aload_n 0, 1) := by decide +kernel
theorem dX7_seen_1 : decode cX7_seen 1 = .ok (.getfield 19, 3) := by decide +kernel
theorem dX7_seen_4 : decode cX7_seen 4 = .ok (.iload_n 1, 1) := by decide +kernel
theorem dX7_seen_5 : decode cX7_seen 5 = .ok (.invokevirtual 94, 3) := by decide +kernel
theorem dX7_seen_8 : decode cX7_seen 8 = .ok (.ifCond .ne 7, 3) := by decide +kernel
theorem dX7_seen_11 : decode cX7_seen 11 = .ok (.sipush (-1001), 3) := by decide +kernel
theorem dX7_seen_14 : decode cX7_seen 14 = .ok (.ireturn, 1) := by decide +kernel
theorem dX7_seen_15 : decode cX7_seen 15 = .ok (.aload_n 0, 1) := by decide +kernel
theorem dX7_seen_16 : decode cX7_seen 16 = .ok (.getfield 19, 3) := by decide +kernel
theorem dX7_seen_19 : decode cX7_seen 19 = .ok (.getfield 149, 3) := by decide +kernel
theorem dX7_seen_22 : decode cX7_seen 22 = .ok (.iload_n 1, 1) := by decide +kernel
theorem dX7_seen_23 : decode cX7_seen 23 = .ok (.iaload, 1) := by decide +kernel
theorem dX7_seen_24 : decode cX7_seen 24 = .ok (.istore_n 3, 1) := by decide +kernel
theorem dX7_seen_25 : decode cX7_seen 25 = .ok (.iload_n 1, 1) := by decide +kernel
theorem dX7_seen_26 : decode cX7_seen 26 = .ok (.bipush 6, 2) := by decide +kernel
theorem dX7_seen_28 : decode cX7_seen 28 = .ok (.imul, 1) := by decide +kernel
theorem dX7_seen_29 : decode cX7_seen 29 = .ok (.istore 4, 2) := by decide +kernel
theorem dX7_seen_31 : decode cX7_seen 31 = .ok (.iload_n 2, 1) := by decide +kernel
theorem dX7_seen_32 : decode cX7_seen 32 = .ok (.tableswitch 66 0 2 #[28, 30, 48], 28) := by decide +kernel
theorem dX7_seen_60 : decode cX7_seen 60 = .ok (.iload_n 3, 1) := by decide +kernel
theorem dX7_seen_61 : decode cX7_seen 61 = .ok (.ireturn, 1) := by decide +kernel
theorem dX7_seen_62 : decode cX7_seen 62 = .ok (.aload_n 0, 1) := by decide +kernel
theorem dX7_seen_63 : decode cX7_seen 63 = .ok (.getfield 33, 3) := by decide +kernel
theorem dX7_seen_66 : decode cX7_seen 66 = .ok (.aload_n 0, 1) := by decide +kernel
theorem dX7_seen_67 : decode cX7_seen 67 = .ok (.getfield 19, 3) := by decide +kernel
theorem dX7_seen_70 : decode cX7_seen 70 = .ok (.getfield 152, 3) := by decide +kernel
theorem dX7_seen_73 : decode cX7_seen 73 = .ok (.iload 4, 2) := by decide +kernel
theorem dX7_seen_75 : decode cX7_seen 75 = .ok (.iload_n 3, 1) := by decide +kernel
theorem dX7_seen_76 : decode cX7_seen 76 = .ok (.invokevirtual 155, 3) := by decide +kernel
theorem dX7_seen_79 : decode cX7_seen 79 = .ok (.ireturn, 1) := by decide +kernel
theorem dX7_seen_80 : decode cX7_seen 80 = .ok (.aload_n 0, 1) := by decide +kernel
theorem dX7_seen_81 : decode cX7_seen 81 = .ok (.getfield 40, 3) := by decide +kernel
theorem dX7_seen_84 : decode cX7_seen 84 = .ok (.aload_n 0, 1) := by decide +kernel
theorem dX7_seen_85 : decode cX7_seen 85 = .ok (.getfield 19, 3) := by decide +kernel
theorem dX7_seen_88 : decode cX7_seen 88 = .ok (.getfield 152, 3) := by decide +kernel
theorem dX7_seen_91 : decode cX7_seen 91 = .ok (.iload 4, 2) := by decide +kernel
theorem dX7_seen_93 : decode cX7_seen 93 = .ok (.iload_n 3, 1) := by decide +kernel
theorem dX7_seen_94 : decode cX7_seen 94 = .ok (.invokevirtual 90, 3) := by decide +kernel
theorem dX7_seen_97 : decode cX7_seen 97 = .ok (.ireturn, 1) := by decide +kernel
theorem dX7_seen_98 : decode cX7_seen 98 = .ok (.iload_n 2, 1) := by decide +kernel
theorem dX7_seen_99 : decode cX7_seen 99 = .ok (.bipush 10, 2) := by decide +kernel
theorem dX7_seen_101 : decode cX7_seen 101 = .ok (.isub, 1) := by decide +kernel
theorem dX7_seen_102 : decode cX7_seen 102 = .ok (.istore 5, 2) := by decide +kernel
theorem dX7_seen_104 : decode cX7_seen 104 = .ok (.iload_n 2, 1) := by decide +kernel
theorem dX7_seen_105 : decode cX7_seen 105 = .ok (.bipush 10, 2) := by decide +kernel
theorem dX7_seen_107 : decode cX7_seen 107 = .ok (.if_icmp .lt 10, 3) := by decide +kernel
theorem dX7_seen_110 : decode cX7_seen 110 = .ok (.iload 5, 2) := by decide +kernel
theorem dX7_seen_112 : decode cX7_seen 112 = .ok (.bipush 6, 2) := by decide +kernel
theorem dX7_seen_114 : decode cX7_seen 114 = .ok (.if_icmp .lt 7, 3) := by decide +kernel
theorem dX7_seen_117 : decode cX7_seen 117 = .ok (.sipush (-1002), 3) := by decide +kernel
theorem dX7_seen_120 : decode cX7_seen 120 = .ok (.ireturn, 1) := by decide +kernel
theorem dX7_seen_121 : decode cX7_seen 121 = .ok (.iload 5, 2) := by decide +kernel
theorem dX7_seen_123 : decode cX7_seen 123 = .ok (.iload_n 3, 1) := by decide +kernel
theorem dX7_seen_124 : decode cX7_seen 124 = .ok (.if_icmp .ge 19, 3) := by decide +kernel
theorem dX7_seen_127 : decode cX7_seen 127 = .ok (.aload_n 0, 1) := by decide +kernel
theorem dX7_seen_128 : decode cX7_seen 128 = .ok (.getfield 19, 3) := by decide +kernel
theorem dX7_seen_131 : decode cX7_seen 131 = .ok (.getfield 152, 3) := by decide +kernel
theorem dX7_seen_134 : decode cX7_seen 134 = .ok (.iload 4, 2) := by decide +kernel
theorem dX7_seen_136 : decode cX7_seen 136 = .ok (.iload 5, 2) := by decide +kernel
theorem dX7_seen_138 : decode cX7_seen 138 = .ok (.iadd, 1) := by decide +kernel
theorem dX7_seen_139 : decode cX7_seen 139 = .ok (.iaload, 1) := by decide +kernel
theorem dX7_seen_140 : decode cX7_seen 140 = .ok (.goto 4, 3) := by decide +kernel
theorem dX7_seen_143 : decode cX7_seen 143 = .ok (.iconst (-1), 1) := by decide +kernel
theorem dX7_seen_144 : decode cX7_seen 144 = .ok (.ireturn, 1) := by decide +kernel
theorem dX7_near_0 : decode cX7_near 0 = .ok (.iload_n 1, 1) := by decide +kernel
theorem dX7_near_1 : decode cX7_near 1 = .ok (.invokestatic 101, 3) := by decide +kernel
theorem dX7_near_4 : decode cX7_near 4 = .ok (.ifCond .eq 10, 3) := by decide +kernel
theorem dX7_near_7 : decode cX7_near 7 = .ok (.iload_n 2, 1) := by decide +kernel
theorem dX7_near_8 : decode cX7_near 8 = .ok (.invokestatic 101, 3) := by decide +kernel
theorem dX7_near_11 : decode cX7_near 11 = .ok (.ifCond .ne 7, 3) := by decide +kernel
theorem dX7_near_14 : decode cX7_near 14 = .ok (.sipush (-1001), 3) := by decide +kernel
theorem dX7_near_17 : decode cX7_near 17 = .ok (.ireturn, 1) := by decide +kernel
theorem dX7_near_18 : decode cX7_near 18 = .ok (.iload_n 3, 1) := by decide +kernel
theorem dX7_near_19 : decode cX7_near 19 = .ok (.lookupswitch 50 #[(0, 25), (1, 36)], 25) := by decide +kernel
theorem dX7_near_44 : decode cX7_near 44 = .ok (.aload_n 0, 1) := by decide +kernel
theorem dX7_near_45 : decode cX7_near 45 = .ok (.getfield 47, 3) := by decide +kernel
theorem dX7_near_48 : decode cX7_near 48 = .ok (.iconst 0, 1) := by decide +kernel
theorem dX7_near_49 : decode cX7_near 49 = .ok (.iload_n 1, 1) := by decide +kernel
theorem dX7_near_50 : decode cX7_near 50 = .ok (.iload_n 2, 1) := by decide +kernel
theorem dX7_near_51 : decode cX7_near 51 = .ok (.invokevirtual 158, 3) := by decide +kernel
theorem dX7_near_54 : decode cX7_near 54 = .ok (.ireturn, 1) := by decide +kernel
theorem dX7_near_55 : decode cX7_near 55 = .ok (.aload_n 0, 1) := by decide +kernel
theorem dX7_near_56 : decode cX7_near 56 = .ok (.getfield 47, 3) := by decide +kernel
theorem dX7_near_59 : decode cX7_near 59 = .ok (.aload_n 0, 1) := by decide +kernel
theorem dX7_near_60 : decode cX7_near 60 = .ok (.getfield 40, 3) := by decide +kernel
theorem dX7_near_63 : decode cX7_near 63 = .ok (.iload_n 1, 1) := by decide +kernel
theorem dX7_near_64 : decode cX7_near 64 = .ok (.iload_n 2, 1) := by decide +kernel
theorem dX7_near_65 : decode cX7_near 65 = .ok (.invokevirtual 162, 3) := by decide +kernel
theorem dX7_near_68 : decode cX7_near 68 = .ok (.ireturn, 1) := by decide +kernel
theorem dX7_near_69 : decode cX7_near 69 = .ok (.sipush (-1002), 3) := by decide +kernel
theorem dX7_near_72 : decode cX7_near 72 = .ok (.ireturn, 1) := by decide +kernel
theorem dX7_count_0 : decode cX7_count 0 = .ok (.iload_n 1, 1) := by decide +kernel
theorem dX7_count_1 : decode cX7_count 1 = .ok (.tableswitch 158 0 11 #[63, 71, 79, 97, 106, 115, 123, 128, 134, 140, 148, 153], 63) := by decide +kernel
theorem dX7_count_64 : decode cX7_count 64 = .ok (.aload_n 0, 1) := by decide +kernel
theorem dX7_count_65 : decode cX7_count 65 = .ok (.getfield 19, 3) := by decide +kernel
theorem dX7_count_68 : decode cX7_count 68 = .ok (.getfield 80, 3) := by decide +kernel
theorem dX7_count_71 : decode cX7_count 71 = .ok (.ireturn, 1) := by decide +kernel
theorem dX7_count_72 : decode cX7_count 72 = .ok (.aload_n 0, 1) := by decide +kernel
theorem dX7_count_73 : decode cX7_count 73 = .ok (.getfield 26, 3) := by decide +kernel
theorem dX7_count_76 : decode cX7_count 76 = .ok (.invokevirtual 166, 3) := by decide +kernel
theorem dX7_count_79 : decode cX7_count 79 = .ok (.ireturn, 1) := by decide +kernel
theorem dX7_count_80 : decode cX7_count 80 = .ok (.aload_n 0, 1) := by decide +kernel
theorem dX7_count_81 : decode cX7_count 81 = .ok (.getfield 40, 3) := by decide +kernel
theorem dX7_count_84 : decode cX7_count 84 = .ok (.iconst 1, 1) := by decide +kernel
theorem dX7_count_85 : decode cX7_count 85 = .ok (.invokevirtual 169, 3) := by decide +kernel
theorem dX7_count_88 : decode cX7_count 88 = .ok (.aload_n 0, 1) := by decide +kernel
theorem dX7_count_89 : decode cX7_count 89 = .ok (.getfield 40, 3) := by decide +kernel
theorem dX7_count_92 : decode cX7_count 92 = .ok (.iconst 2, 1) := by decide +kernel
theorem dX7_count_93 : decode cX7_count 93 = .ok (.invokevirtual 169, 3) := by decide +kernel
theorem dX7_count_96 : decode cX7_count 96 = .ok (.iadd, 1) := by decide +kernel
theorem dX7_count_97 : decode cX7_count 97 = .ok (.ireturn, 1) := by decide +kernel
theorem dX7_count_98 : decode cX7_count 98 = .ok (.aload_n 0, 1) := by decide +kernel
theorem dX7_count_99 : decode cX7_count 99 = .ok (.getfield 40, 3) := by decide +kernel
theorem dX7_count_102 : decode cX7_count 102 = .ok (.iconst 3, 1) := by decide +kernel
theorem dX7_count_103 : decode cX7_count 103 = .ok (.invokevirtual 169, 3) := by decide +kernel
theorem dX7_count_106 : decode cX7_count 106 = .ok (.ireturn, 1) := by decide +kernel
theorem dX7_count_107 : decode cX7_count 107 = .ok (.aload_n 0, 1) := by decide +kernel
theorem dX7_count_108 : decode cX7_count 108 = .ok (.getfield 40, 3) := by decide +kernel
theorem dX7_count_111 : decode cX7_count 111 = .ok (.iconst 4, 1) := by decide +kernel
theorem dX7_count_112 : decode cX7_count 112 = .ok (.invokevirtual 169, 3) := by decide +kernel
theorem dX7_count_115 : decode cX7_count 115 = .ok (.ireturn, 1) := by decide +kernel
theorem dX7_count_116 : decode cX7_count 116 = .ok (.aload_n 0, 1) := by decide +kernel
theorem dX7_count_117 : decode cX7_count 117 = .ok (.getfield 40, 3) := by decide +kernel
theorem dX7_count_120 : decode cX7_count 120 = .ok (.invokevirtual 172, 3) := by decide +kernel
theorem dX7_count_123 : decode cX7_count 123 = .ok (.ireturn, 1) := by decide +kernel
theorem dX7_count_124 : decode cX7_count 124 = .ok (.aload_n 0, 1) := by decide +kernel
theorem dX7_count_125 : decode cX7_count 125 = .ok (.invokevirtual 175, 3) := by decide +kernel
theorem dX7_count_128 : decode cX7_count 128 = .ok (.ireturn, 1) := by decide +kernel
theorem dX7_count_129 : decode cX7_count 129 = .ok (.aload_n 0, 1) := by decide +kernel
theorem dX7_count_130 : decode cX7_count 130 = .ok (.iconst 1, 1) := by decide +kernel
theorem dX7_count_131 : decode cX7_count 131 = .ok (.invokevirtual 178, 3) := by decide +kernel
theorem dX7_count_134 : decode cX7_count 134 = .ok (.ireturn, 1) := by decide +kernel
theorem dX7_count_135 : decode cX7_count 135 = .ok (.aload_n 0, 1) := by decide +kernel
theorem dX7_count_136 : decode cX7_count 136 = .ok (.iconst 0, 1) := by decide +kernel
theorem dX7_count_137 : decode cX7_count 137 = .ok (.invokevirtual 178, 3) := by decide +kernel
theorem dX7_count_140 : decode cX7_count 140 = .ok (.ireturn, 1) := by decide +kernel
theorem dX7_count_141 : decode cX7_count 141 = .ok (.aload_n 0, 1) := by decide +kernel
theorem dX7_count_142 : decode cX7_count 142 = .ok (.getfield 10, 3) := by decide +kernel
theorem dX7_count_145 : decode cX7_count 145 = .ok (.getfield 65, 3) := by decide +kernel
theorem dX7_count_148 : decode cX7_count 148 = .ok (.ireturn, 1) := by decide +kernel
theorem dX7_count_149 : decode cX7_count 149 = .ok (.aload_n 0, 1) := by decide +kernel
theorem dX7_count_150 : decode cX7_count 150 = .ok (.getfield 55, 3) := by decide +kernel
theorem dX7_count_153 : decode cX7_count 153 = .ok (.ireturn, 1) := by decide +kernel
theorem dX7_count_154 : decode cX7_count 154 = .ok (.aload_n 0, 1) := by decide +kernel
theorem dX7_count_155 : decode cX7_count 155 = .ok (.getfield 59, 3) := by decide +kernel
theorem dX7_count_158 : decode cX7_count 158 = .ok (.ireturn, 1) := by decide +kernel
theorem dX7_count_159 : decode cX7_count 159 = .ok (.sipush (-1002), 3) := by decide +kernel
theorem dX7_count_162 : decode cX7_count 162 = .ok (.ireturn, 1) := by decide +kernel
theorem dX7_digest_0 : decode cX7_digest 0 = .ok (.aload_n 0, 1) := by decide +kernel
theorem dX7_digest_1 : decode cX7_digest 1 = .ok (.ldc2_w 182, 3) := by decide +kernel
theorem dX7_digest_4 : decode cX7_digest 4 = .ok (.invokevirtual 184, 3) := by decide +kernel
theorem dX7_digest_7 : decode cX7_digest 7 = .ok (.lstore_n 1, 1) := by decide +kernel
theorem dX7_digest_8 : decode cX7_digest 8 = .ok (.aload_n 0, 1) := by decide +kernel
theorem dX7_digest_9 : decode cX7_digest 9 = .ok (.lload_n 1, 1) := by decide +kernel
theorem dX7_digest_10 : decode cX7_digest 10 = .ok (.invokevirtual 188, 3) := by decide +kernel
theorem dX7_digest_13 : decode cX7_digest 13 = .ok (.lstore_n 1, 1) := by decide +kernel
theorem dX7_digest_14 : decode cX7_digest 14 = .ok (.aload_n 0, 1) := by decide +kernel
theorem dX7_digest_15 : decode cX7_digest 15 = .ok (.lload_n 1, 1) := by decide +kernel
theorem dX7_digest_16 : decode cX7_digest 16 = .ok (.invokevirtual 191, 3) := by decide +kernel
theorem dX7_digest_19 : decode cX7_digest 19 = .ok (.lreturn, 1) := by decide +kernel
theorem dX7_refresh_0 : decode cX7_refresh 0 = .ok (.aload_n 0, 1) := by decide +kernel
theorem dX7_refresh_1 : decode cX7_refresh 1 = .ok (.getfield 19, 3) := by decide +kernel
theorem dX7_refresh_4 : decode cX7_refresh 4 = .ok (.aload_n 0, 1) := by decide +kernel
theorem dX7_refresh_5 : decode cX7_refresh 5 = .ok (.getfield 55, 3) := by decide +kernel
theorem dX7_refresh_8 : decode cX7_refresh 8 = .ok (.invokevirtual 194, 3) := by decide +kernel
theorem dX7_refresh_11 : decode cX7_refresh 11 = .ok (.aload_n 0, 1) := by decide +kernel
theorem dX7_refresh_12 : decode cX7_refresh 12 = .ok (.getfield 26, 3) := by decide +kernel
theorem dX7_refresh_15 : decode cX7_refresh 15 = .ok (.aload_n 0, 1) := by decide +kernel
theorem dX7_refresh_16 : decode cX7_refresh 16 = .ok (.getfield 19, 3) := by decide +kernel
theorem dX7_refresh_19 : decode cX7_refresh 19 = .ok (.invokevirtual 197, 3) := by decide +kernel
theorem dX7_refresh_22 : decode cX7_refresh 22 = .ok (.aload_n 0, 1) := by decide +kernel
theorem dX7_refresh_23 : decode cX7_refresh 23 = .ok (.getfield 33, 3) := by decide +kernel
theorem dX7_refresh_26 : decode cX7_refresh 26 = .ok (.aload_n 0, 1) := by decide +kernel
theorem dX7_refresh_27 : decode cX7_refresh 27 = .ok (.getfield 26, 3) := by decide +kernel
theorem dX7_refresh_30 : decode cX7_refresh 30 = .ok (.invokevirtual 201, 3) := by decide +kernel
theorem dX7_refresh_33 : decode cX7_refresh 33 = .ok (.aload_n 0, 1) := by decide +kernel
theorem dX7_refresh_34 : decode cX7_refresh 34 = .ok (.getfield 40, 3) := by decide +kernel
theorem dX7_refresh_37 : decode cX7_refresh 37 = .ok (.aload_n 0, 1) := by decide +kernel
theorem dX7_refresh_38 : decode cX7_refresh 38 = .ok (.getfield 19, 3) := by decide +kernel
theorem dX7_refresh_41 : decode cX7_refresh 41 = .ok (.aload_n 0, 1) := by decide +kernel
theorem dX7_refresh_42 : decode cX7_refresh 42 = .ok (.getfield 26, 3) := by decide +kernel
theorem dX7_refresh_45 : decode cX7_refresh 45 = .ok (.aload_n 0, 1) := by decide +kernel
theorem dX7_refresh_46 : decode cX7_refresh 46 = .ok (.getfield 33, 3) := by decide +kernel
theorem dX7_refresh_49 : decode cX7_refresh 49 = .ok (.invokevirtual 204, 3) := by decide +kernel
theorem dX7_refresh_52 : decode cX7_refresh 52 = .ok (.aload_n 0, 1) := by decide +kernel
theorem dX7_refresh_53 : decode cX7_refresh 53 = .ok (.getfield 47, 3) := by decide +kernel
theorem dX7_refresh_56 : decode cX7_refresh 56 = .ok (.aload_n 0, 1) := by decide +kernel
theorem dX7_refresh_57 : decode cX7_refresh 57 = .ok (.getfield 40, 3) := by decide +kernel
theorem dX7_refresh_60 : decode cX7_refresh 60 = .ok (.aload_n 0, 1) := by decide +kernel
theorem dX7_refresh_61 : decode cX7_refresh 61 = .ok (.getfield 26, 3) := by decide +kernel
theorem dX7_refresh_64 : decode cX7_refresh 64 = .ok (.getfield 207, 3) := by decide +kernel
theorem dX7_refresh_67 : decode cX7_refresh 67 = .ok (.invokevirtual 210, 3) := by decide +kernel
theorem dX7_refresh_70 : decode cX7_refresh 70 = .ok (.return_, 1) := by decide +kernel
theorem dX7_arePair_0 : decode cX7_arePair 0 = .ok (.iload_n 0, 1) := by decide +kernel
theorem dX7_arePair_1 : decode cX7_arePair 1 = .ok (.invokestatic 101, 3) := by decide +kernel
theorem dX7_arePair_4 : decode cX7_arePair 4 = .ok (.ifCond .eq 19, 3) := by decide +kernel
theorem dX7_arePair_7 : decode cX7_arePair 7 = .ok (.iload_n 1, 1) := by decide +kernel
theorem dX7_arePair_8 : decode cX7_arePair 8 = .ok (.invokestatic 101, 3) := by decide +kernel
theorem dX7_arePair_11 : decode cX7_arePair 11 = .ok (.ifCond .eq 12, 3) := by decide +kernel
theorem dX7_arePair_14 : decode cX7_arePair 14 = .ok (.iload_n 0, 1) := by decide +kernel
theorem dX7_arePair_15 : decode cX7_arePair 15 = .ok (.iload_n 1, 1) := by decide +kernel
theorem dX7_arePair_16 : decode cX7_arePair 16 = .ok (.if_icmp .eq 7, 3) := by decide +kernel
theorem dX7_arePair_19 : decode cX7_arePair 19 = .ok (.iconst 1, 1) := by decide +kernel
theorem dX7_arePair_20 : decode cX7_arePair 20 = .ok (.goto 4, 3) := by decide +kernel
theorem dX7_arePair_23 : decode cX7_arePair 23 = .ok (.iconst 0, 1) := by decide +kernel
theorem dX7_arePair_24 : decode cX7_arePair 24 = .ok (.ireturn, 1) := by decide +kernel
theorem dX7_waysWithValley_0 : decode cX7_waysWithValley 0 = .ok (.iconst 0, 1) := by decide +kernel
theorem dX7_waysWithValley_1 : decode cX7_waysWithValley 1 = .ok (.istore_n 1, 1) := by decide +kernel
theorem dX7_waysWithValley_2 : decode cX7_waysWithValley 2 = .ok (.iconst 0, 1) := by decide +kernel
theorem dX7_waysWithValley_3 : decode cX7_waysWithValley 3 = .ok (.istore_n 2, 1) := by decide +kernel
theorem dX7_waysWithValley_4 : decode cX7_waysWithValley 4 = .ok (.iload_n 2, 1) := by decide +kernel
theorem dX7_waysWithValley_5 : decode cX7_waysWithValley 5 = .ok (.aload_n 0, 1) := by decide +kernel
theorem dX7_waysWithValley_6 : decode cX7_waysWithValley 6 = .ok (.getfield 19, 3) := by decide +kernel
theorem dX7_waysWithValley_9 : decode cX7_waysWithValley 9 = .ok (.getfield 80, 3) := by decide +kernel
theorem dX7_waysWithValley_12 : decode cX7_waysWithValley 12 = .ok (.if_icmp .ge 43, 3) := by decide +kernel
theorem dX7_waysWithValley_15 : decode cX7_waysWithValley 15 = .ok (.aload_n 0, 1) := by decide +kernel
theorem dX7_waysWithValley_16 : decode cX7_waysWithValley 16 = .ok (.getfield 40, 3) := by decide +kernel
theorem dX7_waysWithValley_19 : decode cX7_waysWithValley 19 = .ok (.aload_n 0, 1) := by decide +kernel
theorem dX7_waysWithValley_20 : decode cX7_waysWithValley 20 = .ok (.getfield 19, 3) := by decide +kernel
theorem dX7_waysWithValley_23 : decode cX7_waysWithValley 23 = .ok (.getfield 152, 3) := by decide +kernel
theorem dX7_waysWithValley_26 : decode cX7_waysWithValley 26 = .ok (.iload_n 2, 1) := by decide +kernel
theorem dX7_waysWithValley_27 : decode cX7_waysWithValley 27 = .ok (.bipush 6, 2) := by decide +kernel
theorem dX7_waysWithValley_29 : decode cX7_waysWithValley 29 = .ok (.imul, 1) := by decide +kernel
theorem dX7_waysWithValley_30 : decode cX7_waysWithValley 30 = .ok (.aload_n 0, 1) := by decide +kernel
theorem dX7_waysWithValley_31 : decode cX7_waysWithValley 31 = .ok (.getfield 19, 3) := by decide +kernel
theorem dX7_waysWithValley_34 : decode cX7_waysWithValley 34 = .ok (.getfield 149, 3) := by decide +kernel
theorem dX7_waysWithValley_37 : decode cX7_waysWithValley 37 = .ok (.iload_n 2, 1) := by decide +kernel
theorem dX7_waysWithValley_38 : decode cX7_waysWithValley 38 = .ok (.iaload, 1) := by decide +kernel
theorem dX7_waysWithValley_39 : decode cX7_waysWithValley 39 = .ok (.invokevirtual 90, 3) := by decide +kernel
theorem dX7_waysWithValley_42 : decode cX7_waysWithValley 42 = .ok (.iconst (-1), 1) := by decide +kernel
theorem dX7_waysWithValley_43 : decode cX7_waysWithValley 43 = .ok (.if_icmp .eq 6, 3) := by decide +kernel
theorem dX7_waysWithValley_46 : decode cX7_waysWithValley 46 = .ok (.iinc 1 1, 3) := by decide +kernel
theorem dX7_waysWithValley_49 : decode cX7_waysWithValley 49 = .ok (.iinc 2 1, 3) := by decide +kernel
theorem dX7_waysWithValley_52 : decode cX7_waysWithValley 52 = .ok (.goto (-48), 3) := by decide +kernel
theorem dX7_waysWithValley_55 : decode cX7_waysWithValley 55 = .ok (.iload_n 1, 1) := by decide +kernel
theorem dX7_waysWithValley_56 : decode cX7_waysWithValley 56 = .ok (.ireturn, 1) := by decide +kernel
theorem dX7_toldLinks_0 : decode cX7_toldLinks 0 = .ok (.iconst 0, 1) := by decide +kernel
theorem dX7_toldLinks_1 : decode cX7_toldLinks 1 = .ok (.istore_n 2, 1) := by decide +kernel
theorem dX7_toldLinks_2 : decode cX7_toldLinks 2 = .ok (.iconst 0, 1) := by decide +kernel
theorem dX7_toldLinks_3 : decode cX7_toldLinks 3 = .ok (.istore_n 3, 1) := by decide +kernel
theorem dX7_toldLinks_4 : decode cX7_toldLinks 4 = .ok (.iload_n 3, 1) := by decide +kernel
theorem dX7_toldLinks_5 : decode cX7_toldLinks 5 = .ok (.bipush 8, 2) := by decide +kernel
theorem dX7_toldLinks_7 : decode cX7_toldLinks 7 = .ok (.if_icmp .ge 87, 3) := by decide +kernel
theorem dX7_toldLinks_10 : decode cX7_toldLinks 10 = .ok (.iload_n 3, 1) := by decide +kernel
theorem dX7_toldLinks_11 : decode cX7_toldLinks 11 = .ok (.iconst 1, 1) := by decide +kernel
theorem dX7_toldLinks_12 : decode cX7_toldLinks 12 = .ok (.iadd, 1) := by decide +kernel
theorem dX7_toldLinks_13 : decode cX7_toldLinks 13 = .ok (.istore 4, 2) := by decide +kernel
theorem dX7_toldLinks_15 : decode cX7_toldLinks 15 = .ok (.iload 4, 2) := by decide +kernel
theorem dX7_toldLinks_17 : decode cX7_toldLinks 17 = .ok (.bipush 8, 2) := by decide +kernel
theorem dX7_toldLinks_19 : decode cX7_toldLinks 19 = .ok (.if_icmp .ge 69, 3) := by decide +kernel
theorem dX7_toldLinks_22 : decode cX7_toldLinks 22 = .ok (.aload_n 0, 1) := by decide +kernel
theorem dX7_toldLinks_23 : decode cX7_toldLinks 23 = .ok (.getfield 40, 3) := by decide +kernel
theorem dX7_toldLinks_26 : decode cX7_toldLinks 26 = .ok (.getfield 137, 3) := by decide +kernel
theorem dX7_toldLinks_29 : decode cX7_toldLinks 29 = .ok (.iload_n 3, 1) := by decide +kernel
theorem dX7_toldLinks_30 : decode cX7_toldLinks 30 = .ok (.bipush 8, 2) := by decide +kernel
theorem dX7_toldLinks_32 : decode cX7_toldLinks 32 = .ok (.imul, 1) := by decide +kernel
theorem dX7_toldLinks_33 : decode cX7_toldLinks 33 = .ok (.iload 4, 2) := by decide +kernel
theorem dX7_toldLinks_35 : decode cX7_toldLinks 35 = .ok (.iadd, 1) := by decide +kernel
theorem dX7_toldLinks_36 : decode cX7_toldLinks 36 = .ok (.iaload, 1) := by decide +kernel
theorem dX7_toldLinks_37 : decode cX7_toldLinks 37 = .ok (.istore 5, 2) := by decide +kernel
theorem dX7_toldLinks_39 : decode cX7_toldLinks 39 = .ok (.aload_n 0, 1) := by decide +kernel
theorem dX7_toldLinks_40 : decode cX7_toldLinks 40 = .ok (.getfield 51, 3) := by decide +kernel
theorem dX7_toldLinks_43 : decode cX7_toldLinks 43 = .ok (.iload_n 3, 1) := by decide +kernel
theorem dX7_toldLinks_44 : decode cX7_toldLinks 44 = .ok (.bipush 8, 2) := by decide +kernel
theorem dX7_toldLinks_46 : decode cX7_toldLinks 46 = .ok (.imul, 1) := by decide +kernel
theorem dX7_toldLinks_47 : decode cX7_toldLinks 47 = .ok (.iload 4, 2) := by decide +kernel
theorem dX7_toldLinks_49 : decode cX7_toldLinks 49 = .ok (.iadd, 1) := by decide +kernel
theorem dX7_toldLinks_50 : decode cX7_toldLinks 50 = .ok (.iaload, 1) := by decide +kernel
theorem dX7_toldLinks_51 : decode cX7_toldLinks 51 = .ok (.istore 6, 2) := by decide +kernel
theorem dX7_toldLinks_53 : decode cX7_toldLinks 53 = .ok (.iload 5, 2) := by decide +kernel
theorem dX7_toldLinks_55 : decode cX7_toldLinks 55 = .ok (.ifCond .eq 27, 3) := by decide +kernel
theorem dX7_toldLinks_58 : decode cX7_toldLinks 58 = .ok (.iload 6, 2) := by decide +kernel
theorem dX7_toldLinks_60 : decode cX7_toldLinks 60 = .ok (.ifCond .eq 22, 3) := by decide +kernel
theorem dX7_toldLinks_63 : decode cX7_toldLinks 63 = .ok (.iload 6, 2) := by decide +kernel
theorem dX7_toldLinks_65 : decode cX7_toldLinks 65 = .ok (.iload 5, 2) := by decide +kernel
theorem dX7_toldLinks_67 : decode cX7_toldLinks 67 = .ok (.if_icmp .ne 7, 3) := by decide +kernel
theorem dX7_toldLinks_70 : decode cX7_toldLinks 70 = .ok (.iconst 1, 1) := by decide +kernel
theorem dX7_toldLinks_71 : decode cX7_toldLinks 71 = .ok (.goto 4, 3) := by decide +kernel
theorem dX7_toldLinks_74 : decode cX7_toldLinks 74 = .ok (.iconst 0, 1) := by decide +kernel
theorem dX7_toldLinks_75 : decode cX7_toldLinks 75 = .ok (.iload_n 1, 1) := by decide +kernel
theorem dX7_toldLinks_76 : decode cX7_toldLinks 76 = .ok (.if_icmp .ne 6, 3) := by decide +kernel
theorem dX7_toldLinks_79 : decode cX7_toldLinks 79 = .ok (.iinc 2 1, 3) := by decide +kernel
theorem dX7_toldLinks_82 : decode cX7_toldLinks 82 = .ok (.iinc 4 1, 3) := by decide +kernel
theorem dX7_toldLinks_85 : decode cX7_toldLinks 85 = .ok (.goto (-70), 3) := by decide +kernel
theorem dX7_toldLinks_88 : decode cX7_toldLinks 88 = .ok (.iinc 3 1, 3) := by decide +kernel
theorem dX7_toldLinks_91 : decode cX7_toldLinks 91 = .ok (.goto (-87), 3) := by decide +kernel
theorem dX7_toldLinks_94 : decode cX7_toldLinks 94 = .ok (.iload_n 2, 1) := by decide +kernel
theorem dX7_toldLinks_95 : decode cX7_toldLinks 95 = .ok (.ireturn, 1) := by decide +kernel
theorem dX7_digestOfNets_0 : decode cX7_digestOfNets 0 = .ok (.lload_n 1, 1) := by decide +kernel
theorem dX7_digestOfNets_1 : decode cX7_digestOfNets 1 = .ok (.lstore_n 3, 1) := by decide +kernel
theorem dX7_digestOfNets_2 : decode cX7_digestOfNets 2 = .ok (.iconst 0, 1) := by decide +kernel
theorem dX7_digestOfNets_3 : decode cX7_digestOfNets 3 = .ok (.istore 5, 2) := by decide +kernel
theorem dX7_digestOfNets_5 : decode cX7_digestOfNets 5 = .ok (.iload 5, 2) := by decide +kernel
theorem dX7_digestOfNets_7 : decode cX7_digestOfNets 7 = .ok (.bipush 8, 2) := by decide +kernel
theorem dX7_digestOfNets_9 : decode cX7_digestOfNets 9 = .ok (.if_icmp .ge 40, 3) := by decide +kernel
theorem dX7_digestOfNets_12 : decode cX7_digestOfNets 12 = .ok (.iconst 0, 1) := by decide +kernel
theorem dX7_digestOfNets_13 : decode cX7_digestOfNets 13 = .ok (.istore 6, 2) := by decide +kernel
theorem dX7_digestOfNets_15 : decode cX7_digestOfNets 15 = .ok (.iload 6, 2) := by decide +kernel
theorem dX7_digestOfNets_17 : decode cX7_digestOfNets 17 = .ok (.iconst 5, 1) := by decide +kernel
theorem dX7_digestOfNets_18 : decode cX7_digestOfNets 18 = .ok (.if_icmp .gt 25, 3) := by decide +kernel
theorem dX7_digestOfNets_21 : decode cX7_digestOfNets 21 = .ok (.ldc2_w 213, 3) := by decide +kernel
theorem dX7_digestOfNets_24 : decode cX7_digestOfNets 24 = .ok (.lload_n 3, 1) := by decide +kernel
theorem dX7_digestOfNets_25 : decode cX7_digestOfNets 25 = .ok (.lmul, 1) := by decide +kernel
theorem dX7_digestOfNets_26 : decode cX7_digestOfNets 26 = .ok (.aload_n 0, 1) := by decide +kernel
theorem dX7_digestOfNets_27 : decode cX7_digestOfNets 27 = .ok (.iload 5, 2) := by decide +kernel
theorem dX7_digestOfNets_29 : decode cX7_digestOfNets 29 = .ok (.iload 6, 2) := by decide +kernel
theorem dX7_digestOfNets_31 : decode cX7_digestOfNets 31 = .ok (.invokevirtual 215, 3) := by decide +kernel
theorem dX7_digestOfNets_34 : decode cX7_digestOfNets 34 = .ok (.i2l, 1) := by decide +kernel
theorem dX7_digestOfNets_35 : decode cX7_digestOfNets 35 = .ok (.ladd, 1) := by decide +kernel
theorem dX7_digestOfNets_36 : decode cX7_digestOfNets 36 = .ok (.lstore_n 3, 1) := by decide +kernel
theorem dX7_digestOfNets_37 : decode cX7_digestOfNets 37 = .ok (.iinc 6 1, 3) := by decide +kernel
theorem dX7_digestOfNets_40 : decode cX7_digestOfNets 40 = .ok (.goto (-25), 3) := by decide +kernel
theorem dX7_digestOfNets_43 : decode cX7_digestOfNets 43 = .ok (.iinc 5 1, 3) := by decide +kernel
theorem dX7_digestOfNets_46 : decode cX7_digestOfNets 46 = .ok (.goto (-41), 3) := by decide +kernel
theorem dX7_digestOfNets_49 : decode cX7_digestOfNets 49 = .ok (.iconst 0, 1) := by decide +kernel
theorem dX7_digestOfNets_50 : decode cX7_digestOfNets 50 = .ok (.istore 5, 2) := by decide +kernel
theorem dX7_digestOfNets_52 : decode cX7_digestOfNets 52 = .ok (.iload 5, 2) := by decide +kernel
theorem dX7_digestOfNets_54 : decode cX7_digestOfNets 54 = .ok (.bipush 8, 2) := by decide +kernel
theorem dX7_digestOfNets_56 : decode cX7_digestOfNets 56 = .ok (.if_icmp .ge 23, 3) := by decide +kernel
theorem dX7_digestOfNets_59 : decode cX7_digestOfNets 59 = .ok (.ldc2_w 213, 3) := by decide +kernel
theorem dX7_digestOfNets_62 : decode cX7_digestOfNets 62 = .ok (.lload_n 3, 1) := by decide +kernel
theorem dX7_digestOfNets_63 : decode cX7_digestOfNets 63 = .ok (.lmul, 1) := by decide +kernel
theorem dX7_digestOfNets_64 : decode cX7_digestOfNets 64 = .ok (.aload_n 0, 1) := by decide +kernel
theorem dX7_digestOfNets_65 : decode cX7_digestOfNets 65 = .ok (.iload 5, 2) := by decide +kernel
theorem dX7_digestOfNets_67 : decode cX7_digestOfNets 67 = .ok (.invokevirtual 218, 3) := by decide +kernel
theorem dX7_digestOfNets_70 : decode cX7_digestOfNets 70 = .ok (.i2l, 1) := by decide +kernel
theorem dX7_digestOfNets_71 : decode cX7_digestOfNets 71 = .ok (.ladd, 1) := by decide +kernel
theorem dX7_digestOfNets_72 : decode cX7_digestOfNets 72 = .ok (.lstore_n 3, 1) := by decide +kernel
theorem dX7_digestOfNets_73 : decode cX7_digestOfNets 73 = .ok (.iinc 5 1, 3) := by decide +kernel
theorem dX7_digestOfNets_76 : decode cX7_digestOfNets 76 = .ok (.goto (-24), 3) := by decide +kernel
theorem dX7_digestOfNets_79 : decode cX7_digestOfNets 79 = .ok (.ldc2_w 213, 3) := by decide +kernel
theorem dX7_digestOfNets_82 : decode cX7_digestOfNets 82 = .ok (.lload_n 3, 1) := by decide +kernel
theorem dX7_digestOfNets_83 : decode cX7_digestOfNets 83 = .ok (.lmul, 1) := by decide +kernel
theorem dX7_digestOfNets_84 : decode cX7_digestOfNets 84 = .ok (.aload_n 0, 1) := by decide +kernel
theorem dX7_digestOfNets_85 : decode cX7_digestOfNets 85 = .ok (.invokevirtual 221, 3) := by decide +kernel
theorem dX7_digestOfNets_88 : decode cX7_digestOfNets 88 = .ok (.i2l, 1) := by decide +kernel
theorem dX7_digestOfNets_89 : decode cX7_digestOfNets 89 = .ok (.ladd, 1) := by decide +kernel
theorem dX7_digestOfNets_90 : decode cX7_digestOfNets 90 = .ok (.lreturn, 1) := by decide +kernel
theorem dX7_digestOfPairs_0 : decode cX7_digestOfPairs 0 = .ok (.lload_n 1, 1) := by decide +kernel
theorem dX7_digestOfPairs_1 : decode cX7_digestOfPairs 1 = .ok (.lstore_n 3, 1) := by decide +kernel
theorem dX7_digestOfPairs_2 : decode cX7_digestOfPairs 2 = .ok (.iconst 0, 1) := by decide +kernel
theorem dX7_digestOfPairs_3 : decode cX7_digestOfPairs 3 = .ok (.istore 5, 2) := by decide +kernel
theorem dX7_digestOfPairs_5 : decode cX7_digestOfPairs 5 = .ok (.iload 5, 2) := by decide +kernel
theorem dX7_digestOfPairs_7 : decode cX7_digestOfPairs 7 = .ok (.bipush 8, 2) := by decide +kernel
theorem dX7_digestOfPairs_9 : decode cX7_digestOfPairs 9 = .ok (.if_icmp .ge 61, 3) := by decide +kernel
theorem dX7_digestOfPairs_12 : decode cX7_digestOfPairs 12 = .ok (.iload 5, 2) := by decide +kernel
theorem dX7_digestOfPairs_14 : decode cX7_digestOfPairs 14 = .ok (.iconst 1, 1) := by decide +kernel
theorem dX7_digestOfPairs_15 : decode cX7_digestOfPairs 15 = .ok (.iadd, 1) := by decide +kernel
theorem dX7_digestOfPairs_16 : decode cX7_digestOfPairs 16 = .ok (.istore 6, 2) := by decide +kernel
theorem dX7_digestOfPairs_18 : decode cX7_digestOfPairs 18 = .ok (.iload 6, 2) := by decide +kernel
theorem dX7_digestOfPairs_20 : decode cX7_digestOfPairs 20 = .ok (.bipush 8, 2) := by decide +kernel
theorem dX7_digestOfPairs_22 : decode cX7_digestOfPairs 22 = .ok (.if_icmp .ge 42, 3) := by decide +kernel
theorem dX7_digestOfPairs_25 : decode cX7_digestOfPairs 25 = .ok (.iconst 0, 1) := by decide +kernel
theorem dX7_digestOfPairs_26 : decode cX7_digestOfPairs 26 = .ok (.istore 7, 2) := by decide +kernel
theorem dX7_digestOfPairs_28 : decode cX7_digestOfPairs 28 = .ok (.iload 7, 2) := by decide +kernel
theorem dX7_digestOfPairs_30 : decode cX7_digestOfPairs 30 = .ok (.iconst 4, 1) := by decide +kernel
theorem dX7_digestOfPairs_31 : decode cX7_digestOfPairs 31 = .ok (.if_icmp .gt 27, 3) := by decide +kernel
theorem dX7_digestOfPairs_34 : decode cX7_digestOfPairs 34 = .ok (.ldc2_w 213, 3) := by decide +kernel
theorem dX7_digestOfPairs_37 : decode cX7_digestOfPairs 37 = .ok (.lload_n 3, 1) := by decide +kernel
theorem dX7_digestOfPairs_38 : decode cX7_digestOfPairs 38 = .ok (.lmul, 1) := by decide +kernel
theorem dX7_digestOfPairs_39 : decode cX7_digestOfPairs 39 = .ok (.aload_n 0, 1) := by decide +kernel
theorem dX7_digestOfPairs_40 : decode cX7_digestOfPairs 40 = .ok (.iload 5, 2) := by decide +kernel
theorem dX7_digestOfPairs_42 : decode cX7_digestOfPairs 42 = .ok (.iload 6, 2) := by decide +kernel
theorem dX7_digestOfPairs_44 : decode cX7_digestOfPairs 44 = .ok (.iload 7, 2) := by decide +kernel
theorem dX7_digestOfPairs_46 : decode cX7_digestOfPairs 46 = .ok (.invokevirtual 223, 3) := by decide +kernel
theorem dX7_digestOfPairs_49 : decode cX7_digestOfPairs 49 = .ok (.i2l, 1) := by decide +kernel
theorem dX7_digestOfPairs_50 : decode cX7_digestOfPairs 50 = .ok (.ladd, 1) := by decide +kernel
theorem dX7_digestOfPairs_51 : decode cX7_digestOfPairs 51 = .ok (.lstore_n 3, 1) := by decide +kernel
theorem dX7_digestOfPairs_52 : decode cX7_digestOfPairs 52 = .ok (.iinc 7 1, 3) := by decide +kernel
theorem dX7_digestOfPairs_55 : decode cX7_digestOfPairs 55 = .ok (.goto (-27), 3) := by decide +kernel
theorem dX7_digestOfPairs_58 : decode cX7_digestOfPairs 58 = .ok (.iinc 6 1, 3) := by decide +kernel
theorem dX7_digestOfPairs_61 : decode cX7_digestOfPairs 61 = .ok (.goto (-43), 3) := by decide +kernel
theorem dX7_digestOfPairs_64 : decode cX7_digestOfPairs 64 = .ok (.iinc 5 1, 3) := by decide +kernel
theorem dX7_digestOfPairs_67 : decode cX7_digestOfPairs 67 = .ok (.goto (-62), 3) := by decide +kernel
theorem dX7_digestOfPairs_70 : decode cX7_digestOfPairs 70 = .ok (.iconst 0, 1) := by decide +kernel
theorem dX7_digestOfPairs_71 : decode cX7_digestOfPairs 71 = .ok (.istore 5, 2) := by decide +kernel
theorem dX7_digestOfPairs_73 : decode cX7_digestOfPairs 73 = .ok (.iload 5, 2) := by decide +kernel
theorem dX7_digestOfPairs_75 : decode cX7_digestOfPairs 75 = .ok (.bipush 8, 2) := by decide +kernel
theorem dX7_digestOfPairs_77 : decode cX7_digestOfPairs 77 = .ok (.if_icmp .ge 42, 3) := by decide +kernel
theorem dX7_digestOfPairs_80 : decode cX7_digestOfPairs 80 = .ok (.iconst 0, 1) := by decide +kernel
theorem dX7_digestOfPairs_81 : decode cX7_digestOfPairs 81 = .ok (.istore 6, 2) := by decide +kernel
theorem dX7_digestOfPairs_83 : decode cX7_digestOfPairs 83 = .ok (.iload 6, 2) := by decide +kernel
theorem dX7_digestOfPairs_85 : decode cX7_digestOfPairs 85 = .ok (.bipush 8, 2) := by decide +kernel
theorem dX7_digestOfPairs_87 : decode cX7_digestOfPairs 87 = .ok (.if_icmp .ge 26, 3) := by decide +kernel
theorem dX7_digestOfPairs_90 : decode cX7_digestOfPairs 90 = .ok (.ldc2_w 213, 3) := by decide +kernel
theorem dX7_digestOfPairs_93 : decode cX7_digestOfPairs 93 = .ok (.lload_n 3, 1) := by decide +kernel
theorem dX7_digestOfPairs_94 : decode cX7_digestOfPairs 94 = .ok (.lmul, 1) := by decide +kernel
theorem dX7_digestOfPairs_95 : decode cX7_digestOfPairs 95 = .ok (.aload_n 0, 1) := by decide +kernel
theorem dX7_digestOfPairs_96 : decode cX7_digestOfPairs 96 = .ok (.iload 5, 2) := by decide +kernel
theorem dX7_digestOfPairs_98 : decode cX7_digestOfPairs 98 = .ok (.iload 6, 2) := by decide +kernel
theorem dX7_digestOfPairs_100 : decode cX7_digestOfPairs 100 = .ok (.iconst 0, 1) := by decide +kernel
theorem dX7_digestOfPairs_101 : decode cX7_digestOfPairs 101 = .ok (.invokevirtual 226, 3) := by decide +kernel
theorem dX7_digestOfPairs_104 : decode cX7_digestOfPairs 104 = .ok (.i2l, 1) := by decide +kernel
theorem dX7_digestOfPairs_105 : decode cX7_digestOfPairs 105 = .ok (.ladd, 1) := by decide +kernel
theorem dX7_digestOfPairs_106 : decode cX7_digestOfPairs 106 = .ok (.lstore_n 3, 1) := by decide +kernel
theorem dX7_digestOfPairs_107 : decode cX7_digestOfPairs 107 = .ok (.iinc 6 1, 3) := by decide +kernel
theorem dX7_digestOfPairs_110 : decode cX7_digestOfPairs 110 = .ok (.goto (-27), 3) := by decide +kernel
theorem dX7_digestOfPairs_113 : decode cX7_digestOfPairs 113 = .ok (.iinc 5 1, 3) := by decide +kernel
theorem dX7_digestOfPairs_116 : decode cX7_digestOfPairs 116 = .ok (.goto (-43), 3) := by decide +kernel
theorem dX7_digestOfPairs_119 : decode cX7_digestOfPairs 119 = .ok (.lload_n 3, 1) := by decide +kernel
theorem dX7_digestOfPairs_120 : decode cX7_digestOfPairs 120 = .ok (.lreturn, 1) := by decide +kernel
theorem dX7_digestOfTheRest_0 : decode cX7_digestOfTheRest 0 = .ok (.lload_n 1, 1) := by decide +kernel
theorem dX7_digestOfTheRest_1 : decode cX7_digestOfTheRest 1 = .ok (.lstore_n 3, 1) := by decide +kernel
theorem dX7_digestOfTheRest_2 : decode cX7_digestOfTheRest 2 = .ok (.iconst 0, 1) := by decide +kernel
theorem dX7_digestOfTheRest_3 : decode cX7_digestOfTheRest 3 = .ok (.istore 5, 2) := by decide +kernel
theorem dX7_digestOfTheRest_5 : decode cX7_digestOfTheRest 5 = .ok (.iload 5, 2) := by decide +kernel
theorem dX7_digestOfTheRest_7 : decode cX7_digestOfTheRest 7 = .ok (.iconst 3, 1) := by decide +kernel
theorem dX7_digestOfTheRest_8 : decode cX7_digestOfTheRest 8 = .ok (.if_icmp .gt 23, 3) := by decide +kernel
theorem dX7_digestOfTheRest_11 : decode cX7_digestOfTheRest 11 = .ok (.ldc2_w 213, 3) := by decide +kernel
theorem dX7_digestOfTheRest_14 : decode cX7_digestOfTheRest 14 = .ok (.lload_n 3, 1) := by decide +kernel
theorem dX7_digestOfTheRest_15 : decode cX7_digestOfTheRest 15 = .ok (.lmul, 1) := by decide +kernel
theorem dX7_digestOfTheRest_16 : decode cX7_digestOfTheRest 16 = .ok (.aload_n 0, 1) := by decide +kernel
theorem dX7_digestOfTheRest_17 : decode cX7_digestOfTheRest 17 = .ok (.iload 5, 2) := by decide +kernel
theorem dX7_digestOfTheRest_19 : decode cX7_digestOfTheRest 19 = .ok (.invokevirtual 229, 3) := by decide +kernel
theorem dX7_digestOfTheRest_22 : decode cX7_digestOfTheRest 22 = .ok (.i2l, 1) := by decide +kernel
theorem dX7_digestOfTheRest_23 : decode cX7_digestOfTheRest 23 = .ok (.ladd, 1) := by decide +kernel
theorem dX7_digestOfTheRest_24 : decode cX7_digestOfTheRest 24 = .ok (.lstore_n 3, 1) := by decide +kernel
theorem dX7_digestOfTheRest_25 : decode cX7_digestOfTheRest 25 = .ok (.iinc 5 1, 3) := by decide +kernel
theorem dX7_digestOfTheRest_28 : decode cX7_digestOfTheRest 28 = .ok (.goto (-23), 3) := by decide +kernel
theorem dX7_digestOfTheRest_31 : decode cX7_digestOfTheRest 31 = .ok (.iconst 0, 1) := by decide +kernel
theorem dX7_digestOfTheRest_32 : decode cX7_digestOfTheRest 32 = .ok (.istore 5, 2) := by decide +kernel
theorem dX7_digestOfTheRest_34 : decode cX7_digestOfTheRest 34 = .ok (.iload 5, 2) := by decide +kernel
theorem dX7_digestOfTheRest_36 : decode cX7_digestOfTheRest 36 = .ok (.aload_n 0, 1) := by decide +kernel
theorem dX7_digestOfTheRest_37 : decode cX7_digestOfTheRest 37 = .ok (.getfield 19, 3) := by decide +kernel
theorem dX7_digestOfTheRest_40 : decode cX7_digestOfTheRest 40 = .ok (.getfield 80, 3) := by decide +kernel
theorem dX7_digestOfTheRest_43 : decode cX7_digestOfTheRest 43 = .ok (.if_icmp .ge 40, 3) := by decide +kernel
theorem dX7_digestOfTheRest_46 : decode cX7_digestOfTheRest 46 = .ok (.iconst 0, 1) := by decide +kernel
theorem dX7_digestOfTheRest_47 : decode cX7_digestOfTheRest 47 = .ok (.istore 6, 2) := by decide +kernel
theorem dX7_digestOfTheRest_49 : decode cX7_digestOfTheRest 49 = .ok (.iload 6, 2) := by decide +kernel
theorem dX7_digestOfTheRest_51 : decode cX7_digestOfTheRest 51 = .ok (.iconst 2, 1) := by decide +kernel
theorem dX7_digestOfTheRest_52 : decode cX7_digestOfTheRest 52 = .ok (.if_icmp .gt 25, 3) := by decide +kernel
theorem dX7_digestOfTheRest_55 : decode cX7_digestOfTheRest 55 = .ok (.ldc2_w 213, 3) := by decide +kernel
theorem dX7_digestOfTheRest_58 : decode cX7_digestOfTheRest 58 = .ok (.lload_n 3, 1) := by decide +kernel
theorem dX7_digestOfTheRest_59 : decode cX7_digestOfTheRest 59 = .ok (.lmul, 1) := by decide +kernel
theorem dX7_digestOfTheRest_60 : decode cX7_digestOfTheRest 60 = .ok (.aload_n 0, 1) := by decide +kernel
theorem dX7_digestOfTheRest_61 : decode cX7_digestOfTheRest 61 = .ok (.iload 5, 2) := by decide +kernel
theorem dX7_digestOfTheRest_63 : decode cX7_digestOfTheRest 63 = .ok (.iload 6, 2) := by decide +kernel
theorem dX7_digestOfTheRest_65 : decode cX7_digestOfTheRest 65 = .ok (.invokevirtual 232, 3) := by decide +kernel
theorem dX7_digestOfTheRest_68 : decode cX7_digestOfTheRest 68 = .ok (.i2l, 1) := by decide +kernel
theorem dX7_digestOfTheRest_69 : decode cX7_digestOfTheRest 69 = .ok (.ladd, 1) := by decide +kernel
theorem dX7_digestOfTheRest_70 : decode cX7_digestOfTheRest 70 = .ok (.lstore_n 3, 1) := by decide +kernel
theorem dX7_digestOfTheRest_71 : decode cX7_digestOfTheRest 71 = .ok (.iinc 6 1, 3) := by decide +kernel
theorem dX7_digestOfTheRest_74 : decode cX7_digestOfTheRest 74 = .ok (.goto (-25), 3) := by decide +kernel
theorem dX7_digestOfTheRest_77 : decode cX7_digestOfTheRest 77 = .ok (.iinc 5 1, 3) := by decide +kernel
theorem dX7_digestOfTheRest_80 : decode cX7_digestOfTheRest 80 = .ok (.goto (-46), 3) := by decide +kernel
theorem dX7_digestOfTheRest_83 : decode cX7_digestOfTheRest 83 = .ok (.iconst 0, 1) := by decide +kernel
theorem dX7_digestOfTheRest_84 : decode cX7_digestOfTheRest 84 = .ok (.istore 5, 2) := by decide +kernel
theorem dX7_digestOfTheRest_86 : decode cX7_digestOfTheRest 86 = .ok (.iload 5, 2) := by decide +kernel
theorem dX7_digestOfTheRest_88 : decode cX7_digestOfTheRest 88 = .ok (.aload_n 0, 1) := by decide +kernel
theorem dX7_digestOfTheRest_89 : decode cX7_digestOfTheRest 89 = .ok (.getfield 10, 3) := by decide +kernel
theorem dX7_digestOfTheRest_92 : decode cX7_digestOfTheRest 92 = .ok (.getfield 65, 3) := by decide +kernel
theorem dX7_digestOfTheRest_95 : decode cX7_digestOfTheRest 95 = .ok (.if_icmp .ge 26, 3) := by decide +kernel
theorem dX7_digestOfTheRest_98 : decode cX7_digestOfTheRest 98 = .ok (.ldc2_w 213, 3) := by decide +kernel
theorem dX7_digestOfTheRest_101 : decode cX7_digestOfTheRest 101 = .ok (.lload_n 3, 1) := by decide +kernel
theorem dX7_digestOfTheRest_102 : decode cX7_digestOfTheRest 102 = .ok (.lmul, 1) := by decide +kernel
theorem dX7_digestOfTheRest_103 : decode cX7_digestOfTheRest 103 = .ok (.aload_n 0, 1) := by decide +kernel
theorem dX7_digestOfTheRest_104 : decode cX7_digestOfTheRest 104 = .ok (.getfield 10, 3) := by decide +kernel
theorem dX7_digestOfTheRest_107 : decode cX7_digestOfTheRest 107 = .ok (.iload 5, 2) := by decide +kernel
theorem dX7_digestOfTheRest_109 : decode cX7_digestOfTheRest 109 = .ok (.invokevirtual 235, 3) := by decide +kernel
theorem dX7_digestOfTheRest_112 : decode cX7_digestOfTheRest 112 = .ok (.i2l, 1) := by decide +kernel
theorem dX7_digestOfTheRest_113 : decode cX7_digestOfTheRest 113 = .ok (.ladd, 1) := by decide +kernel
theorem dX7_digestOfTheRest_114 : decode cX7_digestOfTheRest 114 = .ok (.lstore_n 3, 1) := by decide +kernel
theorem dX7_digestOfTheRest_115 : decode cX7_digestOfTheRest 115 = .ok (.iinc 5 1, 3) := by decide +kernel
theorem dX7_digestOfTheRest_118 : decode cX7_digestOfTheRest 118 = .ok (.goto (-32), 3) := by decide +kernel
theorem dX7_digestOfTheRest_121 : decode cX7_digestOfTheRest 121 = .ok (.iconst 0, 1) := by decide +kernel
theorem dX7_digestOfTheRest_122 : decode cX7_digestOfTheRest 122 = .ok (.istore 5, 2) := by decide +kernel
theorem dX7_digestOfTheRest_124 : decode cX7_digestOfTheRest 124 = .ok (.iload 5, 2) := by decide +kernel
theorem dX7_digestOfTheRest_126 : decode cX7_digestOfTheRest 126 = .ok (.bipush 11, 2) := by decide +kernel
theorem dX7_digestOfTheRest_128 : decode cX7_digestOfTheRest 128 = .ok (.if_icmp .gt 23, 3) := by decide +kernel
theorem dX7_digestOfTheRest_131 : decode cX7_digestOfTheRest 131 = .ok (.ldc2_w 213, 3) := by decide +kernel
theorem dX7_digestOfTheRest_134 : decode cX7_digestOfTheRest 134 = .ok (.lload_n 3, 1) := by decide +kernel
theorem dX7_digestOfTheRest_135 : decode cX7_digestOfTheRest 135 = .ok (.lmul, 1) := by decide +kernel
theorem dX7_digestOfTheRest_136 : decode cX7_digestOfTheRest 136 = .ok (.aload_n 0, 1) := by decide +kernel
theorem dX7_digestOfTheRest_137 : decode cX7_digestOfTheRest 137 = .ok (.iload 5, 2) := by decide +kernel
theorem dX7_digestOfTheRest_139 : decode cX7_digestOfTheRest 139 = .ok (.invokevirtual 238, 3) := by decide +kernel
theorem dX7_digestOfTheRest_142 : decode cX7_digestOfTheRest 142 = .ok (.i2l, 1) := by decide +kernel
theorem dX7_digestOfTheRest_143 : decode cX7_digestOfTheRest 143 = .ok (.ladd, 1) := by decide +kernel
theorem dX7_digestOfTheRest_144 : decode cX7_digestOfTheRest 144 = .ok (.lstore_n 3, 1) := by decide +kernel
theorem dX7_digestOfTheRest_145 : decode cX7_digestOfTheRest 145 = .ok (.iinc 5 1, 3) := by decide +kernel
theorem dX7_digestOfTheRest_148 : decode cX7_digestOfTheRest 148 = .ok (.goto (-24), 3) := by decide +kernel
theorem dX7_digestOfTheRest_151 : decode cX7_digestOfTheRest 151 = .ok (.lload_n 3, 1) := by decide +kernel
theorem dX7_digestOfTheRest_152 : decode cX7_digestOfTheRest 152 = .ok (.lreturn, 1) := by decide +kernel
theorem dX8_init_0 : decode cX8_init 0 = .ok (.aload_n 0, 1) := by decide +kernel
theorem dX8_init_1 : decode cX8_init 1 = .ok (.invokespecial 1, 3) := by decide +kernel
theorem dX8_init_4 : decode cX8_init 4 = .ok (.aload_n 0, 1) := by decide +kernel
theorem dX8_init_5 : decode cX8_init 5 = .ok (.bipush 6, 2) := by decide +kernel
theorem dX8_init_7 : decode cX8_init 7 = .ok (.newarray .int, 2) := by decide +kernel
theorem dX8_init_9 : decode cX8_init 9 = .ok (.putfield 7, 3) := by decide +kernel
theorem dX8_init_12 : decode cX8_init 12 = .ok (.aload_n 0, 1) := by decide +kernel
theorem dX8_init_13 : decode cX8_init 13 = .ok (.bipush 96, 2) := by decide +kernel
theorem dX8_init_15 : decode cX8_init 15 = .ok (.newarray .int, 2) := by decide +kernel
theorem dX8_init_17 : decode cX8_init 17 = .ok (.putfield 13, 3) := by decide +kernel
theorem dX8_init_20 : decode cX8_init 20 = .ok (.aload_n 0, 1) := by decide +kernel
theorem dX8_init_21 : decode cX8_init 21 = .ok (.bipush 12, 2) := by decide +kernel
theorem dX8_init_23 : decode cX8_init 23 = .ok (.newarray .int, 2) := by decide +kernel
theorem dX8_init_25 : decode cX8_init 25 = .ok (.putfield 16, 3) := by decide +kernel
theorem dX8_init_28 : decode cX8_init 28 = .ok (.aload_n 0, 1) := by decide +kernel
theorem dX8_init_29 : decode cX8_init 29 = .ok (.bipush 64, 2) := by decide +kernel
theorem dX8_init_31 : decode cX8_init 31 = .ok (.newarray .int, 2) := by decide +kernel
theorem dX8_init_33 : decode cX8_init 33 = .ok (.putfield 19, 3) := by decide +kernel
theorem dX8_init_36 : decode cX8_init 36 = .ok (.aload_n 0, 1) := by decide +kernel
theorem dX8_init_37 : decode cX8_init 37 = .ok (.bipush 96, 2) := by decide +kernel
theorem dX8_init_39 : decode cX8_init 39 = .ok (.newarray .int, 2) := by decide +kernel
theorem dX8_init_41 : decode cX8_init 41 = .ok (.putfield 22, 3) := by decide +kernel
theorem dX8_init_44 : decode cX8_init 44 = .ok (.aload_n 0, 1) := by decide +kernel
theorem dX8_init_45 : decode cX8_init 45 = .ok (.bipush 12, 2) := by decide +kernel
theorem dX8_init_47 : decode cX8_init 47 = .ok (.newarray .int, 2) := by decide +kernel
theorem dX8_init_49 : decode cX8_init 49 = .ok (.putfield 25, 3) := by decide +kernel
theorem dX8_init_52 : decode cX8_init 52 = .ok (.aload_n 0, 1) := by decide +kernel
theorem dX8_init_53 : decode cX8_init 53 = .ok (.bipush 8, 2) := by decide +kernel
theorem dX8_init_55 : decode cX8_init 55 = .ok (.newarray .int, 2) := by decide +kernel
theorem dX8_init_57 : decode cX8_init 57 = .ok (.putfield 28, 3) := by decide +kernel
theorem dX8_init_60 : decode cX8_init 60 = .ok (.aload_n 0, 1) := by decide +kernel
theorem dX8_init_61 : decode cX8_init 61 = .ok (.bipush 8, 2) := by decide +kernel
theorem dX8_init_63 : decode cX8_init 63 = .ok (.newarray .int, 2) := by decide +kernel
theorem dX8_init_65 : decode cX8_init 65 = .ok (.putfield 31, 3) := by decide +kernel
theorem dX8_init_68 : decode cX8_init 68 = .ok (.aload_n 0, 1) := by decide +kernel
theorem dX8_init_69 : decode cX8_init 69 = .ok (.bipush 8, 2) := by decide +kernel
theorem dX8_init_71 : decode cX8_init 71 = .ok (.newarray .int, 2) := by decide +kernel
theorem dX8_init_73 : decode cX8_init 73 = .ok (.putfield 34, 3) := by decide +kernel
theorem dX8_init_76 : decode cX8_init 76 = .ok (.aload_n 0, 1) := by decide +kernel
theorem dX8_init_77 : decode cX8_init 77 = .ok (.bipush 8, 2) := by decide +kernel
theorem dX8_init_79 : decode cX8_init 79 = .ok (.newarray .int, 2) := by decide +kernel
theorem dX8_init_81 : decode cX8_init 81 = .ok (.putfield 37, 3) := by decide +kernel
theorem dX8_init_84 : decode cX8_init 84 = .ok (.aload_n 0, 1) := by decide +kernel
theorem dX8_init_85 : decode cX8_init 85 = .ok (.bipush 64, 2) := by decide +kernel
theorem dX8_init_87 : decode cX8_init 87 = .ok (.newarray .int, 2) := by decide +kernel
theorem dX8_init_89 : decode cX8_init 89 = .ok (.putfield 40, 3) := by decide +kernel
theorem dX8_init_92 : decode cX8_init 92 = .ok (.aload_n 0, 1) := by decide +kernel
theorem dX8_init_93 : decode cX8_init 93 = .ok (.bipush 64, 2) := by decide +kernel
theorem dX8_init_95 : decode cX8_init 95 = .ok (.newarray .int, 2) := by decide +kernel
theorem dX8_init_97 : decode cX8_init 97 = .ok (.putfield 43, 3) := by decide +kernel
theorem dX8_init_100 : decode cX8_init 100 = .ok (.aload_n 0, 1) := by decide +kernel
theorem dX8_init_101 : decode cX8_init 101 = .ok (.bipush 64, 2) := by decide +kernel
theorem dX8_init_103 : decode cX8_init 103 = .ok (.newarray .int, 2) := by decide +kernel
theorem dX8_init_105 : decode cX8_init 105 = .ok (.putfield 46, 3) := by decide +kernel
theorem dX8_init_108 : decode cX8_init 108 = .ok (.aload_n 0, 1) := by decide +kernel
theorem dX8_init_109 : decode cX8_init 109 = .ok (.bipush 8, 2) := by decide +kernel
theorem dX8_init_111 : decode cX8_init 111 = .ok (.newarray .int, 2) := by decide +kernel
theorem dX8_init_113 : decode cX8_init 113 = .ok (.putfield 49, 3) := by decide +kernel
theorem dX8_init_116 : decode cX8_init 116 = .ok (.aload_n 0, 1) := by decide +kernel
theorem dX8_init_117 : decode cX8_init 117 = .ok (.bipush 16, 2) := by decide +kernel
theorem dX8_init_119 : decode cX8_init 119 = .ok (.newarray .int, 2) := by decide +kernel
theorem dX8_init_121 : decode cX8_init 121 = .ok (.putfield 52, 3) := by decide +kernel
theorem dX8_init_124 : decode cX8_init 124 = .ok (.return_, 1) := by decide +kernel
theorem dX8_within_0 : decode cX8_within 0 = .ok (.iload_n 0, 1) := by decide +kernel
theorem dX8_within_1 : decode cX8_within 1 = .ok (.iload_n 1, 1) := by decide +kernel
theorem dX8_within_2 : decode cX8_within 2 = .ok (.if_icmp .lt 12, 3) := by decide +kernel
theorem dX8_within_5 : decode cX8_within 5 = .ok (.iload_n 0, 1) := by decide +kernel
theorem dX8_within_6 : decode cX8_within 6 = .ok (.iload_n 2, 1) := by decide +kernel
theorem dX8_within_7 : decode cX8_within 7 = .ok (.if_icmp .gt 7, 3) := by decide +kernel
theorem dX8_within_10 : decode cX8_within 10 = .ok (.iconst 1, 1) := by decide +kernel
theorem dX8_within_11 : decode cX8_within 11 = .ok (.goto 4, 3) := by decide +kernel
theorem dX8_within_14 : decode cX8_within 14 = .ok (.iconst 0, 1) := by decide +kernel
theorem dX8_within_15 : decode cX8_within 15 = .ok (.ireturn, 1) := by decide +kernel
theorem dX8_has_0 : decode cX8_has 0 = .ok (.iload_n 0, 1) := by decide +kernel
theorem dX8_has_1 : decode cX8_has 1 = .ok (.iload_n 1, 1) := by decide +kernel
theorem dX8_has_2 : decode cX8_has 2 = .ok (.ishr, 1) := by decide +kernel
theorem dX8_has_3 : decode cX8_has 3 = .ok (.iconst 1, 1) := by decide +kernel
theorem dX8_has_4 : decode cX8_has 4 = .ok (.iand, 1) := by decide +kernel
theorem dX8_has_5 : decode cX8_has 5 = .ok (.iconst 1, 1) := by decide +kernel
theorem dX8_has_6 : decode cX8_has 6 = .ok (.if_icmp .ne 7, 3) := by decide +kernel
theorem dX8_has_9 : decode cX8_has 9 = .ok (.iconst 1, 1) := by decide +kernel
theorem dX8_has_10 : decode cX8_has 10 = .ok (.goto 4, 3) := by decide +kernel
theorem dX8_has_13 : decode cX8_has 13 = .ok (.iconst 0, 1) := by decide +kernel
theorem dX8_has_14 : decode cX8_has 14 = .ok (.ireturn, 1) := by decide +kernel
theorem dX8_ones_0 : decode cX8_ones 0 = .ok (.iconst 0, 1) := by decide +kernel
theorem dX8_ones_1 : decode cX8_ones 1 = .ok (.istore_n 1, 1) := by decide +kernel
theorem dX8_ones_2 : decode cX8_ones 2 = .ok (.iconst 0, 1) := by decide +kernel
theorem dX8_ones_3 : decode cX8_ones 3 = .ok (.istore_n 2, 1) := by decide +kernel
theorem dX8_ones_4 : decode cX8_ones 4 = .ok (.iload_n 2, 1) := by decide +kernel
theorem dX8_ones_5 : decode cX8_ones 5 = .ok (.bipush 8, 2) := by decide +kernel
theorem dX8_ones_7 : decode cX8_ones 7 = .ok (.if_icmp .ge 17, 3) := by decide +kernel
theorem dX8_ones_10 : decode cX8_ones 10 = .ok (.iload_n 1, 1) := by decide +kernel
theorem dX8_ones_11 : decode cX8_ones 11 = .ok (.iload_n 0, 1) := by decide +kernel
theorem dX8_ones_12 : decode cX8_ones 12 = .ok (.iload_n 2, 1) := by decide +kernel
theorem dX8_ones_13 : decode cX8_ones 13 = .ok (.ishr, 1) := by decide +kernel
theorem dX8_ones_14 : decode cX8_ones 14 = .ok (.iconst 1, 1) := by decide +kernel
theorem dX8_ones_15 : decode cX8_ones 15 = .ok (.iand, 1) := by decide +kernel
theorem dX8_ones_16 : decode cX8_ones 16 = .ok (.iadd, 1) := by decide +kernel
theorem dX8_ones_17 : decode cX8_ones 17 = .ok (.istore_n 1, 1) := by decide +kernel
theorem dX8_ones_18 : decode cX8_ones 18 = .ok (.iinc 2 1, 3) := by decide +kernel
theorem dX8_ones_21 : decode cX8_ones 21 = .ok (.goto (-17), 3) := by decide +kernel
theorem dX8_ones_24 : decode cX8_ones 24 = .ok (.iload_n 1, 1) := by decide +kernel
theorem dX8_ones_25 : decode cX8_ones 25 = .ok (.ireturn, 1) := by decide +kernel
theorem dX8_letter_0 : decode cX8_letter 0 = .ok (.iload_n 1, 1) := by decide +kernel
theorem dX8_letter_1 : decode cX8_letter 1 = .ok (.bipush 32, 2) := by decide +kernel
theorem dX8_letter_3 : decode cX8_letter 3 = .ok (.bipush 126, 2) := by decide +kernel
theorem dX8_letter_5 : decode cX8_letter 5 = .ok (.invokestatic 55, 3) := by decide +kernel
theorem dX8_letter_8 : decode cX8_letter 8 = .ok (.ifCond .ne 7, 3) := by decide +kernel
theorem dX8_letter_11 : decode cX8_letter 11 = .ok (.sipush (-1002), 3) := by decide +kernel
theorem dX8_letter_14 : decode cX8_letter 14 = .ok (.ireturn, 1) := by decide +kernel
theorem dX8_letter_15 : decode cX8_letter 15 = .ok (.aload_n 0, 1) := by decide +kernel
theorem dX8_letter_16 : decode cX8_letter 16 = .ok (.getfield 59, 3) := by decide +kernel
theorem dX8_letter_19 : decode cX8_letter 19 = .ok (.bipush 6, 2) := by decide +kernel
theorem dX8_letter_21 : decode cX8_letter 21 = .ok (.if_icmp .ne 7, 3) := by decide +kernel
theorem dX8_letter_24 : decode cX8_letter 24 = .ok (.sipush (-1004), 3) := by decide +kernel
theorem dX8_letter_27 : decode cX8_letter 27 = .ok (.ireturn, 1) := by decide +kernel
theorem dX8_letter_28 : decode cX8_letter 28 = .ok (.aload_n 0, 1) := by decide +kernel
theorem dX8_letter_29 : decode cX8_letter 29 = .ok (.getfield 7, 3) := by decide +kernel
theorem dX8_letter_32 : decode cX8_letter 32 = .ok (.aload_n 0, 1) := by decide +kernel
theorem dX8_letter_33 : decode cX8_letter 33 = .ok (.getfield 59, 3) := by decide +kernel
theorem dX8_letter_36 : decode cX8_letter 36 = .ok (.iload_n 1, 1) := by decide +kernel
theorem dX8_letter_37 : decode cX8_letter 37 = .ok (.iastore, 1) := by decide +kernel
theorem dX8_letter_38 : decode cX8_letter 38 = .ok (.aload_n 0, 1) := by decide +kernel
theorem dX8_letter_39 : decode cX8_letter 39 = .ok (.dup, 1) := by decide +kernel
theorem dX8_letter_40 : decode cX8_letter 40 = .ok (.getfield 59, 3) := by decide +kernel
theorem dX8_letter_43 : decode cX8_letter 43 = .ok (.iconst 1, 1) := by decide +kernel
theorem dX8_letter_44 : decode cX8_letter 44 = .ok (.iadd, 1) := by decide +kernel
theorem dX8_letter_45 : decode cX8_letter 45 = .ok (.putfield 59, 3) := by decide +kernel
theorem dX8_letter_48 : decode cX8_letter 48 = .ok (.aload_n 0, 1) := by decide +kernel
theorem dX8_letter_49 : decode cX8_letter 49 = .ok (.getfield 59, 3) := by decide +kernel
theorem dX8_letter_52 : decode cX8_letter 52 = .ok (.ireturn, 1) := by decide +kernel
theorem dX8_blank_0 : decode cX8_blank 0 = .ok (.aload_n 0, 1) := by decide +kernel
theorem dX8_blank_1 : decode cX8_blank 1 = .ok (.getfield 59, 3) := by decide +kernel
theorem dX8_blank_4 : decode cX8_blank 4 = .ok (.istore_n 1, 1) := by decide +kernel
theorem dX8_blank_5 : decode cX8_blank 5 = .ok (.aload_n 0, 1) := by decide +kernel
theorem dX8_blank_6 : decode cX8_blank 6 = .ok (.iconst 0, 1) := by decide +kernel
theorem dX8_blank_7 : decode cX8_blank 7 = .ok (.putfield 59, 3) := by decide +kernel
theorem dX8_blank_10 : decode cX8_blank 10 = .ok (.iload_n 1, 1) := by decide +kernel
theorem dX8_blank_11 : decode cX8_blank 11 = .ok (.ireturn, 1) := by decide +kernel
theorem dX8_isRight_0 : decode cX8_isRight 0 = .ok (.aload_n 0, 1) := by decide +kernel
theorem dX8_isRight_1 : decode cX8_isRight 1 = .ok (.getfield 7, 3) := by decide +kernel
theorem dX8_isRight_4 : decode cX8_isRight 4 = .ok (.iload_n 1, 1) := by decide +kernel
theorem dX8_isRight_5 : decode cX8_isRight 5 = .ok (.iaload, 1) := by decide +kernel
theorem dX8_isRight_6 : decode cX8_isRight 6 = .ok (.bipush 48, 2) := by decide +kernel
theorem dX8_isRight_8 : decode cX8_isRight 8 = .ok (.bipush 55, 2) := by decide +kernel
theorem dX8_isRight_10 : decode cX8_isRight 10 = .ok (.invokestatic 55, 3) := by decide +kernel
theorem dX8_isRight_13 : decode cX8_isRight 13 = .ok (.istore_n 2, 1) := by decide +kernel
theorem dX8_isRight_14 : decode cX8_isRight 14 = .ok (.iconst 0, 1) := by decide +kernel
theorem dX8_isRight_15 : decode cX8_isRight 15 = .ok (.istore_n 3, 1) := by decide +kernel
theorem dX8_isRight_16 : decode cX8_isRight 16 = .ok (.iload_n 3, 1) := by decide +kernel
theorem dX8_isRight_17 : decode cX8_isRight 17 = .ok (.iload_n 1, 1) := by decide +kernel
theorem dX8_isRight_18 : decode cX8_isRight 18 = .ok (.if_icmp .ge 34, 3) := by decide +kernel
theorem dX8_isRight_21 : decode cX8_isRight 21 = .ok (.iload_n 2, 1) := by decide +kernel
theorem dX8_isRight_22 : decode cX8_isRight 22 = .ok (.ifCond .eq 22, 3) := by decide +kernel
theorem dX8_isRight_25 : decode cX8_isRight 25 = .ok (.aload_n 0, 1) := by decide +kernel
theorem dX8_isRight_26 : decode cX8_isRight 26 = .ok (.getfield 7, 3) := by decide +kernel
theorem dX8_isRight_29 : decode cX8_isRight 29 = .ok (.iload_n 3, 1) := by decide +kernel
theorem dX8_isRight_30 : decode cX8_isRight 30 = .ok (.iaload, 1) := by decide +kernel
theorem dX8_isRight_31 : decode cX8_isRight 31 = .ok (.aload_n 0, 1) := by decide +kernel
theorem dX8_isRight_32 : decode cX8_isRight 32 = .ok (.getfield 7, 3) := by decide +kernel
theorem dX8_isRight_35 : decode cX8_isRight 35 = .ok (.iload_n 1, 1) := by decide +kernel
theorem dX8_isRight_36 : decode cX8_isRight 36 = .ok (.iaload, 1) := by decide +kernel
theorem dX8_isRight_37 : decode cX8_isRight 37 = .ok (.if_icmp .eq 7, 3) := by decide +kernel
theorem dX8_isRight_40 : decode cX8_isRight 40 = .ok (.iconst 1, 1) := by decide +kernel
theorem dX8_isRight_41 : decode cX8_isRight 41 = .ok (.goto 4, 3) := by decide +kernel
theorem dX8_isRight_44 : decode cX8_isRight 44 = .ok (.iconst 0, 1) := by decide +kernel
theorem dX8_isRight_45 : decode cX8_isRight 45 = .ok (.istore_n 2, 1) := by decide +kernel
theorem dX8_isRight_46 : decode cX8_isRight 46 = .ok (.iinc 3 1, 3) := by decide +kernel
theorem dX8_isRight_49 : decode cX8_isRight 49 = .ok (.goto (-33), 3) := by decide +kernel
theorem dX8_isRight_52 : decode cX8_isRight 52 = .ok (.iload_n 2, 1) := by decide +kernel
theorem dX8_isRight_53 : decode cX8_isRight 53 = .ok (.ireturn, 1) := by decide +kernel
theorem dX8_rightLetters_0 : decode cX8_rightLetters 0 = .ok (.iconst 0, 1) := by decide +kernel
theorem dX8_rightLetters_1 : decode cX8_rightLetters 1 = .ok (.istore_n 1, 1) := by decide +kernel
theorem dX8_rightLetters_2 : decode cX8_rightLetters 2 = .ok (.iload_n 1, 1) := by decide +kernel
theorem dX8_rightLetters_3 : decode cX8_rightLetters 3 = .ok (.aload_n 0, 1) := by decide +kernel
theorem dX8_rightLetters_4 : decode cX8_rightLetters 4 = .ok (.getfield 59, 3) := by decide +kernel
theorem dX8_rightLetters_7 : decode cX8_rightLetters 7 = .ok (.if_icmp .ge 17, 3) := by decide +kernel
theorem dX8_rightLetters_10 : decode cX8_rightLetters 10 = .ok (.aload_n 0, 1) := by decide +kernel
theorem dX8_rightLetters_11 : decode cX8_rightLetters 11 = .ok (.iload_n 1, 1) := by decide +kernel
theorem dX8_rightLetters_12 : decode cX8_rightLetters 12 = .ok (.invokevirtual 63, 3) := by decide +kernel
theorem dX8_rightLetters_15 : decode cX8_rightLetters 15 = .ok (.ifCond .eq 9, 3) := by decide +kernel
theorem dX8_rightLetters_18 : decode cX8_rightLetters 18 = .ok (.iinc 1 1, 3) := by decide +kernel
theorem dX8_rightLetters_21 : decode cX8_rightLetters 21 = .ok (.goto (-19), 3) := by decide +kernel
theorem dX8_rightLetters_24 : decode cX8_rightLetters 24 = .ok (.iload_n 1, 1) := by decide +kernel
theorem dX8_rightLetters_25 : decode cX8_rightLetters 25 = .ok (.ireturn, 1) := by decide +kernel
theorem dX8_fault_0 : decode cX8_fault 0 = .ok (.aload_n 0, 1) := by decide +kernel
theorem dX8_fault_1 : decode cX8_fault 1 = .ok (.invokevirtual 67, 3) := by decide +kernel
theorem dX8_fault_4 : decode cX8_fault 4 = .ok (.ireturn, 1) := by decide +kernel
theorem dX8_isWayThere_0 : decode cX8_isWayThere 0 = .ok (.aload_n 0, 1) := by decide +kernel
theorem dX8_isWayThere_1 : decode cX8_isWayThere 1 = .ok (.getfield 59, 3) := by decide +kernel
theorem dX8_isWayThere_4 : decode cX8_isWayThere 4 = .ok (.iconst 1, 1) := by decide +kernel
theorem dX8_isWayThere_5 : decode cX8_isWayThere 5 = .ok (.if_icmp .le 18, 3) := by decide +kernel
theorem dX8_isWayThere_8 : decode cX8_isWayThere 8 = .ok (.aload_n 0, 1) := by decide +kernel
theorem dX8_isWayThere_9 : decode cX8_isWayThere 9 = .ok (.invokevirtual 67, 3) := by decide +kernel
theorem dX8_isWayThere_12 : decode cX8_isWayThere 12 = .ok (.aload_n 0, 1) := by decide +kernel
theorem dX8_isWayThere_13 : decode cX8_isWayThere 13 = .ok (.getfield 59, 3) := by decide +kernel
theorem dX8_isWayThere_16 : decode cX8_isWayThere 16 = .ok (.if_icmp .ne 7, 3) := by decide +kernel
theorem dX8_isWayThere_19 : decode cX8_isWayThere 19 = .ok (.iconst 1, 1) := by decide +kernel
theorem dX8_isWayThere_20 : decode cX8_isWayThere 20 = .ok (.goto 4, 3) := by decide +kernel
theorem dX8_isWayThere_23 : decode cX8_isWayThere 23 = .ok (.iconst 0, 1) := by decide +kernel
theorem dX8_isWayThere_24 : decode cX8_isWayThere 24 = .ok (.ireturn, 1) := by decide +kernel
theorem dX8_way_0 : decode cX8_way 0 = .ok (.aload_n 0, 1) := by decide +kernel
theorem dX8_way_1 : decode cX8_way 1 = .ok (.invokevirtual 71, 3) := by decide +kernel
theorem dX8_way_4 : decode cX8_way 4 = .ok (.ifCond .ne 7, 3) := by decide +kernel
theorem dX8_way_7 : decode cX8_way 7 = .ok (.sipush (-1003), 3) := by decide +kernel
theorem dX8_way_10 : decode cX8_way 10 = .ok (.ireturn, 1) := by decide +kernel
theorem dX8_way_11 : decode cX8_way 11 = .ok (.aload_n 0, 1) := by decide +kernel
theorem dX8_way_12 : decode cX8_way 12 = .ok (.getfield 75, 3) := by decide +kernel
theorem dX8_way_15 : decode cX8_way 15 = .ok (.bipush 12, 2) := by decide +kernel
theorem dX8_way_17 : decode cX8_way 17 = .ok (.if_icmp .ne 7, 3) := by decide +kernel
theorem dX8_way_20 : decode cX8_way 20 = .ok (.sipush (-1004), 3) := by decide +kernel
theorem dX8_way_23 : decode cX8_way 23 = .ok (.ireturn, 1) := by decide +kernel
theorem dX8_way_24 : decode cX8_way 24 = .ok (.iconst 0, 1) := by decide +kernel
theorem dX8_way_25 : decode cX8_way 25 = .ok (.istore_n 1, 1) := by decide +kernel
theorem dX8_way_26 : decode cX8_way 26 = .ok (.iload_n 1, 1) := by decide +kernel
theorem dX8_way_27 : decode cX8_way 27 = .ok (.aload_n 0, 1) := by decide +kernel
theorem dX8_way_28 : decode cX8_way 28 = .ok (.getfield 59, 3) := by decide +kernel
theorem dX8_way_31 : decode cX8_way 31 = .ok (.if_icmp .ge 32, 3) := by decide +kernel
theorem dX8_way_34 : decode cX8_way 34 = .ok (.aload_n 0, 1) := by decide +kernel
theorem dX8_way_35 : decode cX8_way 35 = .ok (.getfield 13, 3) := by decide +kernel
theorem dX8_way_38 : decode cX8_way 38 = .ok (.bipush 8, 2) := by decide +kernel
theorem dX8_way_40 : decode cX8_way 40 = .ok (.aload_n 0, 1) := by decide +kernel
theorem dX8_way_41 : decode cX8_way 41 = .ok (.getfield 75, 3) := by decide +kernel
theorem dX8_way_44 : decode cX8_way 44 = .ok (.imul, 1) := by decide +kernel
theorem dX8_way_45 : decode cX8_way 45 = .ok (.iload_n 1, 1) := by decide +kernel
theorem dX8_way_46 : decode cX8_way 46 = .ok (.iadd, 1) := by decide +kernel
theorem dX8_way_47 : decode cX8_way 47 = .ok (.aload_n 0, 1) := by decide +kernel
theorem dX8_way_48 : decode cX8_way 48 = .ok (.getfield 7, 3) := by decide +kernel
theorem dX8_way_51 : decode cX8_way 51 = .ok (.iload_n 1, 1) := by decide +kernel
theorem dX8_way_52 : decode cX8_way 52 = .ok (.iaload, 1) := by decide +kernel
theorem dX8_way_53 : decode cX8_way 53 = .ok (.bipush 48, 2) := by decide +kernel
theorem dX8_way_55 : decode cX8_way 55 = .ok (.isub, 1) := by decide +kernel
theorem dX8_way_56 : decode cX8_way 56 = .ok (.iastore, 1) := by decide +kernel
theorem dX8_way_57 : decode cX8_way 57 = .ok (.iinc 1 1, 3) := by decide +kernel
theorem dX8_way_60 : decode cX8_way 60 = .ok (.goto (-34), 3) := by decide +kernel
theorem dX8_way_63 : decode cX8_way 63 = .ok (.aload_n 0, 1) := by decide +kernel
theorem dX8_way_64 : decode cX8_way 64 = .ok (.getfield 16, 3) := by decide +kernel
theorem dX8_way_67 : decode cX8_way 67 = .ok (.aload_n 0, 1) := by decide +kernel
theorem dX8_way_68 : decode cX8_way 68 = .ok (.getfield 75, 3) := by decide +kernel
theorem dX8_way_71 : decode cX8_way 71 = .ok (.aload_n 0, 1) := by decide +kernel
theorem dX8_way_72 : decode cX8_way 72 = .ok (.getfield 59, 3) := by decide +kernel
theorem dX8_way_75 : decode cX8_way 75 = .ok (.iastore, 1) := by decide +kernel
theorem dX8_way_76 : decode cX8_way 76 = .ok (.aload_n 0, 1) := by decide +kernel
theorem dX8_way_77 : decode cX8_way 77 = .ok (.dup, 1) := by decide +kernel
theorem dX8_way_78 : decode cX8_way 78 = .ok (.getfield 75, 3) := by decide +kernel
theorem dX8_way_81 : decode cX8_way 81 = .ok (.iconst 1, 1) := by decide +kernel
theorem dX8_way_82 : decode cX8_way 82 = .ok (.iadd, 1) := by decide +kernel
theorem dX8_way_83 : decode cX8_way 83 = .ok (.putfield 75, 3) := by decide +kernel
theorem dX8_way_86 : decode cX8_way 86 = .ok (.aload_n 0, 1) := by decide +kernel
theorem dX8_way_87 : decode cX8_way 87 = .ok (.dup, 1) := by decide +kernel
theorem dX8_way_88 : decode cX8_way 88 = .ok (.getfield 78, 3) := by decide +kernel
theorem dX8_way_91 : decode cX8_way 91 = .ok (.iconst 1, 1) := by decide +kernel
theorem dX8_way_92 : decode cX8_way 92 = .ok (.iadd, 1) := by decide +kernel
theorem dX8_way_93 : decode cX8_way 93 = .ok (.putfield 78, 3) := by decide +kernel
theorem dX8_way_96 : decode cX8_way 96 = .ok (.aload_n 0, 1) := by decide +kernel
theorem dX8_way_97 : decode cX8_way 97 = .ok (.iconst 0, 1) := by decide +kernel
theorem dX8_way_98 : decode cX8_way 98 = .ok (.putfield 59, 3) := by decide +kernel
theorem dX8_way_101 : decode cX8_way 101 = .ok (.aload_n 0, 1) := by decide +kernel
theorem dX8_way_102 : decode cX8_way 102 = .ok (.iconst 0, 1) := by decide +kernel
theorem dX8_way_103 : decode cX8_way 103 = .ok (.putfield 81, 3) := by decide +kernel
theorem dX8_way_106 : decode cX8_way 106 = .ok (.aload_n 0, 1) := by decide +kernel
theorem dX8_way_107 : decode cX8_way 107 = .ok (.getfield 75, 3) := by decide +kernel
theorem dX8_way_110 : decode cX8_way 110 = .ok (.iconst 1, 1) := by decide +kernel
theorem dX8_way_111 : decode cX8_way 111 = .ok (.isub, 1) := by decide +kernel
theorem dX8_way_112 : decode cX8_way 112 = .ok (.ireturn, 1) := by decide +kernel
theorem dX8_drop_0 : decode cX8_drop 0 = .ok (.iload_n 1, 1) := by decide +kernel
theorem dX8_drop_1 : decode cX8_drop 1 = .ok (.iconst 0, 1) := by decide +kernel
theorem dX8_drop_2 : decode cX8_drop 2 = .ok (.aload_n 0, 1) := by decide +kernel
theorem dX8_drop_3 : decode cX8_drop 3 = .ok (.getfield 75, 3) := by decide +kernel
theorem dX8_drop_6 : decode cX8_drop 6 = .ok (.iconst 1, 1) := by decide +kernel
theorem dX8_drop_7 : decode cX8_drop 7 = .ok (.isub, 1) := by decide +kernel
theorem dX8_drop_8 : decode cX8_drop 8 = .ok (.invokestatic 55, 3) := by decide +kernel
theorem dX8_drop_11 : decode cX8_drop 11 = .ok (.ifCond .ne 7, 3) := by decide +kernel
theorem dX8_drop_14 : decode cX8_drop 14 = .ok (.sipush (-1001), 3) := by decide +kernel
theorem dX8_drop_17 : decode cX8_drop 17 = .ok (.ireturn, 1) := by decide +kernel
theorem dX8_drop_18 : decode cX8_drop 18 = .ok (.aload_n 0, 1) := by decide +kernel
theorem dX8_drop_19 : decode cX8_drop 19 = .ok (.dup, 1) := by decide +kernel
theorem dX8_drop_20 : decode cX8_drop 20 = .ok (.getfield 75, 3) := by decide +kernel
theorem dX8_drop_23 : decode cX8_drop 23 = .ok (.iconst 1, 1) := by decide +kernel
theorem dX8_drop_24 : decode cX8_drop 24 = .ok (.isub, 1) := by decide +kernel
theorem dX8_drop_25 : decode cX8_drop 25 = .ok (.putfield 75, 3) := by decide +kernel
theorem dX8_drop_28 : decode cX8_drop 28 = .ok (.iload_n 1, 1) := by decide +kernel
theorem dX8_drop_29 : decode cX8_drop 29 = .ok (.istore_n 2, 1) := by decide +kernel
theorem dX8_drop_30 : decode cX8_drop 30 = .ok (.iload_n 2, 1) := by decide +kernel
theorem dX8_drop_31 : decode cX8_drop 31 = .ok (.aload_n 0, 1) := by decide +kernel
theorem dX8_drop_32 : decode cX8_drop 32 = .ok (.getfield 75, 3) := by decide +kernel
theorem dX8_drop_35 : decode cX8_drop 35 = .ok (.if_icmp .ge 62, 3) := by decide +kernel
theorem dX8_drop_38 : decode cX8_drop 38 = .ok (.aload_n 0, 1) := by decide +kernel
theorem dX8_drop_39 : decode cX8_drop 39 = .ok (.getfield 16, 3) := by decide +kernel
theorem dX8_drop_42 : decode cX8_drop 42 = .ok (.iload_n 2, 1) := by decide +kernel
theorem dX8_drop_43 : decode cX8_drop 43 = .ok (.aload_n 0, 1) := by decide +kernel
theorem dX8_drop_44 : decode cX8_drop 44 = .ok (.getfield 16, 3) := by decide +kernel
theorem dX8_drop_47 : decode cX8_drop 47 = .ok (.iload_n 2, 1) := by decide +kernel
theorem dX8_drop_48 : decode cX8_drop 48 = .ok (.iconst 1, 1) := by decide +kernel
theorem dX8_drop_49 : decode cX8_drop 49 = .ok (.iadd, 1) := by decide +kernel
theorem dX8_drop_50 : decode cX8_drop 50 = .ok (.iaload, 1) := by decide +kernel
theorem dX8_drop_51 : decode cX8_drop 51 = .ok (.iastore, 1) := by decide +kernel
theorem dX8_drop_52 : decode cX8_drop 52 = .ok (.iconst 0, 1) := by decide +kernel
theorem dX8_drop_53 : decode cX8_drop 53 = .ok (.istore_n 3, 1) := by decide +kernel
theorem dX8_drop_54 : decode cX8_drop 54 = .ok (.iload_n 3, 1) := by decide +kernel
theorem dX8_drop_55 : decode cX8_drop 55 = .ok (.bipush 8, 2) := by decide +kernel
theorem dX8_drop_57 : decode cX8_drop 57 = .ok (.if_icmp .ge 34, 3) := by decide +kernel
theorem dX8_drop_60 : decode cX8_drop 60 = .ok (.aload_n 0, 1) := by decide +kernel
theorem dX8_drop_61 : decode cX8_drop 61 = .ok (.getfield 13, 3) := by decide +kernel
theorem dX8_drop_64 : decode cX8_drop 64 = .ok (.bipush 8, 2) := by decide +kernel
theorem dX8_drop_66 : decode cX8_drop 66 = .ok (.iload_n 2, 1) := by decide +kernel
theorem dX8_drop_67 : decode cX8_drop 67 = .ok (.imul, 1) := by decide +kernel
theorem dX8_drop_68 : decode cX8_drop 68 = .ok (.iload_n 3, 1) := by decide +kernel
theorem dX8_drop_69 : decode cX8_drop 69 = .ok (.iadd, 1) := by decide +kernel
theorem dX8_drop_70 : decode cX8_drop 70 = .ok (.aload_n 0, 1) := by decide +kernel
theorem dX8_drop_71 : decode cX8_drop 71 = .ok (.getfield 13, 3) := by decide +kernel
theorem dX8_drop_74 : decode cX8_drop 74 = .ok (.bipush 8, 2) := by decide +kernel
theorem dX8_drop_76 : decode cX8_drop 76 = .ok (.iload_n 2, 1) := by decide +kernel
theorem dX8_drop_77 : decode cX8_drop 77 = .ok (.imul, 1) := by decide +kernel
theorem dX8_drop_78 : decode cX8_drop 78 = .ok (.bipush 8, 2) := by decide +kernel
theorem dX8_drop_80 : decode cX8_drop 80 = .ok (.iadd, 1) := by decide +kernel
theorem dX8_drop_81 : decode cX8_drop 81 = .ok (.iload_n 3, 1) := by decide +kernel
theorem dX8_drop_82 : decode cX8_drop 82 = .ok (.iadd, 1) := by decide +kernel
theorem dX8_drop_83 : decode cX8_drop 83 = .ok (.iaload, 1) := by decide +kernel
theorem dX8_drop_84 : decode cX8_drop 84 = .ok (.iastore, 1) := by decide +kernel
theorem dX8_drop_85 : decode cX8_drop 85 = .ok (.iinc 3 1, 3) := by decide +kernel
theorem dX8_drop_88 : decode cX8_drop 88 = .ok (.goto (-34), 3) := by decide +kernel
theorem dX8_drop_91 : decode cX8_drop 91 = .ok (.iinc 2 1, 3) := by decide +kernel
theorem dX8_drop_94 : decode cX8_drop 94 = .ok (.goto (-64), 3) := by decide +kernel
theorem dX8_drop_97 : decode cX8_drop 97 = .ok (.aload_n 0, 1) := by decide +kernel
theorem dX8_drop_98 : decode cX8_drop 98 = .ok (.iconst 0, 1) := by decide +kernel
theorem dX8_drop_99 : decode cX8_drop 99 = .ok (.putfield 81, 3) := by decide +kernel
theorem dX8_drop_102 : decode cX8_drop 102 = .ok (.aload_n 0, 1) := by decide +kernel
theorem dX8_drop_103 : decode cX8_drop 103 = .ok (.getfield 75, 3) := by decide +kernel
theorem dX8_drop_106 : decode cX8_drop 106 = .ok (.ireturn, 1) := by decide +kernel
theorem dX8_isNet_0 : decode cX8_isNet 0 = .ok (.iload_n 0, 1) := by decide +kernel
theorem dX8_isNet_1 : decode cX8_isNet 1 = .ok (.iconst 0, 1) := by decide +kernel
theorem dX8_isNet_2 : decode cX8_isNet 2 = .ok (.bipush 7, 2) := by decide +kernel
theorem dX8_isNet_4 : decode cX8_isNet 4 = .ok (.invokestatic 55, 3) := by decide +kernel
theorem dX8_isNet_7 : decode cX8_isNet 7 = .ok (.ireturn, 1) := by decide +kernel
theorem dX8_exchange_0 : decode cX8_exchange 0 = .ok (.iload_n 1, 1) := by decide +kernel
theorem dX8_exchange_1 : decode cX8_exchange 1 = .ok (.invokestatic 85, 3) := by decide +kernel
theorem dX8_exchange_4 : decode cX8_exchange 4 = .ok (.ifCond .ne 7, 3) := by decide +kernel
theorem dX8_exchange_7 : decode cX8_exchange 7 = .ok (.sipush (-1001), 3) := by decide +kernel
theorem dX8_exchange_10 : decode cX8_exchange 10 = .ok (.ireturn, 1) := by decide +kernel
theorem dX8_exchange_11 : decode cX8_exchange 11 = .ok (.aload_n 0, 1) := by decide +kernel
theorem dX8_exchange_12 : decode cX8_exchange 12 = .ok (.getfield 88, 3) := by decide +kernel
theorem dX8_exchange_15 : decode cX8_exchange 15 = .ok (.iload_n 1, 1) := by decide +kernel
theorem dX8_exchange_16 : decode cX8_exchange 16 = .ok (.ishr, 1) := by decide +kernel
theorem dX8_exchange_17 : decode cX8_exchange 17 = .ok (.iconst 1, 1) := by decide +kernel
theorem dX8_exchange_18 : decode cX8_exchange 18 = .ok (.iand, 1) := by decide +kernel
theorem dX8_exchange_19 : decode cX8_exchange 19 = .ok (.istore_n 3, 1) := by decide +kernel
theorem dX8_exchange_20 : decode cX8_exchange 20 = .ok (.aload_n 0, 1) := by decide +kernel
theorem dX8_exchange_21 : decode cX8_exchange 21 = .ok (.iload_n 2, 1) := by decide +kernel
theorem dX8_exchange_22 : decode cX8_exchange 22 = .ok (.ifCond .eq 14, 3) := by decide +kernel
theorem dX8_exchange_25 : decode cX8_exchange 25 = .ok (.aload_n 0, 1) := by decide +kernel
theorem dX8_exchange_26 : decode cX8_exchange 26 = .ok (.getfield 88, 3) := by decide +kernel
theorem dX8_exchange_29 : decode cX8_exchange 29 = .ok (.iconst 1, 1) := by decide +kernel
theorem dX8_exchange_30 : decode cX8_exchange 30 = .ok (.iload_n 1, 1) := by decide +kernel
theorem dX8_exchange_31 : decode cX8_exchange 31 = .ok (.ishl, 1) := by decide +kernel
theorem dX8_exchange_32 : decode cX8_exchange 32 = .ok (.ior, 1) := by decide +kernel
theorem dX8_exchange_33 : decode cX8_exchange 33 = .ok (.goto 13, 3) := by decide +kernel
theorem dX8_exchange_36 : decode cX8_exchange 36 = .ok (.aload_n 0, 1) := by decide +kernel
theorem dX8_exchange_37 : decode cX8_exchange 37 = .ok (.getfield 88, 3) := by decide +kernel
theorem dX8_exchange_40 : decode cX8_exchange 40 = .ok (.iconst 1, 1) := by decide +kernel
theorem dX8_exchange_41 : decode cX8_exchange 41 = .ok (.iload_n 1, 1) := by decide +kernel
theorem dX8_exchange_42 : decode cX8_exchange 42 = .ok (.ishl, 1) := by decide +kernel
theorem dX8_exchange_43 : decode cX8_exchange 43 = .ok (.iconst (-1), 1) := by decide +kernel
theorem dX8_exchange_44 : decode cX8_exchange 44 = .ok (.ixor, 1) := by decide +kernel
theorem dX8_exchange_45 : decode cX8_exchange 45 = .ok (.iand, 1) := by decide +kernel
theorem dX8_exchange_46 : decode cX8_exchange 46 = .ok (.putfield 88, 3) := by decide +kernel
theorem dX8_exchange_49 : decode cX8_exchange 49 = .ok (.aload_n 0, 1) := by decide +kernel
theorem dX8_exchange_50 : decode cX8_exchange 50 = .ok (.iconst 0, 1) := by decide +kernel
theorem dX8_exchange_51 : decode cX8_exchange 51 = .ok (.putfield 81, 3) := by decide +kernel
theorem dX8_exchange_54 : decode cX8_exchange 54 = .ok (.iload_n 3, 1) := by decide +kernel
theorem dX8_exchange_55 : decode cX8_exchange 55 = .ok (.ireturn, 1) := by decide +kernel
theorem dX8_areTwo_0 : decode cX8_areTwo 0 = .ok (.iload_n 0, 1) := by decide +kernel
theorem dX8_areTwo_1 : decode cX8_areTwo 1 = .ok (.invokestatic 85, 3) := by decide +kernel
theorem dX8_areTwo_4 : decode cX8_areTwo 4 = .ok (.ifCond .eq 19, 3) := by decide +kernel
theorem dX8_areTwo_7 : decode cX8_areTwo 7 = .ok (.iload_n 1, 1) := by decide +kernel
theorem dX8_areTwo_8 : decode cX8_areTwo 8 = .ok (.invokestatic 85, 3) := by decide +kernel
theorem dX8_areTwo_11 : decode cX8_areTwo 11 = .ok (.ifCond .eq 12, 3) := by decide +kernel
theorem dX8_areTwo_14 : decode cX8_areTwo 14 = .ok (.iload_n 0, 1) := by decide +kernel
theorem dX8_areTwo_15 : decode cX8_areTwo 15 = .ok (.iload_n 1, 1) := by decide +kernel
theorem dX8_areTwo_16 : decode cX8_areTwo 16 = .ok (.if_icmp .eq 7, 3) := by decide +kernel
theorem dX8_areTwo_19 : decode cX8_areTwo 19 = .ok (.iconst 1, 1) := by decide +kernel
theorem dX8_areTwo_20 : decode cX8_areTwo 20 = .ok (.goto 4, 3) := by decide +kernel
theorem dX8_areTwo_23 : decode cX8_areTwo 23 = .ok (.iconst 0, 1) := by decide +kernel
theorem dX8_areTwo_24 : decode cX8_areTwo 24 = .ok (.ireturn, 1) := by decide +kernel
theorem dX8_turned_0 : decode cX8_turned 0 = .ok (.iload_n 0, 1) := by decide +kernel
theorem dX8_turned_1 : decode cX8_turned 1 = .ok (.iconst 1, 1) := by decide +kernel
theorem dX8_turned_2 : decode cX8_turned 2 = .ok (.if_icmp .ne 7, 3) := by decide +kernel
theorem dX8_turned_5 : decode cX8_turned 5 = .ok (.iconst 2, 1) := by decide +kernel
theorem dX8_turned_6 : decode cX8_turned 6 = .ok (.goto 13, 3) := by decide +kernel
theorem dX8_turned_9 : decode cX8_turned 9 = .ok (.iload_n 0, 1) := by decide +kernel
theorem dX8_turned_10 : decode cX8_turned 10 = .ok (.iconst 2, 1) := by decide +kernel
theorem dX8_turned_11 : decode cX8_turned 11 = .ok (.if_icmp .ne 7, 3) := by decide +kernel
theorem dX8_turned_14 : decode cX8_turned 14 = .ok (.iconst 1, 1) := by decide +kernel
theorem dX8_turned_15 : decode cX8_turned 15 = .ok (.goto 4, 3) := by decide +kernel
theorem dX8_turned_18 : decode cX8_turned 18 = .ok (.iload_n 0, 1) := by decide +kernel
theorem dX8_turned_19 : decode cX8_turned 19 = .ok (.ireturn, 1) := by decide +kernel
theorem dX8_tell_0 : decode cX8_tell 0 = .ok (.iload_n 1, 1) := by decide +kernel
theorem dX8_tell_1 : decode cX8_tell 1 = .ok (.iload_n 2, 1) := by decide +kernel
theorem dX8_tell_2 : decode cX8_tell 2 = .ok (.invokestatic 91, 3) := by decide +kernel
theorem dX8_tell_5 : decode cX8_tell 5 = .ok (.ifCond .ne 7, 3) := by decide +kernel
theorem dX8_tell_8 : decode cX8_tell 8 = .ok (.sipush (-1001), 3) := by decide +kernel
theorem dX8_tell_11 : decode cX8_tell 11 = .ok (.ireturn, 1) := by decide +kernel
theorem dX8_tell_12 : decode cX8_tell 12 = .ok (.iload_n 3, 1) := by decide +kernel
theorem dX8_tell_13 : decode cX8_tell 13 = .ok (.iconst 0, 1) := by decide +kernel
theorem dX8_tell_14 : decode cX8_tell 14 = .ok (.iconst 4, 1) := by decide +kernel
theorem dX8_tell_15 : decode cX8_tell 15 = .ok (.invokestatic 55, 3) := by decide +kernel
theorem dX8_tell_18 : decode cX8_tell 18 = .ok (.ifCond .ne 7, 3) := by decide +kernel
theorem dX8_tell_21 : decode cX8_tell 21 = .ok (.sipush (-1002), 3) := by decide +kernel
theorem dX8_tell_24 : decode cX8_tell 24 = .ok (.ireturn, 1) := by decide +kernel
theorem dX8_tell_25 : decode cX8_tell 25 = .ok (.aload_n 0, 1) := by decide +kernel
theorem dX8_tell_26 : decode cX8_tell 26 = .ok (.getfield 19, 3) := by decide +kernel
theorem dX8_tell_29 : decode cX8_tell 29 = .ok (.bipush 8, 2) := by decide +kernel
theorem dX8_tell_31 : decode cX8_tell 31 = .ok (.iload_n 1, 1) := by decide +kernel
theorem dX8_tell_32 : decode cX8_tell 32 = .ok (.imul, 1) := by decide +kernel
theorem dX8_tell_33 : decode cX8_tell 33 = .ok (.iload_n 2, 1) := by decide +kernel
theorem dX8_tell_34 : decode cX8_tell 34 = .ok (.iadd, 1) := by decide +kernel
theorem dX8_tell_35 : decode cX8_tell 35 = .ok (.iaload, 1) := by decide +kernel
theorem dX8_tell_36 : decode cX8_tell 36 = .ok (.istore 4, 2) := by decide +kernel
theorem dX8_tell_38 : decode cX8_tell 38 = .ok (.aload_n 0, 1) := by decide +kernel
theorem dX8_tell_39 : decode cX8_tell 39 = .ok (.getfield 19, 3) := by decide +kernel
theorem dX8_tell_42 : decode cX8_tell 42 = .ok (.bipush 8, 2) := by decide +kernel
theorem dX8_tell_44 : decode cX8_tell 44 = .ok (.iload_n 1, 1) := by decide +kernel
theorem dX8_tell_45 : decode cX8_tell 45 = .ok (.imul, 1) := by decide +kernel
theorem dX8_tell_46 : decode cX8_tell 46 = .ok (.iload_n 2, 1) := by decide +kernel
theorem dX8_tell_47 : decode cX8_tell 47 = .ok (.iadd, 1) := by decide +kernel
theorem dX8_tell_48 : decode cX8_tell 48 = .ok (.iload_n 3, 1) := by decide +kernel
theorem dX8_tell_49 : decode cX8_tell 49 = .ok (.iastore, 1) := by decide +kernel
theorem dX8_tell_50 : decode cX8_tell 50 = .ok (.aload_n 0, 1) := by decide +kernel
theorem dX8_tell_51 : decode cX8_tell 51 = .ok (.getfield 19, 3) := by decide +kernel
theorem dX8_tell_54 : decode cX8_tell 54 = .ok (.bipush 8, 2) := by decide +kernel
theorem dX8_tell_56 : decode cX8_tell 56 = .ok (.iload_n 2, 1) := by decide +kernel
theorem dX8_tell_57 : decode cX8_tell 57 = .ok (.imul, 1) := by decide +kernel
theorem dX8_tell_58 : decode cX8_tell 58 = .ok (.iload_n 1, 1) := by decide +kernel
theorem dX8_tell_59 : decode cX8_tell 59 = .ok (.iadd, 1) := by decide +kernel
theorem dX8_tell_60 : decode cX8_tell 60 = .ok (.iload_n 3, 1) := by decide +kernel
theorem dX8_tell_61 : decode cX8_tell 61 = .ok (.invokestatic 95, 3) := by decide +kernel
theorem dX8_tell_64 : decode cX8_tell 64 = .ok (.iastore, 1) := by decide +kernel
theorem dX8_tell_65 : decode cX8_tell 65 = .ok (.iload 4, 2) := by decide +kernel
theorem dX8_tell_67 : decode cX8_tell 67 = .ok (.ireturn, 1) := by decide +kernel
theorem dX8_layWays_0 : decode cX8_layWays 0 = .ok (.iconst 0, 1) := by decide +kernel
theorem dX8_layWays_1 : decode cX8_layWays 1 = .ok (.istore_n 1, 1) := by decide +kernel
theorem dX8_layWays_2 : decode cX8_layWays 2 = .ok (.iload_n 1, 1) := by decide +kernel
theorem dX8_layWays_3 : decode cX8_layWays 3 = .ok (.bipush 8, 2) := by decide +kernel
theorem dX8_layWays_5 : decode cX8_layWays 5 = .ok (.if_icmp .ge 23, 3) := by decide +kernel
theorem dX8_layWays_8 : decode cX8_layWays 8 = .ok (.aload_n 0, 1) := by decide +kernel
theorem dX8_layWays_9 : decode cX8_layWays 9 = .ok (.getfield 28, 3) := by decide +kernel
theorem dX8_layWays_12 : decode cX8_layWays 12 = .ok (.iload_n 1, 1) := by decide +kernel
theorem dX8_layWays_13 : decode cX8_layWays 13 = .ok (.iconst 0, 1) := by decide +kernel
theorem dX8_layWays_14 : decode cX8_layWays 14 = .ok (.iastore, 1) := by decide +kernel
theorem dX8_layWays_15 : decode cX8_layWays 15 = .ok (.aload_n 0, 1) := by decide +kernel
theorem dX8_layWays_16 : decode cX8_layWays 16 = .ok (.getfield 31, 3) := by decide +kernel
theorem dX8_layWays_19 : decode cX8_layWays 19 = .ok (.iload_n 1, 1) := by decide +kernel
theorem dX8_layWays_20 : decode cX8_layWays 20 = .ok (.iconst 0, 1) := by decide +kernel
theorem dX8_layWays_21 : decode cX8_layWays 21 = .ok (.iastore, 1) := by decide +kernel
theorem dX8_layWays_22 : decode cX8_layWays 22 = .ok (.iinc 1 1, 3) := by decide +kernel
theorem dX8_layWays_25 : decode cX8_layWays 25 = .ok (.goto (-23), 3) := by decide +kernel
theorem dX8_layWays_28 : decode cX8_layWays 28 = .ok (.aload_n 0, 1) := by decide +kernel
theorem dX8_layWays_29 : decode cX8_layWays 29 = .ok (.iconst 0, 1) := by decide +kernel
theorem dX8_layWays_30 : decode cX8_layWays 30 = .ok (.putfield 99, 3) := by decide +kernel
theorem dX8_layWays_33 : decode cX8_layWays 33 = .ok (.iconst 0, 1) := by decide +kernel
theorem dX8_layWays_34 : decode cX8_layWays 34 = .ok (.istore_n 1, 1) := by decide +kernel
theorem dX8_layWays_35 : decode cX8_layWays 35 = .ok (.iload_n 1, 1) := by decide +kernel
theorem dX8_layWays_36 : decode cX8_layWays 36 = .ok (.aload_n 0, 1) := by decide +kernel
theorem dX8_layWays_37 : decode cX8_layWays 37 = .ok (.getfield 75, 3) := by decide +kernel
theorem dX8_layWays_40 : decode cX8_layWays 40 = .ok (.if_icmp .ge 96, 3) := by decide +kernel
theorem dX8_layWays_43 : decode cX8_layWays 43 = .ok (.aload_n 0, 1) := by decide +kernel
theorem dX8_layWays_44 : decode cX8_layWays 44 = .ok (.getfield 25, 3) := by decide +kernel
theorem dX8_layWays_47 : decode cX8_layWays 47 = .ok (.iload_n 1, 1) := by decide +kernel
theorem dX8_layWays_48 : decode cX8_layWays 48 = .ok (.iconst 0, 1) := by decide +kernel
theorem dX8_layWays_49 : decode cX8_layWays 49 = .ok (.iastore, 1) := by decide +kernel
theorem dX8_layWays_50 : decode cX8_layWays 50 = .ok (.iconst 0, 1) := by decide +kernel
theorem dX8_layWays_51 : decode cX8_layWays 51 = .ok (.istore_n 2, 1) := by decide +kernel
theorem dX8_layWays_52 : decode cX8_layWays 52 = .ok (.iload_n 2, 1) := by decide +kernel
theorem dX8_layWays_53 : decode cX8_layWays 53 = .ok (.aload_n 0, 1) := by decide +kernel
theorem dX8_layWays_54 : decode cX8_layWays 54 = .ok (.getfield 16, 3) := by decide +kernel
theorem dX8_layWays_57 : decode cX8_layWays 57 = .ok (.iload_n 1, 1) := by decide +kernel
theorem dX8_layWays_58 : decode cX8_layWays 58 = .ok (.iaload, 1) := by decide +kernel
theorem dX8_layWays_59 : decode cX8_layWays 59 = .ok (.if_icmp .ge 71, 3) := by decide +kernel
theorem dX8_layWays_62 : decode cX8_layWays 62 = .ok (.aload_n 0, 1) := by decide +kernel
theorem dX8_layWays_63 : decode cX8_layWays 63 = .ok (.getfield 13, 3) := by decide +kernel
theorem dX8_layWays_66 : decode cX8_layWays 66 = .ok (.bipush 8, 2) := by decide +kernel
theorem dX8_layWays_68 : decode cX8_layWays 68 = .ok (.iload_n 1, 1) := by decide +kernel
theorem dX8_layWays_69 : decode cX8_layWays 69 = .ok (.imul, 1) := by decide +kernel
theorem dX8_layWays_70 : decode cX8_layWays 70 = .ok (.iload_n 2, 1) := by decide +kernel
theorem dX8_layWays_71 : decode cX8_layWays 71 = .ok (.iadd, 1) := by decide +kernel
theorem dX8_layWays_72 : decode cX8_layWays 72 = .ok (.iaload, 1) := by decide +kernel
theorem dX8_layWays_73 : decode cX8_layWays 73 = .ok (.istore_n 3, 1) := by decide +kernel
theorem dX8_layWays_74 : decode cX8_layWays 74 = .ok (.aload_n 0, 1) := by decide +kernel
theorem dX8_layWays_75 : decode cX8_layWays 75 = .ok (.getfield 88, 3) := by decide +kernel
theorem dX8_layWays_78 : decode cX8_layWays 78 = .ok (.iload_n 3, 1) := by decide +kernel
theorem dX8_layWays_79 : decode cX8_layWays 79 = .ok (.invokestatic 102, 3) := by decide +kernel
theorem dX8_layWays_82 : decode cX8_layWays 82 = .ok (.ifCond .ne 42, 3) := by decide +kernel
theorem dX8_layWays_85 : decode cX8_layWays 85 = .ok (.aload_n 0, 1) := by decide +kernel
theorem dX8_layWays_86 : decode cX8_layWays 86 = .ok (.getfield 22, 3) := by decide +kernel
theorem dX8_layWays_89 : decode cX8_layWays 89 = .ok (.bipush 8, 2) := by decide +kernel
theorem dX8_layWays_91 : decode cX8_layWays 91 = .ok (.iload_n 1, 1) := by decide +kernel
theorem dX8_layWays_92 : decode cX8_layWays 92 = .ok (.imul, 1) := by decide +kernel
theorem dX8_layWays_93 : decode cX8_layWays 93 = .ok (.aload_n 0, 1) := by decide +kernel
theorem dX8_layWays_94 : decode cX8_layWays 94 = .ok (.getfield 25, 3) := by decide +kernel
theorem dX8_layWays_97 : decode cX8_layWays 97 = .ok (.iload_n 1, 1) := by decide +kernel
theorem dX8_layWays_98 : decode cX8_layWays 98 = .ok (.iaload, 1) := by decide +kernel
theorem dX8_layWays_99 : decode cX8_layWays 99 = .ok (.iadd, 1) := by decide +kernel
theorem dX8_layWays_100 : decode cX8_layWays 100 = .ok (.iload_n 3, 1) := by decide +kernel
theorem dX8_layWays_101 : decode cX8_layWays 101 = .ok (.iastore, 1) := by decide +kernel
theorem dX8_layWays_102 : decode cX8_layWays 102 = .ok (.aload_n 0, 1) := by decide +kernel
theorem dX8_layWays_103 : decode cX8_layWays 103 = .ok (.getfield 25, 3) := by decide +kernel
theorem dX8_layWays_106 : decode cX8_layWays 106 = .ok (.iload_n 1, 1) := by decide +kernel
theorem dX8_layWays_107 : decode cX8_layWays 107 = .ok (.dup2, 1) := by decide +kernel
theorem dX8_layWays_108 : decode cX8_layWays 108 = .ok (.iaload, 1) := by decide +kernel
theorem dX8_layWays_109 : decode cX8_layWays 109 = .ok (.iconst 1, 1) := by decide +kernel
theorem dX8_layWays_110 : decode cX8_layWays 110 = .ok (.iadd, 1) := by decide +kernel
theorem dX8_layWays_111 : decode cX8_layWays 111 = .ok (.iastore, 1) := by decide +kernel
theorem dX8_layWays_112 : decode cX8_layWays 112 = .ok (.aload_n 0, 1) := by decide +kernel
theorem dX8_layWays_113 : decode cX8_layWays 113 = .ok (.dup, 1) := by decide +kernel
theorem dX8_layWays_114 : decode cX8_layWays 114 = .ok (.getfield 99, 3) := by decide +kernel
theorem dX8_layWays_117 : decode cX8_layWays 117 = .ok (.iconst 1, 1) := by decide +kernel
theorem dX8_layWays_118 : decode cX8_layWays 118 = .ok (.iload_n 3, 1) := by decide +kernel
theorem dX8_layWays_119 : decode cX8_layWays 119 = .ok (.ishl, 1) := by decide +kernel
theorem dX8_layWays_120 : decode cX8_layWays 120 = .ok (.ior, 1) := by decide +kernel
theorem dX8_layWays_121 : decode cX8_layWays 121 = .ok (.putfield 99, 3) := by decide +kernel
theorem dX8_layWays_124 : decode cX8_layWays 124 = .ok (.iinc 2 1, 3) := by decide +kernel
theorem dX8_layWays_127 : decode cX8_layWays 127 = .ok (.goto (-75), 3) := by decide +kernel
theorem dX8_layWays_130 : decode cX8_layWays 130 = .ok (.iinc 1 1, 3) := by decide +kernel
theorem dX8_layWays_133 : decode cX8_layWays 133 = .ok (.goto (-98), 3) := by decide +kernel
theorem dX8_layWays_136 : decode cX8_layWays 136 = .ok (.iconst 0, 1) := by decide +kernel
theorem dX8_layWays_137 : decode cX8_layWays 137 = .ok (.istore_n 1, 1) := by decide +kernel
theorem dX8_layWays_138 : decode cX8_layWays 138 = .ok (.iload_n 1, 1) := by decide +kernel
theorem dX8_layWays_139 : decode cX8_layWays 139 = .ok (.bipush 64, 2) := by decide +kernel
theorem dX8_layWays_141 : decode cX8_layWays 141 = .ok (.if_icmp .ge 23, 3) := by decide +kernel
theorem dX8_layWays_144 : decode cX8_layWays 144 = .ok (.aload_n 0, 1) := by decide +kernel
theorem dX8_layWays_145 : decode cX8_layWays 145 = .ok (.getfield 40, 3) := by decide +kernel
theorem dX8_layWays_148 : decode cX8_layWays 148 = .ok (.iload_n 1, 1) := by decide +kernel
theorem dX8_layWays_149 : decode cX8_layWays 149 = .ok (.iconst 0, 1) := by decide +kernel
theorem dX8_layWays_150 : decode cX8_layWays 150 = .ok (.iastore, 1) := by decide +kernel
theorem dX8_layWays_151 : decode cX8_layWays 151 = .ok (.aload_n 0, 1) := by decide +kernel
theorem dX8_layWays_152 : decode cX8_layWays 152 = .ok (.getfield 43, 3) := by decide +kernel
theorem dX8_layWays_155 : decode cX8_layWays 155 = .ok (.iload_n 1, 1) := by decide +kernel
theorem dX8_layWays_156 : decode cX8_layWays 156 = .ok (.iconst 0, 1) := by decide +kernel
theorem dX8_layWays_157 : decode cX8_layWays 157 = .ok (.iastore, 1) := by decide +kernel
theorem dX8_layWays_158 : decode cX8_layWays 158 = .ok (.iinc 1 1, 3) := by decide +kernel
theorem dX8_layWays_161 : decode cX8_layWays 161 = .ok (.goto (-23), 3) := by decide +kernel
theorem dX8_layWays_164 : decode cX8_layWays 164 = .ok (.iconst 0, 1) := by decide +kernel
theorem dX8_layWays_165 : decode cX8_layWays 165 = .ok (.istore_n 1, 1) := by decide +kernel
theorem dX8_layWays_166 : decode cX8_layWays 166 = .ok (.iload_n 1, 1) := by decide +kernel
theorem dX8_layWays_167 : decode cX8_layWays 167 = .ok (.aload_n 0, 1) := by decide +kernel
theorem dX8_layWays_168 : decode cX8_layWays 168 = .ok (.getfield 75, 3) := by decide +kernel
theorem dX8_layWays_171 : decode cX8_layWays 171 = .ok (.if_icmp .ge 33, 3) := by decide +kernel
theorem dX8_layWays_174 : decode cX8_layWays 174 = .ok (.iconst 1, 1) := by decide +kernel
theorem dX8_layWays_175 : decode cX8_layWays 175 = .ok (.istore_n 2, 1) := by decide +kernel
theorem dX8_layWays_176 : decode cX8_layWays 176 = .ok (.iload_n 2, 1) := by decide +kernel
theorem dX8_layWays_177 : decode cX8_layWays 177 = .ok (.aload_n 0, 1) := by decide +kernel
theorem dX8_layWays_178 : decode cX8_layWays 178 = .ok (.getfield 25, 3) := by decide +kernel
theorem dX8_layWays_181 : decode cX8_layWays 181 = .ok (.iload_n 1, 1) := by decide +kernel
theorem dX8_layWays_182 : decode cX8_layWays 182 = .ok (.iaload, 1) := by decide +kernel
theorem dX8_layWays_183 : decode cX8_layWays 183 = .ok (.if_icmp .ge 15, 3) := by decide +kernel
theorem dX8_layWays_186 : decode cX8_layWays 186 = .ok (.aload_n 0, 1) := by decide +kernel
theorem dX8_layWays_187 : decode cX8_layWays 187 = .ok (.iload_n 1, 1) := by decide +kernel
theorem dX8_layWays_188 : decode cX8_layWays 188 = .ok (.iload_n 2, 1) := by decide +kernel
theorem dX8_layWays_189 : decode cX8_layWays 189 = .ok (.invokevirtual 105, 3) := by decide +kernel
theorem dX8_layWays_192 : decode cX8_layWays 192 = .ok (.iinc 2 1, 3) := by decide +kernel
theorem dX8_layWays_195 : decode cX8_layWays 195 = .ok (.goto (-19), 3) := by decide +kernel
theorem dX8_layWays_198 : decode cX8_layWays 198 = .ok (.iinc 1 1, 3) := by decide +kernel
theorem dX8_layWays_201 : decode cX8_layWays 201 = .ok (.goto (-35), 3) := by decide +kernel
theorem dX8_layWays_204 : decode cX8_layWays 204 = .ok (.return_, 1) := by decide +kernel
theorem dX8_layTwo_0 : decode cX8_layTwo 0 = .ok (.aload_n 0, 1) := by decide +kernel
theorem dX8_layTwo_1 : decode cX8_layTwo 1 = .ok (.getfield 22, 3) := by decide +kernel
theorem dX8_layTwo_4 : decode cX8_layTwo 4 = .ok (.bipush 8, 2) := by decide +kernel
theorem dX8_layTwo_6 : decode cX8_layTwo 6 = .ok (.iload_n 1, 1) := by decide +kernel
theorem dX8_layTwo_7 : decode cX8_layTwo 7 = .ok (.imul, 1) := by decide +kernel
theorem dX8_layTwo_8 : decode cX8_layTwo 8 = .ok (.iload_n 2, 1) := by decide +kernel
theorem dX8_layTwo_9 : decode cX8_layTwo 9 = .ok (.iadd, 1) := by decide +kernel
theorem dX8_layTwo_10 : decode cX8_layTwo 10 = .ok (.iconst 1, 1) := by decide +kernel
theorem dX8_layTwo_11 : decode cX8_layTwo 11 = .ok (.isub, 1) := by decide +kernel
theorem dX8_layTwo_12 : decode cX8_layTwo 12 = .ok (.iaload, 1) := by decide +kernel
theorem dX8_layTwo_13 : decode cX8_layTwo 13 = .ok (.istore_n 3, 1) := by decide +kernel
theorem dX8_layTwo_14 : decode cX8_layTwo 14 = .ok (.aload_n 0, 1) := by decide +kernel
theorem dX8_layTwo_15 : decode cX8_layTwo 15 = .ok (.getfield 22, 3) := by decide +kernel
theorem dX8_layTwo_18 : decode cX8_layTwo 18 = .ok (.bipush 8, 2) := by decide +kernel
theorem dX8_layTwo_20 : decode cX8_layTwo 20 = .ok (.iload_n 1, 1) := by decide +kernel
theorem dX8_layTwo_21 : decode cX8_layTwo 21 = .ok (.imul, 1) := by decide +kernel
theorem dX8_layTwo_22 : decode cX8_layTwo 22 = .ok (.iload_n 2, 1) := by decide +kernel
theorem dX8_layTwo_23 : decode cX8_layTwo 23 = .ok (.iadd, 1) := by decide +kernel
theorem dX8_layTwo_24 : decode cX8_layTwo 24 = .ok (.iaload, 1) := by decide +kernel
theorem dX8_layTwo_25 : decode cX8_layTwo 25 = .ok (.istore 4, 2) := by decide +kernel
theorem dX8_layTwo_27 : decode cX8_layTwo 27 = .ok (.aload_n 0, 1) := by decide +kernel
theorem dX8_layTwo_28 : decode cX8_layTwo 28 = .ok (.getfield 28, 3) := by decide +kernel
theorem dX8_layTwo_31 : decode cX8_layTwo 31 = .ok (.iload_n 3, 1) := by decide +kernel
theorem dX8_layTwo_32 : decode cX8_layTwo 32 = .ok (.dup2, 1) := by decide +kernel
theorem dX8_layTwo_33 : decode cX8_layTwo 33 = .ok (.iaload, 1) := by decide +kernel
theorem dX8_layTwo_34 : decode cX8_layTwo 34 = .ok (.iconst 1, 1) := by decide +kernel
theorem dX8_layTwo_35 : decode cX8_layTwo 35 = .ok (.iload 4, 2) := by decide +kernel
theorem dX8_layTwo_37 : decode cX8_layTwo 37 = .ok (.ishl, 1) := by decide +kernel
theorem dX8_layTwo_38 : decode cX8_layTwo 38 = .ok (.ior, 1) := by decide +kernel
theorem dX8_layTwo_39 : decode cX8_layTwo 39 = .ok (.iastore, 1) := by decide +kernel
theorem dX8_layTwo_40 : decode cX8_layTwo 40 = .ok (.aload_n 0, 1) := by decide +kernel
theorem dX8_layTwo_41 : decode cX8_layTwo 41 = .ok (.getfield 28, 3) := by decide +kernel
theorem dX8_layTwo_44 : decode cX8_layTwo 44 = .ok (.iload 4, 2) := by decide +kernel
theorem dX8_layTwo_46 : decode cX8_layTwo 46 = .ok (.dup2, 1) := by decide +kernel
theorem dX8_layTwo_47 : decode cX8_layTwo 47 = .ok (.iaload, 1) := by decide +kernel
theorem dX8_layTwo_48 : decode cX8_layTwo 48 = .ok (.iconst 1, 1) := by decide +kernel
theorem dX8_layTwo_49 : decode cX8_layTwo 49 = .ok (.iload_n 3, 1) := by decide +kernel
theorem dX8_layTwo_50 : decode cX8_layTwo 50 = .ok (.ishl, 1) := by decide +kernel
theorem dX8_layTwo_51 : decode cX8_layTwo 51 = .ok (.ior, 1) := by decide +kernel
theorem dX8_layTwo_52 : decode cX8_layTwo 52 = .ok (.iastore, 1) := by decide +kernel
theorem dX8_layTwo_53 : decode cX8_layTwo 53 = .ok (.aload_n 0, 1) := by decide +kernel
theorem dX8_layTwo_54 : decode cX8_layTwo 54 = .ok (.getfield 43, 3) := by decide +kernel
theorem dX8_layTwo_57 : decode cX8_layTwo 57 = .ok (.bipush 8, 2) := by decide +kernel
theorem dX8_layTwo_59 : decode cX8_layTwo 59 = .ok (.iload_n 3, 1) := by decide +kernel
theorem dX8_layTwo_60 : decode cX8_layTwo 60 = .ok (.imul, 1) := by decide +kernel
theorem dX8_layTwo_61 : decode cX8_layTwo 61 = .ok (.iload 4, 2) := by decide +kernel
theorem dX8_layTwo_63 : decode cX8_layTwo 63 = .ok (.iadd, 1) := by decide +kernel
theorem dX8_layTwo_64 : decode cX8_layTwo 64 = .ok (.dup2, 1) := by decide +kernel
theorem dX8_layTwo_65 : decode cX8_layTwo 65 = .ok (.iaload, 1) := by decide +kernel
theorem dX8_layTwo_66 : decode cX8_layTwo 66 = .ok (.iconst 1, 1) := by decide +kernel
theorem dX8_layTwo_67 : decode cX8_layTwo 67 = .ok (.iadd, 1) := by decide +kernel
theorem dX8_layTwo_68 : decode cX8_layTwo 68 = .ok (.iastore, 1) := by decide +kernel
theorem dX8_layTwo_69 : decode cX8_layTwo 69 = .ok (.aload_n 0, 1) := by decide +kernel
theorem dX8_layTwo_70 : decode cX8_layTwo 70 = .ok (.getfield 43, 3) := by decide +kernel
theorem dX8_layTwo_73 : decode cX8_layTwo 73 = .ok (.bipush 8, 2) := by decide +kernel
theorem dX8_layTwo_75 : decode cX8_layTwo 75 = .ok (.iload 4, 2) := by decide +kernel
theorem dX8_layTwo_77 : decode cX8_layTwo 77 = .ok (.imul, 1) := by decide +kernel
theorem dX8_layTwo_78 : decode cX8_layTwo 78 = .ok (.iload_n 3, 1) := by decide +kernel
theorem dX8_layTwo_79 : decode cX8_layTwo 79 = .ok (.iadd, 1) := by decide +kernel
theorem dX8_layTwo_80 : decode cX8_layTwo 80 = .ok (.dup2, 1) := by decide +kernel
theorem dX8_layTwo_81 : decode cX8_layTwo 81 = .ok (.iaload, 1) := by decide +kernel
theorem dX8_layTwo_82 : decode cX8_layTwo 82 = .ok (.iconst 1, 1) := by decide +kernel
theorem dX8_layTwo_83 : decode cX8_layTwo 83 = .ok (.iadd, 1) := by decide +kernel
theorem dX8_layTwo_84 : decode cX8_layTwo 84 = .ok (.iastore, 1) := by decide +kernel
theorem dX8_layTwo_85 : decode cX8_layTwo 85 = .ok (.iload_n 2, 1) := by decide +kernel
theorem dX8_layTwo_86 : decode cX8_layTwo 86 = .ok (.iconst 1, 1) := by decide +kernel
theorem dX8_layTwo_87 : decode cX8_layTwo 87 = .ok (.iadd, 1) := by decide +kernel
theorem dX8_layTwo_88 : decode cX8_layTwo 88 = .ok (.aload_n 0, 1) := by decide +kernel
theorem dX8_layTwo_89 : decode cX8_layTwo 89 = .ok (.getfield 25, 3) := by decide +kernel
theorem dX8_layTwo_92 : decode cX8_layTwo 92 = .ok (.iload_n 1, 1) := by decide +kernel
theorem dX8_layTwo_93 : decode cX8_layTwo 93 = .ok (.iaload, 1) := by decide +kernel
theorem dX8_layTwo_94 : decode cX8_layTwo 94 = .ok (.if_icmp .ge 32, 3) := by decide +kernel
theorem dX8_layTwo_97 : decode cX8_layTwo 97 = .ok (.aload_n 0, 1) := by decide +kernel
theorem dX8_layTwo_98 : decode cX8_layTwo 98 = .ok (.getfield 31, 3) := by decide +kernel
theorem dX8_layTwo_101 : decode cX8_layTwo 101 = .ok (.iload 4, 2) := by decide +kernel
theorem dX8_layTwo_103 : decode cX8_layTwo 103 = .ok (.dup2, 1) := by decide +kernel
theorem dX8_layTwo_104 : decode cX8_layTwo 104 = .ok (.iaload, 1) := by decide +kernel
theorem dX8_layTwo_105 : decode cX8_layTwo 105 = .ok (.iconst 1, 1) := by decide +kernel
theorem dX8_layTwo_106 : decode cX8_layTwo 106 = .ok (.iload_n 3, 1) := by decide +kernel
theorem dX8_layTwo_107 : decode cX8_layTwo 107 = .ok (.ishl, 1) := by decide +kernel
theorem dX8_layTwo_108 : decode cX8_layTwo 108 = .ok (.iconst 1, 1) := by decide +kernel
theorem dX8_layTwo_109 : decode cX8_layTwo 109 = .ok (.aload_n 0, 1) := by decide +kernel
theorem dX8_layTwo_110 : decode cX8_layTwo 110 = .ok (.getfield 22, 3) := by decide +kernel
theorem dX8_layTwo_113 : decode cX8_layTwo 113 = .ok (.bipush 8, 2) := by decide +kernel
theorem dX8_layTwo_115 : decode cX8_layTwo 115 = .ok (.iload_n 1, 1) := by decide +kernel
theorem dX8_layTwo_116 : decode cX8_layTwo 116 = .ok (.imul, 1) := by decide +kernel
theorem dX8_layTwo_117 : decode cX8_layTwo 117 = .ok (.iload_n 2, 1) := by decide +kernel
theorem dX8_layTwo_118 : decode cX8_layTwo 118 = .ok (.iadd, 1) := by decide +kernel
theorem dX8_layTwo_119 : decode cX8_layTwo 119 = .ok (.iconst 1, 1) := by decide +kernel
theorem dX8_layTwo_120 : decode cX8_layTwo 120 = .ok (.iadd, 1) := by decide +kernel
theorem dX8_layTwo_121 : decode cX8_layTwo 121 = .ok (.iaload, 1) := by decide +kernel
theorem dX8_layTwo_122 : decode cX8_layTwo 122 = .ok (.ishl, 1) := by decide +kernel
theorem dX8_layTwo_123 : decode cX8_layTwo 123 = .ok (.ior, 1) := by decide +kernel
theorem dX8_layTwo_124 : decode cX8_layTwo 124 = .ok (.ior, 1) := by decide +kernel
theorem dX8_layTwo_125 : decode cX8_layTwo 125 = .ok (.iastore, 1) := by decide +kernel
theorem dX8_layTwo_126 : decode cX8_layTwo 126 = .ok (.return_, 1) := by decide +kernel
theorem dX8_weightOf_0 : decode cX8_weightOf 0 = .ok (.sipush 1000, 3) := by decide +kernel
theorem dX8_weightOf_3 : decode cX8_weightOf 3 = .ok (.aload_n 0, 1) := by decide +kernel
theorem dX8_weightOf_4 : decode cX8_weightOf 4 = .ok (.getfield 31, 3) := by decide +kernel
theorem dX8_weightOf_7 : decode cX8_weightOf 7 = .ok (.iload_n 1, 1) := by decide +kernel
theorem dX8_weightOf_8 : decode cX8_weightOf 8 = .ok (.iaload, 1) := by decide +kernel
theorem dX8_weightOf_9 : decode cX8_weightOf 9 = .ok (.invokestatic 109, 3) := by decide +kernel
theorem dX8_weightOf_12 : decode cX8_weightOf 12 = .ok (.imul, 1) := by decide +kernel
theorem dX8_weightOf_13 : decode cX8_weightOf 13 = .ok (.bipush 10, 2) := by decide +kernel
theorem dX8_weightOf_15 : decode cX8_weightOf 15 = .ok (.aload_n 0, 1) := by decide +kernel
theorem dX8_weightOf_16 : decode cX8_weightOf 16 = .ok (.getfield 28, 3) := by decide +kernel
theorem dX8_weightOf_19 : decode cX8_weightOf 19 = .ok (.iload_n 1, 1) := by decide +kernel
theorem dX8_weightOf_20 : decode cX8_weightOf 20 = .ok (.iaload, 1) := by decide +kernel
theorem dX8_weightOf_21 : decode cX8_weightOf 21 = .ok (.invokestatic 109, 3) := by decide +kernel
theorem dX8_weightOf_24 : decode cX8_weightOf 24 = .ok (.imul, 1) := by decide +kernel
theorem dX8_weightOf_25 : decode cX8_weightOf 25 = .ok (.iadd, 1) := by decide +kernel
theorem dX8_weightOf_26 : decode cX8_weightOf 26 = .ok (.bipush 8, 2) := by decide +kernel
theorem dX8_weightOf_28 : decode cX8_weightOf 28 = .ok (.iadd, 1) := by decide +kernel
theorem dX8_weightOf_29 : decode cX8_weightOf 29 = .ok (.iconst 1, 1) := by decide +kernel
theorem dX8_weightOf_30 : decode cX8_weightOf 30 = .ok (.isub, 1) := by decide +kernel
theorem dX8_weightOf_31 : decode cX8_weightOf 31 = .ok (.iload_n 1, 1) := by decide +kernel
theorem dX8_weightOf_32 : decode cX8_weightOf 32 = .ok (.isub, 1) := by decide +kernel
theorem dX8_weightOf_33 : decode cX8_weightOf 33 = .ok (.ireturn, 1) := by decide +kernel
theorem dX8_layRanks_0 : decode cX8_layRanks 0 = .ok (.aload_n 0, 1) := by decide +kernel
theorem dX8_layRanks_1 : decode cX8_layRanks 1 = .ok (.aload_n 0, 1) := by decide +kernel
theorem dX8_layRanks_2 : decode cX8_layRanks 2 = .ok (.getfield 99, 3) := by decide +kernel
theorem dX8_layRanks_5 : decode cX8_layRanks 5 = .ok (.invokestatic 109, 3) := by decide +kernel
theorem dX8_layRanks_8 : decode cX8_layRanks 8 = .ok (.putfield 112, 3) := by decide +kernel
theorem dX8_layRanks_11 : decode cX8_layRanks 11 = .ok (.iconst 0, 1) := by decide +kernel
theorem dX8_layRanks_12 : decode cX8_layRanks 12 = .ok (.istore_n 1, 1) := by decide +kernel
theorem dX8_layRanks_13 : decode cX8_layRanks 13 = .ok (.iload_n 1, 1) := by decide +kernel
theorem dX8_layRanks_14 : decode cX8_layRanks 14 = .ok (.bipush 8, 2) := by decide +kernel
theorem dX8_layRanks_16 : decode cX8_layRanks 16 = .ok (.if_icmp .ge 89, 3) := by decide +kernel
theorem dX8_layRanks_19 : decode cX8_layRanks 19 = .ok (.aload_n 0, 1) := by decide +kernel
theorem dX8_layRanks_20 : decode cX8_layRanks 20 = .ok (.getfield 37, 3) := by decide +kernel
theorem dX8_layRanks_23 : decode cX8_layRanks 23 = .ok (.iload_n 1, 1) := by decide +kernel
theorem dX8_layRanks_24 : decode cX8_layRanks 24 = .ok (.iconst (-1), 1) := by decide +kernel
theorem dX8_layRanks_25 : decode cX8_layRanks 25 = .ok (.iastore, 1) := by decide +kernel
theorem dX8_layRanks_26 : decode cX8_layRanks 26 = .ok (.iconst 0, 1) := by decide +kernel
theorem dX8_layRanks_27 : decode cX8_layRanks 27 = .ok (.istore_n 2, 1) := by decide +kernel
theorem dX8_layRanks_28 : decode cX8_layRanks 28 = .ok (.iconst 0, 1) := by decide +kernel
theorem dX8_layRanks_29 : decode cX8_layRanks 29 = .ok (.istore_n 3, 1) := by decide +kernel
theorem dX8_layRanks_30 : decode cX8_layRanks 30 = .ok (.iload_n 3, 1) := by decide +kernel
theorem dX8_layRanks_31 : decode cX8_layRanks 31 = .ok (.bipush 8, 2) := by decide +kernel
theorem dX8_layRanks_33 : decode cX8_layRanks 33 = .ok (.if_icmp .ge 41, 3) := by decide +kernel
theorem dX8_layRanks_36 : decode cX8_layRanks 36 = .ok (.iload_n 2, 1) := by decide +kernel
theorem dX8_layRanks_37 : decode cX8_layRanks 37 = .ok (.aload_n 0, 1) := by decide +kernel
theorem dX8_layRanks_38 : decode cX8_layRanks 38 = .ok (.getfield 99, 3) := by decide +kernel
theorem dX8_layRanks_41 : decode cX8_layRanks 41 = .ok (.iload_n 3, 1) := by decide +kernel
theorem dX8_layRanks_42 : decode cX8_layRanks 42 = .ok (.invokestatic 102, 3) := by decide +kernel
theorem dX8_layRanks_45 : decode cX8_layRanks 45 = .ok (.ifCond .eq 20, 3) := by decide +kernel
theorem dX8_layRanks_48 : decode cX8_layRanks 48 = .ok (.aload_n 0, 1) := by decide +kernel
theorem dX8_layRanks_49 : decode cX8_layRanks 49 = .ok (.iload_n 3, 1) := by decide +kernel
theorem dX8_layRanks_50 : decode cX8_layRanks 50 = .ok (.invokevirtual 115, 3) := by decide +kernel
theorem dX8_layRanks_53 : decode cX8_layRanks 53 = .ok (.aload_n 0, 1) := by decide +kernel
theorem dX8_layRanks_54 : decode cX8_layRanks 54 = .ok (.iload_n 1, 1) := by decide +kernel
theorem dX8_layRanks_55 : decode cX8_layRanks 55 = .ok (.invokevirtual 115, 3) := by decide +kernel
theorem dX8_layRanks_58 : decode cX8_layRanks 58 = .ok (.if_icmp .le 7, 3) := by decide +kernel
theorem dX8_layRanks_61 : decode cX8_layRanks 61 = .ok (.iconst 1, 1) := by decide +kernel
theorem dX8_layRanks_62 : decode cX8_layRanks 62 = .ok (.goto 4, 3) := by decide +kernel
theorem dX8_layRanks_65 : decode cX8_layRanks 65 = .ok (.iconst 0, 1) := by decide +kernel
theorem dX8_layRanks_66 : decode cX8_layRanks 66 = .ok (.iadd, 1) := by decide +kernel
theorem dX8_layRanks_67 : decode cX8_layRanks 67 = .ok (.istore_n 2, 1) := by decide +kernel
theorem dX8_layRanks_68 : decode cX8_layRanks 68 = .ok (.iinc 3 1, 3) := by decide +kernel
theorem dX8_layRanks_71 : decode cX8_layRanks 71 = .ok (.goto (-41), 3) := by decide +kernel
theorem dX8_layRanks_74 : decode cX8_layRanks 74 = .ok (.aload_n 0, 1) := by decide +kernel
theorem dX8_layRanks_75 : decode cX8_layRanks 75 = .ok (.getfield 99, 3) := by decide +kernel
theorem dX8_layRanks_78 : decode cX8_layRanks 78 = .ok (.iload_n 1, 1) := by decide +kernel
theorem dX8_layRanks_79 : decode cX8_layRanks 79 = .ok (.invokestatic 102, 3) := by decide +kernel
theorem dX8_layRanks_82 : decode cX8_layRanks 82 = .ok (.ifCond .eq 17, 3) := by decide +kernel
theorem dX8_layRanks_85 : decode cX8_layRanks 85 = .ok (.aload_n 0, 1) := by decide +kernel
theorem dX8_layRanks_86 : decode cX8_layRanks 86 = .ok (.getfield 37, 3) := by decide +kernel
theorem dX8_layRanks_89 : decode cX8_layRanks 89 = .ok (.iload_n 1, 1) := by decide +kernel
theorem dX8_layRanks_90 : decode cX8_layRanks 90 = .ok (.iload_n 2, 1) := by decide +kernel
theorem dX8_layRanks_91 : decode cX8_layRanks 91 = .ok (.iastore, 1) := by decide +kernel
theorem dX8_layRanks_92 : decode cX8_layRanks 92 = .ok (.aload_n 0, 1) := by decide +kernel
theorem dX8_layRanks_93 : decode cX8_layRanks 93 = .ok (.getfield 34, 3) := by decide +kernel
theorem dX8_layRanks_96 : decode cX8_layRanks 96 = .ok (.iload_n 2, 1) := by decide +kernel
theorem dX8_layRanks_97 : decode cX8_layRanks 97 = .ok (.iload_n 1, 1) := by decide +kernel
theorem dX8_layRanks_98 : decode cX8_layRanks 98 = .ok (.iastore, 1) := by decide +kernel
theorem dX8_layRanks_99 : decode cX8_layRanks 99 = .ok (.iinc 1 1, 3) := by decide +kernel
theorem dX8_layRanks_102 : decode cX8_layRanks 102 = .ok (.goto (-89), 3) := by decide +kernel
theorem dX8_layRanks_105 : decode cX8_layRanks 105 = .ok (.return_, 1) := by decide +kernel
theorem dX8_degrees_0 : decode cX8_degrees 0 = .ok (.iconst 0, 1) := by decide +kernel
theorem dX8_degrees_1 : decode cX8_degrees 1 = .ok (.istore_n 2, 1) := by decide +kernel
theorem dX8_degrees_2 : decode cX8_degrees 2 = .ok (.iconst 0, 1) := by decide +kernel
theorem dX8_degrees_3 : decode cX8_degrees 3 = .ok (.istore_n 3, 1) := by decide +kernel
theorem dX8_degrees_4 : decode cX8_degrees 4 = .ok (.iload_n 3, 1) := by decide +kernel
theorem dX8_degrees_5 : decode cX8_degrees 5 = .ok (.bipush 8, 2) := by decide +kernel
theorem dX8_degrees_7 : decode cX8_degrees 7 = .ok (.if_icmp .ge 33, 3) := by decide +kernel
theorem dX8_degrees_10 : decode cX8_degrees 10 = .ok (.iload_n 2, 1) := by decide +kernel
theorem dX8_degrees_11 : decode cX8_degrees 11 = .ok (.iload_n 1, 1) := by decide +kernel
theorem dX8_degrees_12 : decode cX8_degrees 12 = .ok (.iload_n 3, 1) := by decide +kernel
theorem dX8_degrees_13 : decode cX8_degrees 13 = .ok (.invokestatic 102, 3) := by decide +kernel
theorem dX8_degrees_16 : decode cX8_degrees 16 = .ok (.ifCond .eq 15, 3) := by decide +kernel
theorem dX8_degrees_19 : decode cX8_degrees 19 = .ok (.aload_n 0, 1) := by decide +kernel
theorem dX8_degrees_20 : decode cX8_degrees 20 = .ok (.getfield 28, 3) := by decide +kernel
theorem dX8_degrees_23 : decode cX8_degrees 23 = .ok (.iload_n 3, 1) := by decide +kernel
theorem dX8_degrees_24 : decode cX8_degrees 24 = .ok (.iaload, 1) := by decide +kernel
theorem dX8_degrees_25 : decode cX8_degrees 25 = .ok (.invokestatic 109, 3) := by decide +kernel
theorem dX8_degrees_28 : decode cX8_degrees 28 = .ok (.goto 4, 3) := by decide +kernel
theorem dX8_degrees_31 : decode cX8_degrees 31 = .ok (.iconst 0, 1) := by decide +kernel
theorem dX8_degrees_32 : decode cX8_degrees 32 = .ok (.iadd, 1) := by decide +kernel
theorem dX8_degrees_33 : decode cX8_degrees 33 = .ok (.istore_n 2, 1) := by decide +kernel
theorem dX8_degrees_34 : decode cX8_degrees 34 = .ok (.iinc 3 1, 3) := by decide +kernel
theorem dX8_degrees_37 : decode cX8_degrees 37 = .ok (.goto (-33), 3) := by decide +kernel
theorem dX8_degrees_40 : decode cX8_degrees 40 = .ok (.iload_n 2, 1) := by decide +kernel
theorem dX8_degrees_41 : decode cX8_degrees 41 = .ok (.ireturn, 1) := by decide +kernel
theorem dX8_areAllLinked_0 : decode cX8_areAllLinked 0 = .ok (.iconst 1, 1) := by decide +kernel
theorem dX8_areAllLinked_1 : decode cX8_areAllLinked 1 = .ok (.istore_n 2, 1) := by decide +kernel
theorem dX8_areAllLinked_2 : decode cX8_areAllLinked 2 = .ok (.iconst 0, 1) := by decide +kernel
theorem dX8_areAllLinked_3 : decode cX8_areAllLinked 3 = .ok (.istore_n 3, 1) := by decide +kernel
theorem dX8_areAllLinked_4 : decode cX8_areAllLinked 4 = .ok (.iload_n 3, 1) := by decide +kernel
theorem dX8_areAllLinked_5 : decode cX8_areAllLinked 5 = .ok (.bipush 8, 2) := by decide +kernel
theorem dX8_areAllLinked_7 : decode cX8_areAllLinked 7 = .ok (.if_icmp .ge 43, 3) := by decide +kernel
theorem dX8_areAllLinked_10 : decode cX8_areAllLinked 10 = .ok (.iload_n 2, 1) := by decide +kernel
theorem dX8_areAllLinked_11 : decode cX8_areAllLinked 11 = .ok (.ifCond .eq 31, 3) := by decide +kernel
theorem dX8_areAllLinked_14 : decode cX8_areAllLinked 14 = .ok (.iload_n 1, 1) := by decide +kernel
theorem dX8_areAllLinked_15 : decode cX8_areAllLinked 15 = .ok (.iload_n 3, 1) := by decide +kernel
theorem dX8_areAllLinked_16 : decode cX8_areAllLinked 16 = .ok (.invokestatic 102, 3) := by decide +kernel
theorem dX8_areAllLinked_19 : decode cX8_areAllLinked 19 = .ok (.ifCond .eq 19, 3) := by decide +kernel
theorem dX8_areAllLinked_22 : decode cX8_areAllLinked 22 = .ok (.iload_n 1, 1) := by decide +kernel
theorem dX8_areAllLinked_23 : decode cX8_areAllLinked 23 = .ok (.aload_n 0, 1) := by decide +kernel
theorem dX8_areAllLinked_24 : decode cX8_areAllLinked 24 = .ok (.getfield 28, 3) := by decide +kernel
theorem dX8_areAllLinked_27 : decode cX8_areAllLinked 27 = .ok (.iload_n 3, 1) := by decide +kernel
theorem dX8_areAllLinked_28 : decode cX8_areAllLinked 28 = .ok (.iaload, 1) := by decide +kernel
theorem dX8_areAllLinked_29 : decode cX8_areAllLinked 29 = .ok (.iconst (-1), 1) := by decide +kernel
theorem dX8_areAllLinked_30 : decode cX8_areAllLinked 30 = .ok (.ixor, 1) := by decide +kernel
theorem dX8_areAllLinked_31 : decode cX8_areAllLinked 31 = .ok (.iand, 1) := by decide +kernel
theorem dX8_areAllLinked_32 : decode cX8_areAllLinked 32 = .ok (.iconst 1, 1) := by decide +kernel
theorem dX8_areAllLinked_33 : decode cX8_areAllLinked 33 = .ok (.iload_n 3, 1) := by decide +kernel
theorem dX8_areAllLinked_34 : decode cX8_areAllLinked 34 = .ok (.ishl, 1) := by decide +kernel
theorem dX8_areAllLinked_35 : decode cX8_areAllLinked 35 = .ok (.if_icmp .ne 7, 3) := by decide +kernel
theorem dX8_areAllLinked_38 : decode cX8_areAllLinked 38 = .ok (.iconst 1, 1) := by decide +kernel
theorem dX8_areAllLinked_39 : decode cX8_areAllLinked 39 = .ok (.goto 4, 3) := by decide +kernel
theorem dX8_areAllLinked_42 : decode cX8_areAllLinked 42 = .ok (.iconst 0, 1) := by decide +kernel
theorem dX8_areAllLinked_43 : decode cX8_areAllLinked 43 = .ok (.istore_n 2, 1) := by decide +kernel
theorem dX8_areAllLinked_44 : decode cX8_areAllLinked 44 = .ok (.iinc 3 1, 3) := by decide +kernel
theorem dX8_areAllLinked_47 : decode cX8_areAllLinked 47 = .ok (.goto (-43), 3) := by decide +kernel
theorem dX8_areAllLinked_50 : decode cX8_areAllLinked 50 = .ok (.iload_n 2, 1) := by decide +kernel
theorem dX8_areAllLinked_51 : decode cX8_areAllLinked 51 = .ok (.ireturn, 1) := by decide +kernel
theorem dX8_layTop_0 : decode cX8_layTop 0 = .ok (.aload_n 0, 1) := by decide +kernel
theorem dX8_layTop_1 : decode cX8_layTop 1 = .ok (.iconst 0, 1) := by decide +kernel
theorem dX8_layTop_2 : decode cX8_layTop 2 = .ok (.putfield 118, 3) := by decide +kernel
theorem dX8_layTop_5 : decode cX8_layTop 5 = .ok (.iconst 0, 1) := by decide +kernel
theorem dX8_layTop_6 : decode cX8_layTop 6 = .ok (.istore_n 1, 1) := by decide +kernel
theorem dX8_layTop_7 : decode cX8_layTop 7 = .ok (.iconst 1, 1) := by decide +kernel
theorem dX8_layTop_8 : decode cX8_layTop 8 = .ok (.istore_n 2, 1) := by decide +kernel
theorem dX8_layTop_9 : decode cX8_layTop 9 = .ok (.iload_n 2, 1) := by decide +kernel
theorem dX8_layTop_10 : decode cX8_layTop 10 = .ok (.sipush 256, 3) := by decide +kernel
theorem dX8_layTop_13 : decode cX8_layTop 13 = .ok (.if_icmp .ge 108, 3) := by decide +kernel
theorem dX8_layTop_16 : decode cX8_layTop 16 = .ok (.aload_n 0, 1) := by decide +kernel
theorem dX8_layTop_17 : decode cX8_layTop 17 = .ok (.getfield 112, 3) := by decide +kernel
theorem dX8_layTop_20 : decode cX8_layTop 20 = .ok (.ifCond .le 101, 3) := by decide +kernel
theorem dX8_layTop_23 : decode cX8_layTop 23 = .ok (.iload_n 2, 1) := by decide +kernel
theorem dX8_layTop_24 : decode cX8_layTop 24 = .ok (.aload_n 0, 1) := by decide +kernel
theorem dX8_layTop_25 : decode cX8_layTop 25 = .ok (.getfield 34, 3) := by decide +kernel
theorem dX8_layTop_28 : decode cX8_layTop 28 = .ok (.iconst 0, 1) := by decide +kernel
theorem dX8_layTop_29 : decode cX8_layTop 29 = .ok (.iaload, 1) := by decide +kernel
theorem dX8_layTop_30 : decode cX8_layTop 30 = .ok (.invokestatic 102, 3) := by decide +kernel
theorem dX8_layTop_33 : decode cX8_layTop 33 = .ok (.ifCond .eq 26, 3) := by decide +kernel
theorem dX8_layTop_36 : decode cX8_layTop 36 = .ok (.iload_n 2, 1) := by decide +kernel
theorem dX8_layTop_37 : decode cX8_layTop 37 = .ok (.aload_n 0, 1) := by decide +kernel
theorem dX8_layTop_38 : decode cX8_layTop 38 = .ok (.getfield 99, 3) := by decide +kernel
theorem dX8_layTop_41 : decode cX8_layTop 41 = .ok (.iconst (-1), 1) := by decide +kernel
theorem dX8_layTop_42 : decode cX8_layTop 42 = .ok (.ixor, 1) := by decide +kernel
theorem dX8_layTop_43 : decode cX8_layTop 43 = .ok (.iand, 1) := by decide +kernel
theorem dX8_layTop_44 : decode cX8_layTop 44 = .ok (.ifCond .ne 15, 3) := by decide +kernel
theorem dX8_layTop_47 : decode cX8_layTop 47 = .ok (.aload_n 0, 1) := by decide +kernel
theorem dX8_layTop_48 : decode cX8_layTop 48 = .ok (.iload_n 2, 1) := by decide +kernel
theorem dX8_layTop_49 : decode cX8_layTop 49 = .ok (.invokevirtual 121, 3) := by decide +kernel
theorem dX8_layTop_52 : decode cX8_layTop 52 = .ok (.ifCond .eq 7, 3) := by decide +kernel
theorem dX8_layTop_55 : decode cX8_layTop 55 = .ok (.iconst 1, 1) := by decide +kernel
theorem dX8_layTop_56 : decode cX8_layTop 56 = .ok (.goto 4, 3) := by decide +kernel
theorem dX8_layTop_59 : decode cX8_layTop 59 = .ok (.iconst 0, 1) := by decide +kernel
theorem dX8_layTop_60 : decode cX8_layTop 60 = .ok (.istore_n 3, 1) := by decide +kernel
theorem dX8_layTop_61 : decode cX8_layTop 61 = .ok (.iload_n 3, 1) := by decide +kernel
theorem dX8_layTop_62 : decode cX8_layTop 62 = .ok (.ifCond .eq 19, 3) := by decide +kernel
theorem dX8_layTop_65 : decode cX8_layTop 65 = .ok (.bipush 100, 2) := by decide +kernel
theorem dX8_layTop_67 : decode cX8_layTop 67 = .ok (.iload_n 2, 1) := by decide +kernel
theorem dX8_layTop_68 : decode cX8_layTop 68 = .ok (.invokestatic 109, 3) := by decide +kernel
theorem dX8_layTop_71 : decode cX8_layTop 71 = .ok (.imul, 1) := by decide +kernel
theorem dX8_layTop_72 : decode cX8_layTop 72 = .ok (.aload_n 0, 1) := by decide +kernel
theorem dX8_layTop_73 : decode cX8_layTop 73 = .ok (.iload_n 2, 1) := by decide +kernel
theorem dX8_layTop_74 : decode cX8_layTop 74 = .ok (.invokevirtual 124, 3) := by decide +kernel
theorem dX8_layTop_77 : decode cX8_layTop 77 = .ok (.iadd, 1) := by decide +kernel
theorem dX8_layTop_78 : decode cX8_layTop 78 = .ok (.goto 4, 3) := by decide +kernel
theorem dX8_layTop_81 : decode cX8_layTop 81 = .ok (.iconst 0, 1) := by decide +kernel
theorem dX8_layTop_82 : decode cX8_layTop 82 = .ok (.istore 4, 2) := by decide +kernel
theorem dX8_layTop_84 : decode cX8_layTop 84 = .ok (.aload_n 0, 1) := by decide +kernel
theorem dX8_layTop_85 : decode cX8_layTop 85 = .ok (.iload 4, 2) := by decide +kernel
theorem dX8_layTop_87 : decode cX8_layTop 87 = .ok (.iload_n 1, 1) := by decide +kernel
theorem dX8_layTop_88 : decode cX8_layTop 88 = .ok (.if_icmp .le 7, 3) := by decide +kernel
theorem dX8_layTop_91 : decode cX8_layTop 91 = .ok (.iload_n 2, 1) := by decide +kernel
theorem dX8_layTop_92 : decode cX8_layTop 92 = .ok (.goto 7, 3) := by decide +kernel
theorem dX8_layTop_95 : decode cX8_layTop 95 = .ok (.aload_n 0, 1) := by decide +kernel
theorem dX8_layTop_96 : decode cX8_layTop 96 = .ok (.getfield 118, 3) := by decide +kernel
theorem dX8_layTop_99 : decode cX8_layTop 99 = .ok (.putfield 118, 3) := by decide +kernel
theorem dX8_layTop_102 : decode cX8_layTop 102 = .ok (.iload 4, 2) := by decide +kernel
theorem dX8_layTop_104 : decode cX8_layTop 104 = .ok (.iload_n 1, 1) := by decide +kernel
theorem dX8_layTop_105 : decode cX8_layTop 105 = .ok (.if_icmp .le 8, 3) := by decide +kernel
theorem dX8_layTop_108 : decode cX8_layTop 108 = .ok (.iload 4, 2) := by decide +kernel
theorem dX8_layTop_110 : decode cX8_layTop 110 = .ok (.goto 4, 3) := by decide +kernel
theorem dX8_layTop_113 : decode cX8_layTop 113 = .ok (.iload_n 1, 1) := by decide +kernel
theorem dX8_layTop_114 : decode cX8_layTop 114 = .ok (.istore_n 1, 1) := by decide +kernel
theorem dX8_layTop_115 : decode cX8_layTop 115 = .ok (.iinc 2 1, 3) := by decide +kernel
theorem dX8_layTop_118 : decode cX8_layTop 118 = .ok (.goto (-109), 3) := by decide +kernel
theorem dX8_layTop_121 : decode cX8_layTop 121 = .ok (.return_, 1) := by decide +kernel
theorem dX8_hillOf_0 : decode cX8_hillOf 0 = .ok (.iconst (-1), 1) := by decide +kernel
theorem dX8_hillOf_1 : decode cX8_hillOf 1 = .ok (.istore_n 2, 1) := by decide +kernel
theorem dX8_hillOf_2 : decode cX8_hillOf 2 = .ok (.iconst 0, 1) := by decide +kernel
theorem dX8_hillOf_3 : decode cX8_hillOf 3 = .ok (.istore_n 3, 1) := by decide +kernel
theorem dX8_hillOf_4 : decode cX8_hillOf 4 = .ok (.iload_n 3, 1) := by decide +kernel
theorem dX8_hillOf_5 : decode cX8_hillOf 5 = .ok (.aload_n 0, 1) := by decide +kernel
theorem dX8_hillOf_6 : decode cX8_hillOf 6 = .ok (.getfield 25, 3) := by decide +kernel
theorem dX8_hillOf_9 : decode cX8_hillOf 9 = .ok (.iload_n 1, 1) := by decide +kernel
theorem dX8_hillOf_10 : decode cX8_hillOf 10 = .ok (.iaload, 1) := by decide +kernel
theorem dX8_hillOf_11 : decode cX8_hillOf 11 = .ok (.if_icmp .ge 59, 3) := by decide +kernel
theorem dX8_hillOf_14 : decode cX8_hillOf 14 = .ok (.aload_n 0, 1) := by decide +kernel
theorem dX8_hillOf_15 : decode cX8_hillOf 15 = .ok (.getfield 22, 3) := by decide +kernel
theorem dX8_hillOf_18 : decode cX8_hillOf 18 = .ok (.bipush 8, 2) := by decide +kernel
theorem dX8_hillOf_20 : decode cX8_hillOf 20 = .ok (.iload_n 1, 1) := by decide +kernel
theorem dX8_hillOf_21 : decode cX8_hillOf 21 = .ok (.imul, 1) := by decide +kernel
theorem dX8_hillOf_22 : decode cX8_hillOf 22 = .ok (.iload_n 3, 1) := by decide +kernel
theorem dX8_hillOf_23 : decode cX8_hillOf 23 = .ok (.iadd, 1) := by decide +kernel
theorem dX8_hillOf_24 : decode cX8_hillOf 24 = .ok (.iaload, 1) := by decide +kernel
theorem dX8_hillOf_25 : decode cX8_hillOf 25 = .ok (.istore 4, 2) := by decide +kernel
theorem dX8_hillOf_27 : decode cX8_hillOf 27 = .ok (.iload_n 2, 1) := by decide +kernel
theorem dX8_hillOf_28 : decode cX8_hillOf 28 = .ok (.iconst (-1), 1) := by decide +kernel
theorem dX8_hillOf_29 : decode cX8_hillOf 29 = .ok (.if_icmp .eq 29, 3) := by decide +kernel
theorem dX8_hillOf_32 : decode cX8_hillOf 32 = .ok (.aload_n 0, 1) := by decide +kernel
theorem dX8_hillOf_33 : decode cX8_hillOf 33 = .ok (.getfield 37, 3) := by decide +kernel
theorem dX8_hillOf_36 : decode cX8_hillOf 36 = .ok (.iload 4, 2) := by decide +kernel
theorem dX8_hillOf_38 : decode cX8_hillOf 38 = .ok (.iaload, 1) := by decide +kernel
theorem dX8_hillOf_39 : decode cX8_hillOf 39 = .ok (.aload_n 0, 1) := by decide +kernel
theorem dX8_hillOf_40 : decode cX8_hillOf 40 = .ok (.getfield 37, 3) := by decide +kernel
theorem dX8_hillOf_43 : decode cX8_hillOf 43 = .ok (.aload_n 0, 1) := by decide +kernel
theorem dX8_hillOf_44 : decode cX8_hillOf 44 = .ok (.getfield 22, 3) := by decide +kernel
theorem dX8_hillOf_47 : decode cX8_hillOf 47 = .ok (.bipush 8, 2) := by decide +kernel
theorem dX8_hillOf_49 : decode cX8_hillOf 49 = .ok (.iload_n 1, 1) := by decide +kernel
theorem dX8_hillOf_50 : decode cX8_hillOf 50 = .ok (.imul, 1) := by decide +kernel
theorem dX8_hillOf_51 : decode cX8_hillOf 51 = .ok (.iload_n 2, 1) := by decide +kernel
theorem dX8_hillOf_52 : decode cX8_hillOf 52 = .ok (.iadd, 1) := by decide +kernel
theorem dX8_hillOf_53 : decode cX8_hillOf 53 = .ok (.iaload, 1) := by decide +kernel
theorem dX8_hillOf_54 : decode cX8_hillOf 54 = .ok (.iaload, 1) := by decide +kernel
theorem dX8_hillOf_55 : decode cX8_hillOf 55 = .ok (.if_icmp .ge 7, 3) := by decide +kernel
theorem dX8_hillOf_58 : decode cX8_hillOf 58 = .ok (.iload_n 3, 1) := by decide +kernel
theorem dX8_hillOf_59 : decode cX8_hillOf 59 = .ok (.goto 4, 3) := by decide +kernel
theorem dX8_hillOf_62 : decode cX8_hillOf 62 = .ok (.iload_n 2, 1) := by decide +kernel
theorem dX8_hillOf_63 : decode cX8_hillOf 63 = .ok (.istore_n 2, 1) := by decide +kernel
theorem dX8_hillOf_64 : decode cX8_hillOf 64 = .ok (.iinc 3 1, 3) := by decide +kernel
theorem dX8_hillOf_67 : decode cX8_hillOf 67 = .ok (.goto (-63), 3) := by decide +kernel
theorem dX8_hillOf_70 : decode cX8_hillOf 70 = .ok (.iload_n 2, 1) := by decide +kernel
theorem dX8_hillOf_71 : decode cX8_hillOf 71 = .ok (.ireturn, 1) := by decide +kernel
theorem dX8_areTops_0 : decode cX8_areTops 0 = .ok (.aload_n 0, 1) := by decide +kernel
theorem dX8_areTops_1 : decode cX8_areTops 1 = .ok (.getfield 118, 3) := by decide +kernel
theorem dX8_areTops_4 : decode cX8_areTops 4 = .ok (.iload_n 1, 1) := by decide +kernel
theorem dX8_areTops_5 : decode cX8_areTops 5 = .ok (.invokestatic 102, 3) := by decide +kernel
theorem dX8_areTops_8 : decode cX8_areTops 8 = .ok (.ifCond .eq 18, 3) := by decide +kernel
theorem dX8_areTops_11 : decode cX8_areTops 11 = .ok (.aload_n 0, 1) := by decide +kernel
theorem dX8_areTops_12 : decode cX8_areTops 12 = .ok (.getfield 118, 3) := by decide +kernel
theorem dX8_areTops_15 : decode cX8_areTops 15 = .ok (.iload_n 2, 1) := by decide +kernel
theorem dX8_areTops_16 : decode cX8_areTops 16 = .ok (.invokestatic 102, 3) := by decide +kernel
theorem dX8_areTops_19 : decode cX8_areTops 19 = .ok (.ifCond .eq 7, 3) := by decide +kernel
theorem dX8_areTops_22 : decode cX8_areTops 22 = .ok (.iconst 1, 1) := by decide +kernel
theorem dX8_areTops_23 : decode cX8_areTops 23 = .ok (.goto 4, 3) := by decide +kernel
theorem dX8_areTops_26 : decode cX8_areTops 26 = .ok (.iconst 0, 1) := by decide +kernel
theorem dX8_areTops_27 : decode cX8_areTops 27 = .ok (.ireturn, 1) := by decide +kernel
theorem dX8_layVotes_0 : decode cX8_layVotes 0 = .ok (.iconst 0, 1) := by decide +kernel
theorem dX8_layVotes_1 : decode cX8_layVotes 1 = .ok (.istore_n 1, 1) := by decide +kernel
theorem dX8_layVotes_2 : decode cX8_layVotes 2 = .ok (.iload_n 1, 1) := by decide +kernel
theorem dX8_layVotes_3 : decode cX8_layVotes 3 = .ok (.aload_n 0, 1) := by decide +kernel
theorem dX8_layVotes_4 : decode cX8_layVotes 4 = .ok (.getfield 75, 3) := by decide +kernel
theorem dX8_layVotes_7 : decode cX8_layVotes 7 = .ok (.if_icmp .ge 121, 3) := by decide +kernel
theorem dX8_layVotes_10 : decode cX8_layVotes 10 = .ok (.aload_n 0, 1) := by decide +kernel
theorem dX8_layVotes_11 : decode cX8_layVotes 11 = .ok (.iload_n 1, 1) := by decide +kernel
theorem dX8_layVotes_12 : decode cX8_layVotes 12 = .ok (.invokevirtual 127, 3) := by decide +kernel
theorem dX8_layVotes_15 : decode cX8_layVotes 15 = .ok (.istore_n 2, 1) := by decide +kernel
theorem dX8_layVotes_16 : decode cX8_layVotes 16 = .ok (.iconst 1, 1) := by decide +kernel
theorem dX8_layVotes_17 : decode cX8_layVotes 17 = .ok (.istore_n 3, 1) := by decide +kernel
theorem dX8_layVotes_18 : decode cX8_layVotes 18 = .ok (.iload_n 3, 1) := by decide +kernel
theorem dX8_layVotes_19 : decode cX8_layVotes 19 = .ok (.aload_n 0, 1) := by decide +kernel
theorem dX8_layVotes_20 : decode cX8_layVotes 20 = .ok (.getfield 25, 3) := by decide +kernel
theorem dX8_layVotes_23 : decode cX8_layVotes 23 = .ok (.iload_n 1, 1) := by decide +kernel
theorem dX8_layVotes_24 : decode cX8_layVotes 24 = .ok (.iaload, 1) := by decide +kernel
theorem dX8_layVotes_25 : decode cX8_layVotes 25 = .ok (.if_icmp .ge 97, 3) := by decide +kernel
theorem dX8_layVotes_28 : decode cX8_layVotes 28 = .ok (.aload_n 0, 1) := by decide +kernel
theorem dX8_layVotes_29 : decode cX8_layVotes 29 = .ok (.getfield 22, 3) := by decide +kernel
theorem dX8_layVotes_32 : decode cX8_layVotes 32 = .ok (.bipush 8, 2) := by decide +kernel
theorem dX8_layVotes_34 : decode cX8_layVotes 34 = .ok (.iload_n 1, 1) := by decide +kernel
theorem dX8_layVotes_35 : decode cX8_layVotes 35 = .ok (.imul, 1) := by decide +kernel
theorem dX8_layVotes_36 : decode cX8_layVotes 36 = .ok (.iload_n 3, 1) := by decide +kernel
theorem dX8_layVotes_37 : decode cX8_layVotes 37 = .ok (.iadd, 1) := by decide +kernel
theorem dX8_layVotes_38 : decode cX8_layVotes 38 = .ok (.iconst 1, 1) := by decide +kernel
theorem dX8_layVotes_39 : decode cX8_layVotes 39 = .ok (.isub, 1) := by decide +kernel
theorem dX8_layVotes_40 : decode cX8_layVotes 40 = .ok (.iaload, 1) := by decide +kernel
theorem dX8_layVotes_41 : decode cX8_layVotes 41 = .ok (.istore 4, 2) := by decide +kernel
theorem dX8_layVotes_43 : decode cX8_layVotes 43 = .ok (.aload_n 0, 1) := by decide +kernel
theorem dX8_layVotes_44 : decode cX8_layVotes 44 = .ok (.getfield 22, 3) := by decide +kernel
theorem dX8_layVotes_47 : decode cX8_layVotes 47 = .ok (.bipush 8, 2) := by decide +kernel
theorem dX8_layVotes_49 : decode cX8_layVotes 49 = .ok (.iload_n 1, 1) := by decide +kernel
theorem dX8_layVotes_50 : decode cX8_layVotes 50 = .ok (.imul, 1) := by decide +kernel
theorem dX8_layVotes_51 : decode cX8_layVotes 51 = .ok (.iload_n 3, 1) := by decide +kernel
theorem dX8_layVotes_52 : decode cX8_layVotes 52 = .ok (.iadd, 1) := by decide +kernel
theorem dX8_layVotes_53 : decode cX8_layVotes 53 = .ok (.iaload, 1) := by decide +kernel
theorem dX8_layVotes_54 : decode cX8_layVotes 54 = .ok (.istore 5, 2) := by decide +kernel
theorem dX8_layVotes_56 : decode cX8_layVotes 56 = .ok (.iload_n 3, 1) := by decide +kernel
theorem dX8_layVotes_57 : decode cX8_layVotes 57 = .ok (.iload_n 2, 1) := by decide +kernel
theorem dX8_layVotes_58 : decode cX8_layVotes 58 = .ok (.if_icmp .gt 8, 3) := by decide +kernel
theorem dX8_layVotes_61 : decode cX8_layVotes 61 = .ok (.iload 4, 2) := by decide +kernel
theorem dX8_layVotes_63 : decode cX8_layVotes 63 = .ok (.goto 5, 3) := by decide +kernel
theorem dX8_layVotes_66 : decode cX8_layVotes 66 = .ok (.iload 5, 2) := by decide +kernel
theorem dX8_layVotes_68 : decode cX8_layVotes 68 = .ok (.istore 6, 2) := by decide +kernel
theorem dX8_layVotes_70 : decode cX8_layVotes 70 = .ok (.iload_n 3, 1) := by decide +kernel
theorem dX8_layVotes_71 : decode cX8_layVotes 71 = .ok (.iload_n 2, 1) := by decide +kernel
theorem dX8_layVotes_72 : decode cX8_layVotes 72 = .ok (.if_icmp .gt 8, 3) := by decide +kernel
theorem dX8_layVotes_75 : decode cX8_layVotes 75 = .ok (.iload 5, 2) := by decide +kernel
theorem dX8_layVotes_77 : decode cX8_layVotes 77 = .ok (.goto 5, 3) := by decide +kernel
theorem dX8_layVotes_80 : decode cX8_layVotes 80 = .ok (.iload 4, 2) := by decide +kernel
theorem dX8_layVotes_82 : decode cX8_layVotes 82 = .ok (.istore 7, 2) := by decide +kernel
theorem dX8_layVotes_84 : decode cX8_layVotes 84 = .ok (.aload_n 0, 1) := by decide +kernel
theorem dX8_layVotes_85 : decode cX8_layVotes 85 = .ok (.getfield 40, 3) := by decide +kernel
theorem dX8_layVotes_88 : decode cX8_layVotes 88 = .ok (.bipush 8, 2) := by decide +kernel
theorem dX8_layVotes_90 : decode cX8_layVotes 90 = .ok (.iload 6, 2) := by decide +kernel
theorem dX8_layVotes_92 : decode cX8_layVotes 92 = .ok (.imul, 1) := by decide +kernel
theorem dX8_layVotes_93 : decode cX8_layVotes 93 = .ok (.iload 7, 2) := by decide +kernel
theorem dX8_layVotes_95 : decode cX8_layVotes 95 = .ok (.iadd, 1) := by decide +kernel
theorem dX8_layVotes_96 : decode cX8_layVotes 96 = .ok (.dup2, 1) := by decide +kernel
theorem dX8_layVotes_97 : decode cX8_layVotes 97 = .ok (.iaload, 1) := by decide +kernel
theorem dX8_layVotes_98 : decode cX8_layVotes 98 = .ok (.aload_n 0, 1) := by decide +kernel
theorem dX8_layVotes_99 : decode cX8_layVotes 99 = .ok (.iload 4, 2) := by decide +kernel
theorem dX8_layVotes_101 : decode cX8_layVotes 101 = .ok (.iload 5, 2) := by decide +kernel
theorem dX8_layVotes_103 : decode cX8_layVotes 103 = .ok (.invokevirtual 130, 3) := by decide +kernel
theorem dX8_layVotes_106 : decode cX8_layVotes 106 = .ok (.ifCond .eq 7, 3) := by decide +kernel
theorem dX8_layVotes_109 : decode cX8_layVotes 109 = .ok (.iconst 0, 1) := by decide +kernel
theorem dX8_layVotes_110 : decode cX8_layVotes 110 = .ok (.goto 4, 3) := by decide +kernel
theorem dX8_layVotes_113 : decode cX8_layVotes 113 = .ok (.iconst 1, 1) := by decide +kernel
theorem dX8_layVotes_114 : decode cX8_layVotes 114 = .ok (.iadd, 1) := by decide +kernel
theorem dX8_layVotes_115 : decode cX8_layVotes 115 = .ok (.iastore, 1) := by decide +kernel
theorem dX8_layVotes_116 : decode cX8_layVotes 116 = .ok (.iinc 3 1, 3) := by decide +kernel
theorem dX8_layVotes_119 : decode cX8_layVotes 119 = .ok (.goto (-101), 3) := by decide +kernel
theorem dX8_layVotes_122 : decode cX8_layVotes 122 = .ok (.iinc 1 1, 3) := by decide +kernel
theorem dX8_layVotes_125 : decode cX8_layVotes 125 = .ok (.goto (-123), 3) := by decide +kernel
theorem dX8_layVotes_128 : decode cX8_layVotes 128 = .ok (.return_, 1) := by decide +kernel
theorem dX8_nameBy_0 : decode cX8_nameBy 0 = .ok (.aload_n 0, 1) := by decide +kernel
theorem dX8_nameBy_1 : decode cX8_nameBy 1 = .ok (.getfield 28, 3) := by decide +kernel
theorem dX8_nameBy_4 : decode cX8_nameBy 4 = .ok (.iload_n 1, 1) := by decide +kernel
theorem dX8_nameBy_5 : decode cX8_nameBy 5 = .ok (.iaload, 1) := by decide +kernel
theorem dX8_nameBy_6 : decode cX8_nameBy 6 = .ok (.iload_n 2, 1) := by decide +kernel
theorem dX8_nameBy_7 : decode cX8_nameBy 7 = .ok (.invokestatic 102, 3) := by decide +kernel
theorem dX8_nameBy_10 : decode cX8_nameBy 10 = .ok (.ifCond .ne 5, 3) := by decide +kernel
theorem dX8_nameBy_13 : decode cX8_nameBy 13 = .ok (.iconst 0, 1) := by decide +kernel
theorem dX8_nameBy_14 : decode cX8_nameBy 14 = .ok (.ireturn, 1) := by decide +kernel
theorem dX8_nameBy_15 : decode cX8_nameBy 15 = .ok (.aload_n 0, 1) := by decide +kernel
theorem dX8_nameBy_16 : decode cX8_nameBy 16 = .ok (.getfield 40, 3) := by decide +kernel
theorem dX8_nameBy_19 : decode cX8_nameBy 19 = .ok (.bipush 8, 2) := by decide +kernel
theorem dX8_nameBy_21 : decode cX8_nameBy 21 = .ok (.iload_n 1, 1) := by decide +kernel
theorem dX8_nameBy_22 : decode cX8_nameBy 22 = .ok (.imul, 1) := by decide +kernel
theorem dX8_nameBy_23 : decode cX8_nameBy 23 = .ok (.iload_n 2, 1) := by decide +kernel
theorem dX8_nameBy_24 : decode cX8_nameBy 24 = .ok (.iadd, 1) := by decide +kernel
theorem dX8_nameBy_25 : decode cX8_nameBy 25 = .ok (.iaload, 1) := by decide +kernel
theorem dX8_nameBy_26 : decode cX8_nameBy 26 = .ok (.istore_n 3, 1) := by decide +kernel
theorem dX8_nameBy_27 : decode cX8_nameBy 27 = .ok (.aload_n 0, 1) := by decide +kernel
theorem dX8_nameBy_28 : decode cX8_nameBy 28 = .ok (.getfield 40, 3) := by decide +kernel
theorem dX8_nameBy_31 : decode cX8_nameBy 31 = .ok (.bipush 8, 2) := by decide +kernel
theorem dX8_nameBy_33 : decode cX8_nameBy 33 = .ok (.iload_n 2, 1) := by decide +kernel
theorem dX8_nameBy_34 : decode cX8_nameBy 34 = .ok (.imul, 1) := by decide +kernel
theorem dX8_nameBy_35 : decode cX8_nameBy 35 = .ok (.iload_n 1, 1) := by decide +kernel
theorem dX8_nameBy_36 : decode cX8_nameBy 36 = .ok (.iadd, 1) := by decide +kernel
theorem dX8_nameBy_37 : decode cX8_nameBy 37 = .ok (.iaload, 1) := by decide +kernel
theorem dX8_nameBy_38 : decode cX8_nameBy 38 = .ok (.istore 4, 2) := by decide +kernel
theorem dX8_nameBy_40 : decode cX8_nameBy 40 = .ok (.aload_n 0, 1) := by decide +kernel
theorem dX8_nameBy_41 : decode cX8_nameBy 41 = .ok (.iload_n 1, 1) := by decide +kernel
theorem dX8_nameBy_42 : decode cX8_nameBy 42 = .ok (.iload_n 2, 1) := by decide +kernel
theorem dX8_nameBy_43 : decode cX8_nameBy 43 = .ok (.invokevirtual 130, 3) := by decide +kernel
theorem dX8_nameBy_46 : decode cX8_nameBy 46 = .ok (.ifCond .eq 7, 3) := by decide +kernel
theorem dX8_nameBy_49 : decode cX8_nameBy 49 = .ok (.iconst 3, 1) := by decide +kernel
theorem dX8_nameBy_50 : decode cX8_nameBy 50 = .ok (.goto 24, 3) := by decide +kernel
theorem dX8_nameBy_53 : decode cX8_nameBy 53 = .ok (.iload_n 3, 1) := by decide +kernel
theorem dX8_nameBy_54 : decode cX8_nameBy 54 = .ok (.iload 4, 2) := by decide +kernel
theorem dX8_nameBy_56 : decode cX8_nameBy 56 = .ok (.if_icmp .le 7, 3) := by decide +kernel
theorem dX8_nameBy_59 : decode cX8_nameBy 59 = .ok (.iconst 1, 1) := by decide +kernel
theorem dX8_nameBy_60 : decode cX8_nameBy 60 = .ok (.goto 14, 3) := by decide +kernel
theorem dX8_nameBy_63 : decode cX8_nameBy 63 = .ok (.iload_n 3, 1) := by decide +kernel
theorem dX8_nameBy_64 : decode cX8_nameBy 64 = .ok (.iload 4, 2) := by decide +kernel
theorem dX8_nameBy_66 : decode cX8_nameBy 66 = .ok (.if_icmp .ge 7, 3) := by decide +kernel
theorem dX8_nameBy_69 : decode cX8_nameBy 69 = .ok (.iconst 2, 1) := by decide +kernel
theorem dX8_nameBy_70 : decode cX8_nameBy 70 = .ok (.goto 4, 3) := by decide +kernel
theorem dX8_nameBy_73 : decode cX8_nameBy 73 = .ok (.iconst 4, 1) := by decide +kernel
theorem dX8_nameBy_74 : decode cX8_nameBy 74 = .ok (.ireturn, 1) := by decide +kernel
theorem dX8_lay_0 : decode cX8_lay 0 = .ok (.aload_n 0, 1) := by decide +kernel
theorem dX8_lay_1 : decode cX8_lay 1 = .ok (.getfield 81, 3) := by decide +kernel
theorem dX8_lay_4 : decode cX8_lay 4 = .ok (.ifCond .eq 4, 3) := by decide +kernel
theorem dX8_lay_7 : decode cX8_lay 7 = .ok (.return_, 1) := by decide +kernel
theorem dX8_lay_8 : decode cX8_lay 8 = .ok (.aload_n 0, 1) := by decide +kernel
theorem dX8_lay_9 : decode cX8_lay 9 = .ok (.iconst 1, 1) := by decide +kernel
theorem dX8_lay_10 : decode cX8_lay 10 = .ok (.putfield 81, 3) := by decide +kernel
theorem dX8_lay_13 : decode cX8_lay 13 = .ok (.aload_n 0, 1) := by decide +kernel
theorem dX8_lay_14 : decode cX8_lay 14 = .ok (.invokevirtual 133, 3) := by decide +kernel
theorem dX8_lay_17 : decode cX8_lay 17 = .ok (.aload_n 0, 1) := by decide +kernel
theorem dX8_lay_18 : decode cX8_lay 18 = .ok (.invokevirtual 136, 3) := by decide +kernel
theorem dX8_lay_21 : decode cX8_lay 21 = .ok (.aload_n 0, 1) := by decide +kernel
theorem dX8_lay_22 : decode cX8_lay 22 = .ok (.invokevirtual 139, 3) := by decide +kernel
theorem dX8_lay_25 : decode cX8_lay 25 = .ok (.aload_n 0, 1) := by decide +kernel
theorem dX8_lay_26 : decode cX8_lay 26 = .ok (.invokevirtual 142, 3) := by decide +kernel
theorem dX8_lay_29 : decode cX8_lay 29 = .ok (.iconst 0, 1) := by decide +kernel
theorem dX8_lay_30 : decode cX8_lay 30 = .ok (.istore_n 1, 1) := by decide +kernel
theorem dX8_lay_31 : decode cX8_lay 31 = .ok (.iload_n 1, 1) := by decide +kernel
theorem dX8_lay_32 : decode cX8_lay 32 = .ok (.bipush 64, 2) := by decide +kernel
theorem dX8_lay_34 : decode cX8_lay 34 = .ok (.if_icmp .ge 27, 3) := by decide +kernel
theorem dX8_lay_37 : decode cX8_lay 37 = .ok (.aload_n 0, 1) := by decide +kernel
theorem dX8_lay_38 : decode cX8_lay 38 = .ok (.getfield 46, 3) := by decide +kernel
theorem dX8_lay_41 : decode cX8_lay 41 = .ok (.iload_n 1, 1) := by decide +kernel
theorem dX8_lay_42 : decode cX8_lay 42 = .ok (.aload_n 0, 1) := by decide +kernel
theorem dX8_lay_43 : decode cX8_lay 43 = .ok (.iload_n 1, 1) := by decide +kernel
theorem dX8_lay_44 : decode cX8_lay 44 = .ok (.bipush 8, 2) := by decide +kernel
theorem dX8_lay_46 : decode cX8_lay 46 = .ok (.idiv, 1) := by decide +kernel
theorem dX8_lay_47 : decode cX8_lay 47 = .ok (.iload_n 1, 1) := by decide +kernel
theorem dX8_lay_48 : decode cX8_lay 48 = .ok (.bipush 8, 2) := by decide +kernel
theorem dX8_lay_50 : decode cX8_lay 50 = .ok (.irem, 1) := by decide +kernel
theorem dX8_lay_51 : decode cX8_lay 51 = .ok (.invokevirtual 145, 3) := by decide +kernel
theorem dX8_lay_54 : decode cX8_lay 54 = .ok (.iastore, 1) := by decide +kernel
theorem dX8_lay_55 : decode cX8_lay 55 = .ok (.iinc 1 1, 3) := by decide +kernel
theorem dX8_lay_58 : decode cX8_lay 58 = .ok (.goto (-27), 3) := by decide +kernel
theorem dX8_lay_61 : decode cX8_lay 61 = .ok (.return_, 1) := by decide +kernel
theorem dX8_coneOf_0 : decode cX8_coneOf 0 = .ok (.iconst 1, 1) := by decide +kernel
theorem dX8_coneOf_1 : decode cX8_coneOf 1 = .ok (.iload_n 1, 1) := by decide +kernel
theorem dX8_coneOf_2 : decode cX8_coneOf 2 = .ok (.ishl, 1) := by decide +kernel
theorem dX8_coneOf_3 : decode cX8_coneOf 3 = .ok (.istore_n 2, 1) := by decide +kernel
theorem dX8_coneOf_4 : decode cX8_coneOf 4 = .ok (.iconst 0, 1) := by decide +kernel
theorem dX8_coneOf_5 : decode cX8_coneOf 5 = .ok (.istore_n 3, 1) := by decide +kernel
theorem dX8_coneOf_6 : decode cX8_coneOf 6 = .ok (.iload_n 3, 1) := by decide +kernel
theorem dX8_coneOf_7 : decode cX8_coneOf 7 = .ok (.bipush 8, 2) := by decide +kernel
theorem dX8_coneOf_9 : decode cX8_coneOf 9 = .ok (.if_icmp .ge 62, 3) := by decide +kernel
theorem dX8_coneOf_12 : decode cX8_coneOf 12 = .ok (.iconst 0, 1) := by decide +kernel
theorem dX8_coneOf_13 : decode cX8_coneOf 13 = .ok (.istore 4, 2) := by decide +kernel
theorem dX8_coneOf_15 : decode cX8_coneOf 15 = .ok (.iload 4, 2) := by decide +kernel
theorem dX8_coneOf_17 : decode cX8_coneOf 17 = .ok (.bipush 64, 2) := by decide +kernel
theorem dX8_coneOf_19 : decode cX8_coneOf 19 = .ok (.if_icmp .ge 46, 3) := by decide +kernel
theorem dX8_coneOf_22 : decode cX8_coneOf 22 = .ok (.iload_n 2, 1) := by decide +kernel
theorem dX8_coneOf_23 : decode cX8_coneOf 23 = .ok (.aload_n 0, 1) := by decide +kernel
theorem dX8_coneOf_24 : decode cX8_coneOf 24 = .ok (.getfield 46, 3) := by decide +kernel
theorem dX8_coneOf_27 : decode cX8_coneOf 27 = .ok (.iload 4, 2) := by decide +kernel
theorem dX8_coneOf_29 : decode cX8_coneOf 29 = .ok (.iaload, 1) := by decide +kernel
theorem dX8_coneOf_30 : decode cX8_coneOf 30 = .ok (.iconst 1, 1) := by decide +kernel
theorem dX8_coneOf_31 : decode cX8_coneOf 31 = .ok (.if_icmp .ne 25, 3) := by decide +kernel
theorem dX8_coneOf_34 : decode cX8_coneOf 34 = .ok (.iload_n 2, 1) := by decide +kernel
theorem dX8_coneOf_35 : decode cX8_coneOf 35 = .ok (.iload 4, 2) := by decide +kernel
theorem dX8_coneOf_37 : decode cX8_coneOf 37 = .ok (.bipush 8, 2) := by decide +kernel
theorem dX8_coneOf_39 : decode cX8_coneOf 39 = .ok (.irem, 1) := by decide +kernel
theorem dX8_coneOf_40 : decode cX8_coneOf 40 = .ok (.invokestatic 102, 3) := by decide +kernel
theorem dX8_coneOf_43 : decode cX8_coneOf 43 = .ok (.ifCond .eq 13, 3) := by decide +kernel
theorem dX8_coneOf_46 : decode cX8_coneOf 46 = .ok (.iconst 1, 1) := by decide +kernel
theorem dX8_coneOf_47 : decode cX8_coneOf 47 = .ok (.iload 4, 2) := by decide +kernel
theorem dX8_coneOf_49 : decode cX8_coneOf 49 = .ok (.bipush 8, 2) := by decide +kernel
theorem dX8_coneOf_51 : decode cX8_coneOf 51 = .ok (.idiv, 1) := by decide +kernel
theorem dX8_coneOf_52 : decode cX8_coneOf 52 = .ok (.ishl, 1) := by decide +kernel
theorem dX8_coneOf_53 : decode cX8_coneOf 53 = .ok (.goto 4, 3) := by decide +kernel
theorem dX8_coneOf_56 : decode cX8_coneOf 56 = .ok (.iconst 0, 1) := by decide +kernel
theorem dX8_coneOf_57 : decode cX8_coneOf 57 = .ok (.ior, 1) := by decide +kernel
theorem dX8_coneOf_58 : decode cX8_coneOf 58 = .ok (.istore_n 2, 1) := by decide +kernel
theorem dX8_coneOf_59 : decode cX8_coneOf 59 = .ok (.iinc 4 1, 3) := by decide +kernel
theorem dX8_coneOf_62 : decode cX8_coneOf 62 = .ok (.goto (-47), 3) := by decide +kernel
theorem dX8_coneOf_65 : decode cX8_coneOf 65 = .ok (.iinc 3 1, 3) := by decide +kernel
theorem dX8_coneOf_68 : decode cX8_coneOf 68 = .ok (.goto (-62), 3) := by decide +kernel
theorem dX8_coneOf_71 : decode cX8_coneOf 71 = .ok (.iload_n 2, 1) := by decide +kernel
theorem dX8_coneOf_72 : decode cX8_coneOf 72 = .ok (.ireturn, 1) := by decide +kernel
theorem dX8_netNow_0 : decode cX8_netNow 0 = .ok (.aload_n 0, 1) := by decide +kernel
theorem dX8_netNow_1 : decode cX8_netNow 1 = .ok (.invokevirtual 149, 3) := by decide +kernel
theorem dX8_netNow_4 : decode cX8_netNow 4 = .ok (.iload_n 2, 1) := by decide +kernel
theorem dX8_netNow_5 : decode cX8_netNow 5 = .ok (.tableswitch 77 0 4 #[35, 45, 55, 62, 71], 35) := by decide +kernel
theorem dX8_netNow_40 : decode cX8_netNow 40 = .ok (.aload_n 0, 1) := by decide +kernel
theorem dX8_netNow_41 : decode cX8_netNow 41 = .ok (.getfield 28, 3) := by decide +kernel
theorem dX8_netNow_44 : decode cX8_netNow 44 = .ok (.iload_n 1, 1) := by decide +kernel
theorem dX8_netNow_45 : decode cX8_netNow 45 = .ok (.iaload, 1) := by decide +kernel
theorem dX8_netNow_46 : decode cX8_netNow 46 = .ok (.invokestatic 109, 3) := by decide +kernel
theorem dX8_netNow_49 : decode cX8_netNow 49 = .ok (.ireturn, 1) := by decide +kernel
theorem dX8_netNow_50 : decode cX8_netNow 50 = .ok (.aload_n 0, 1) := by decide +kernel
theorem dX8_netNow_51 : decode cX8_netNow 51 = .ok (.getfield 31, 3) := by decide +kernel
theorem dX8_netNow_54 : decode cX8_netNow 54 = .ok (.iload_n 1, 1) := by decide +kernel
theorem dX8_netNow_55 : decode cX8_netNow 55 = .ok (.iaload, 1) := by decide +kernel
theorem dX8_netNow_56 : decode cX8_netNow 56 = .ok (.invokestatic 109, 3) := by decide +kernel
theorem dX8_netNow_59 : decode cX8_netNow 59 = .ok (.ireturn, 1) := by decide +kernel
theorem dX8_netNow_60 : decode cX8_netNow 60 = .ok (.aload_n 0, 1) := by decide +kernel
theorem dX8_netNow_61 : decode cX8_netNow 61 = .ok (.getfield 37, 3) := by decide +kernel
theorem dX8_netNow_64 : decode cX8_netNow 64 = .ok (.iload_n 1, 1) := by decide +kernel
theorem dX8_netNow_65 : decode cX8_netNow 65 = .ok (.iaload, 1) := by decide +kernel
theorem dX8_netNow_66 : decode cX8_netNow 66 = .ok (.ireturn, 1) := by decide +kernel
theorem dX8_netNow_67 : decode cX8_netNow 67 = .ok (.aload_n 0, 1) := by decide +kernel
theorem dX8_netNow_68 : decode cX8_netNow 68 = .ok (.getfield 118, 3) := by decide +kernel
theorem dX8_netNow_71 : decode cX8_netNow 71 = .ok (.iload_n 1, 1) := by decide +kernel
theorem dX8_netNow_72 : decode cX8_netNow 72 = .ok (.ishr, 1) := by decide +kernel
theorem dX8_netNow_73 : decode cX8_netNow 73 = .ok (.iconst 1, 1) := by decide +kernel
theorem dX8_netNow_74 : decode cX8_netNow 74 = .ok (.iand, 1) := by decide +kernel
theorem dX8_netNow_75 : decode cX8_netNow 75 = .ok (.ireturn, 1) := by decide +kernel
theorem dX8_netNow_76 : decode cX8_netNow 76 = .ok (.aload_n 0, 1) := by decide +kernel
theorem dX8_netNow_77 : decode cX8_netNow 77 = .ok (.iload_n 1, 1) := by decide +kernel
theorem dX8_netNow_78 : decode cX8_netNow 78 = .ok (.invokevirtual 152, 3) := by decide +kernel
theorem dX8_netNow_81 : decode cX8_netNow 81 = .ok (.ireturn, 1) := by decide +kernel
theorem dX8_netNow_82 : decode cX8_netNow 82 = .ok (.aload_n 0, 1) := by decide +kernel
theorem dX8_netNow_83 : decode cX8_netNow 83 = .ok (.getfield 88, 3) := by decide +kernel
theorem dX8_netNow_86 : decode cX8_netNow 86 = .ok (.iload_n 1, 1) := by decide +kernel
theorem dX8_netNow_87 : decode cX8_netNow 87 = .ok (.ishr, 1) := by decide +kernel
theorem dX8_netNow_88 : decode cX8_netNow 88 = .ok (.iconst 1, 1) := by decide +kernel
theorem dX8_netNow_89 : decode cX8_netNow 89 = .ok (.iand, 1) := by decide +kernel
theorem dX8_netNow_90 : decode cX8_netNow 90 = .ok (.ireturn, 1) := by decide +kernel
theorem dX8_net_0 : decode cX8_net 0 = .ok (.iload_n 1, 1) := by decide +kernel
theorem dX8_net_1 : decode cX8_net 1 = .ok (.invokestatic 85, 3) := by decide +kernel
theorem dX8_net_4 : decode cX8_net 4 = .ok (.ifCond .ne 7, 3) := by decide +kernel
theorem dX8_net_7 : decode cX8_net 7 = .ok (.sipush (-1001), 3) := by decide +kernel
theorem dX8_net_10 : decode cX8_net 10 = .ok (.ireturn, 1) := by decide +kernel
theorem dX8_net_11 : decode cX8_net 11 = .ok (.iload_n 2, 1) := by decide +kernel
theorem dX8_net_12 : decode cX8_net 12 = .ok (.iconst 0, 1) := by decide +kernel
theorem dX8_net_13 : decode cX8_net 13 = .ok (.iconst 5, 1) := by decide +kernel
theorem dX8_net_14 : decode cX8_net 14 = .ok (.invokestatic 55, 3) := by decide +kernel
theorem dX8_net_17 : decode cX8_net 17 = .ok (.ifCond .eq 12, 3) := by decide +kernel
theorem dX8_net_20 : decode cX8_net 20 = .ok (.aload_n 0, 1) := by decide +kernel
theorem dX8_net_21 : decode cX8_net 21 = .ok (.iload_n 1, 1) := by decide +kernel
theorem dX8_net_22 : decode cX8_net 22 = .ok (.iload_n 2, 1) := by decide +kernel
theorem dX8_net_23 : decode cX8_net 23 = .ok (.invokevirtual 155, 3) := by decide +kernel
theorem dX8_net_26 : decode cX8_net 26 = .ok (.goto 6, 3) := by decide +kernel
theorem dX8_net_29 : decode cX8_net 29 = .ok (.sipush (-1002), 3) := by decide +kernel
theorem dX8_net_32 : decode cX8_net 32 = .ok (.ireturn, 1) := by decide +kernel
theorem dX8_rankNow_0 : decode cX8_rankNow 0 = .ok (.aload_n 0, 1) := by decide +kernel
theorem dX8_rankNow_1 : decode cX8_rankNow 1 = .ok (.invokevirtual 149, 3) := by decide +kernel
theorem dX8_rankNow_4 : decode cX8_rankNow 4 = .ok (.iload_n 1, 1) := by decide +kernel
theorem dX8_rankNow_5 : decode cX8_rankNow 5 = .ok (.iconst 0, 1) := by decide +kernel
theorem dX8_rankNow_6 : decode cX8_rankNow 6 = .ok (.aload_n 0, 1) := by decide +kernel
theorem dX8_rankNow_7 : decode cX8_rankNow 7 = .ok (.getfield 112, 3) := by decide +kernel
theorem dX8_rankNow_10 : decode cX8_rankNow 10 = .ok (.iconst 1, 1) := by decide +kernel
theorem dX8_rankNow_11 : decode cX8_rankNow 11 = .ok (.isub, 1) := by decide +kernel
theorem dX8_rankNow_12 : decode cX8_rankNow 12 = .ok (.invokestatic 55, 3) := by decide +kernel
theorem dX8_rankNow_15 : decode cX8_rankNow 15 = .ok (.ifCond .eq 12, 3) := by decide +kernel
theorem dX8_rankNow_18 : decode cX8_rankNow 18 = .ok (.aload_n 0, 1) := by decide +kernel
theorem dX8_rankNow_19 : decode cX8_rankNow 19 = .ok (.getfield 34, 3) := by decide +kernel
theorem dX8_rankNow_22 : decode cX8_rankNow 22 = .ok (.iload_n 1, 1) := by decide +kernel
theorem dX8_rankNow_23 : decode cX8_rankNow 23 = .ok (.iaload, 1) := by decide +kernel
theorem dX8_rankNow_24 : decode cX8_rankNow 24 = .ok (.goto 4, 3) := by decide +kernel
theorem dX8_rankNow_27 : decode cX8_rankNow 27 = .ok (.iconst (-1), 1) := by decide +kernel
theorem dX8_rankNow_28 : decode cX8_rankNow 28 = .ok (.ireturn, 1) := by decide +kernel
theorem dX8_rank_0 : decode cX8_rank 0 = .ok (.aload_n 0, 1) := by decide +kernel
theorem dX8_rank_1 : decode cX8_rank 1 = .ok (.iload_n 1, 1) := by decide +kernel
theorem dX8_rank_2 : decode cX8_rank 2 = .ok (.invokevirtual 158, 3) := by decide +kernel
theorem dX8_rank_5 : decode cX8_rank 5 = .ok (.ireturn, 1) := by decide +kernel
theorem dX8_topNow_0 : decode cX8_topNow 0 = .ok (.aload_n 0, 1) := by decide +kernel
theorem dX8_topNow_1 : decode cX8_topNow 1 = .ok (.invokevirtual 149, 3) := by decide +kernel
theorem dX8_topNow_4 : decode cX8_topNow 4 = .ok (.aload_n 0, 1) := by decide +kernel
theorem dX8_topNow_5 : decode cX8_topNow 5 = .ok (.getfield 118, 3) := by decide +kernel
theorem dX8_topNow_8 : decode cX8_topNow 8 = .ok (.ireturn, 1) := by decide +kernel
theorem dX8_top_0 : decode cX8_top 0 = .ok (.aload_n 0, 1) := by decide +kernel
theorem dX8_top_1 : decode cX8_top 1 = .ok (.invokevirtual 161, 3) := by decide +kernel
theorem dX8_top_4 : decode cX8_top 4 = .ok (.ireturn, 1) := by decide +kernel
theorem dX8_linkNow_0 : decode cX8_linkNow 0 = .ok (.aload_n 0, 1) := by decide +kernel
theorem dX8_linkNow_1 : decode cX8_linkNow 1 = .ok (.invokevirtual 149, 3) := by decide +kernel
theorem dX8_linkNow_4 : decode cX8_linkNow 4 = .ok (.bipush 8, 2) := by decide +kernel
theorem dX8_linkNow_6 : decode cX8_linkNow 6 = .ok (.iload_n 1, 1) := by decide +kernel
theorem dX8_linkNow_7 : decode cX8_linkNow 7 = .ok (.imul, 1) := by decide +kernel
theorem dX8_linkNow_8 : decode cX8_linkNow 8 = .ok (.iload_n 2, 1) := by decide +kernel
theorem dX8_linkNow_9 : decode cX8_linkNow 9 = .ok (.iadd, 1) := by decide +kernel
theorem dX8_linkNow_10 : decode cX8_linkNow 10 = .ok (.istore 4, 2) := by decide +kernel
theorem dX8_linkNow_12 : decode cX8_linkNow 12 = .ok (.iload_n 3, 1) := by decide +kernel
theorem dX8_linkNow_13 : decode cX8_linkNow 13 = .ok (.ifCond .ne 13, 3) := by decide +kernel
theorem dX8_linkNow_16 : decode cX8_linkNow 16 = .ok (.aload_n 0, 1) := by decide +kernel
theorem dX8_linkNow_17 : decode cX8_linkNow 17 = .ok (.getfield 46, 3) := by decide +kernel
theorem dX8_linkNow_20 : decode cX8_linkNow 20 = .ok (.iload 4, 2) := by decide +kernel
theorem dX8_linkNow_22 : decode cX8_linkNow 22 = .ok (.iaload, 1) := by decide +kernel
theorem dX8_linkNow_23 : decode cX8_linkNow 23 = .ok (.goto 59, 3) := by decide +kernel
theorem dX8_linkNow_26 : decode cX8_linkNow 26 = .ok (.iload_n 3, 1) := by decide +kernel
theorem dX8_linkNow_27 : decode cX8_linkNow 27 = .ok (.iconst 1, 1) := by decide +kernel
theorem dX8_linkNow_28 : decode cX8_linkNow 28 = .ok (.if_icmp .ne 13, 3) := by decide +kernel
theorem dX8_linkNow_31 : decode cX8_linkNow 31 = .ok (.aload_n 0, 1) := by decide +kernel
theorem dX8_linkNow_32 : decode cX8_linkNow 32 = .ok (.getfield 40, 3) := by decide +kernel
theorem dX8_linkNow_35 : decode cX8_linkNow 35 = .ok (.iload 4, 2) := by decide +kernel
theorem dX8_linkNow_37 : decode cX8_linkNow 37 = .ok (.iaload, 1) := by decide +kernel
theorem dX8_linkNow_38 : decode cX8_linkNow 38 = .ok (.goto 44, 3) := by decide +kernel
theorem dX8_linkNow_41 : decode cX8_linkNow 41 = .ok (.iload_n 3, 1) := by decide +kernel
theorem dX8_linkNow_42 : decode cX8_linkNow 42 = .ok (.iconst 2, 1) := by decide +kernel
theorem dX8_linkNow_43 : decode cX8_linkNow 43 = .ok (.if_icmp .ne 17, 3) := by decide +kernel
theorem dX8_linkNow_46 : decode cX8_linkNow 46 = .ok (.aload_n 0, 1) := by decide +kernel
theorem dX8_linkNow_47 : decode cX8_linkNow 47 = .ok (.getfield 40, 3) := by decide +kernel
theorem dX8_linkNow_50 : decode cX8_linkNow 50 = .ok (.bipush 8, 2) := by decide +kernel
theorem dX8_linkNow_52 : decode cX8_linkNow 52 = .ok (.iload_n 2, 1) := by decide +kernel
theorem dX8_linkNow_53 : decode cX8_linkNow 53 = .ok (.imul, 1) := by decide +kernel
theorem dX8_linkNow_54 : decode cX8_linkNow 54 = .ok (.iload_n 1, 1) := by decide +kernel
theorem dX8_linkNow_55 : decode cX8_linkNow 55 = .ok (.iadd, 1) := by decide +kernel
theorem dX8_linkNow_56 : decode cX8_linkNow 56 = .ok (.iaload, 1) := by decide +kernel
theorem dX8_linkNow_57 : decode cX8_linkNow 57 = .ok (.goto 25, 3) := by decide +kernel
theorem dX8_linkNow_60 : decode cX8_linkNow 60 = .ok (.iload_n 3, 1) := by decide +kernel
theorem dX8_linkNow_61 : decode cX8_linkNow 61 = .ok (.iconst 3, 1) := by decide +kernel
theorem dX8_linkNow_62 : decode cX8_linkNow 62 = .ok (.if_icmp .ne 13, 3) := by decide +kernel
theorem dX8_linkNow_65 : decode cX8_linkNow 65 = .ok (.aload_n 0, 1) := by decide +kernel
theorem dX8_linkNow_66 : decode cX8_linkNow 66 = .ok (.getfield 43, 3) := by decide +kernel
theorem dX8_linkNow_69 : decode cX8_linkNow 69 = .ok (.iload 4, 2) := by decide +kernel
theorem dX8_linkNow_71 : decode cX8_linkNow 71 = .ok (.iaload, 1) := by decide +kernel
theorem dX8_linkNow_72 : decode cX8_linkNow 72 = .ok (.goto 10, 3) := by decide +kernel
theorem dX8_linkNow_75 : decode cX8_linkNow 75 = .ok (.aload_n 0, 1) := by decide +kernel
theorem dX8_linkNow_76 : decode cX8_linkNow 76 = .ok (.getfield 19, 3) := by decide +kernel
theorem dX8_linkNow_79 : decode cX8_linkNow 79 = .ok (.iload 4, 2) := by decide +kernel
theorem dX8_linkNow_81 : decode cX8_linkNow 81 = .ok (.iaload, 1) := by decide +kernel
theorem dX8_linkNow_82 : decode cX8_linkNow 82 = .ok (.ireturn, 1) := by decide +kernel
theorem dX8_link_0 : decode cX8_link 0 = .ok (.iload_n 1, 1) := by decide +kernel
theorem dX8_link_1 : decode cX8_link 1 = .ok (.iload_n 2, 1) := by decide +kernel
theorem dX8_link_2 : decode cX8_link 2 = .ok (.invokestatic 91, 3) := by decide +kernel
theorem dX8_link_5 : decode cX8_link 5 = .ok (.ifCond .ne 7, 3) := by decide +kernel
theorem dX8_link_8 : decode cX8_link 8 = .ok (.sipush (-1001), 3) := by decide +kernel
theorem dX8_link_11 : decode cX8_link 11 = .ok (.ireturn, 1) := by decide +kernel
theorem dX8_link_12 : decode cX8_link 12 = .ok (.iload_n 3, 1) := by decide +kernel
theorem dX8_link_13 : decode cX8_link 13 = .ok (.iconst 0, 1) := by decide +kernel
theorem dX8_link_14 : decode cX8_link 14 = .ok (.iconst 4, 1) := by decide +kernel
theorem dX8_link_15 : decode cX8_link 15 = .ok (.invokestatic 55, 3) := by decide +kernel
theorem dX8_link_18 : decode cX8_link 18 = .ok (.ifCond .eq 13, 3) := by decide +kernel
theorem dX8_link_21 : decode cX8_link 21 = .ok (.aload_n 0, 1) := by decide +kernel
theorem dX8_link_22 : decode cX8_link 22 = .ok (.iload_n 1, 1) := by decide +kernel
theorem dX8_link_23 : decode cX8_link 23 = .ok (.iload_n 2, 1) := by decide +kernel
theorem dX8_link_24 : decode cX8_link 24 = .ok (.iload_n 3, 1) := by decide +kernel
theorem dX8_link_25 : decode cX8_link 25 = .ok (.invokevirtual 164, 3) := by decide +kernel
theorem dX8_link_28 : decode cX8_link 28 = .ok (.goto 6, 3) := by decide +kernel
theorem dX8_link_31 : decode cX8_link 31 = .ok (.sipush (-1002), 3) := by decide +kernel
theorem dX8_link_34 : decode cX8_link 34 = .ok (.ireturn, 1) := by decide +kernel
theorem dX8_lesserOf_0 : decode cX8_lesserOf 0 = .ok (.iload_n 1, 1) := by decide +kernel
theorem dX8_lesserOf_1 : decode cX8_lesserOf 1 = .ok (.bipush 8, 2) := by decide +kernel
theorem dX8_lesserOf_3 : decode cX8_lesserOf 3 = .ok (.idiv, 1) := by decide +kernel
theorem dX8_lesserOf_4 : decode cX8_lesserOf 4 = .ok (.istore_n 2, 1) := by decide +kernel
theorem dX8_lesserOf_5 : decode cX8_lesserOf 5 = .ok (.iload_n 1, 1) := by decide +kernel
theorem dX8_lesserOf_6 : decode cX8_lesserOf 6 = .ok (.bipush 8, 2) := by decide +kernel
theorem dX8_lesserOf_8 : decode cX8_lesserOf 8 = .ok (.irem, 1) := by decide +kernel
theorem dX8_lesserOf_9 : decode cX8_lesserOf 9 = .ok (.istore_n 3, 1) := by decide +kernel
theorem dX8_lesserOf_10 : decode cX8_lesserOf 10 = .ok (.aload_n 0, 1) := by decide +kernel
theorem dX8_lesserOf_11 : decode cX8_lesserOf 11 = .ok (.getfield 40, 3) := by decide +kernel
theorem dX8_lesserOf_14 : decode cX8_lesserOf 14 = .ok (.iload_n 1, 1) := by decide +kernel
theorem dX8_lesserOf_15 : decode cX8_lesserOf 15 = .ok (.iaload, 1) := by decide +kernel
theorem dX8_lesserOf_16 : decode cX8_lesserOf 16 = .ok (.istore 4, 2) := by decide +kernel
theorem dX8_lesserOf_18 : decode cX8_lesserOf 18 = .ok (.aload_n 0, 1) := by decide +kernel
theorem dX8_lesserOf_19 : decode cX8_lesserOf 19 = .ok (.getfield 40, 3) := by decide +kernel
theorem dX8_lesserOf_22 : decode cX8_lesserOf 22 = .ok (.bipush 8, 2) := by decide +kernel
theorem dX8_lesserOf_24 : decode cX8_lesserOf 24 = .ok (.iload_n 3, 1) := by decide +kernel
theorem dX8_lesserOf_25 : decode cX8_lesserOf 25 = .ok (.imul, 1) := by decide +kernel
theorem dX8_lesserOf_26 : decode cX8_lesserOf 26 = .ok (.iload_n 2, 1) := by decide +kernel
theorem dX8_lesserOf_27 : decode cX8_lesserOf 27 = .ok (.iadd, 1) := by decide +kernel
theorem dX8_lesserOf_28 : decode cX8_lesserOf 28 = .ok (.iaload, 1) := by decide +kernel
theorem dX8_lesserOf_29 : decode cX8_lesserOf 29 = .ok (.istore 5, 2) := by decide +kernel
theorem dX8_lesserOf_31 : decode cX8_lesserOf 31 = .ok (.iload_n 2, 1) := by decide +kernel
theorem dX8_lesserOf_32 : decode cX8_lesserOf 32 = .ok (.iload_n 3, 1) := by decide +kernel
theorem dX8_lesserOf_33 : decode cX8_lesserOf 33 = .ok (.if_icmp .lt 7, 3) := by decide +kernel
theorem dX8_lesserOf_36 : decode cX8_lesserOf 36 = .ok (.iconst 0, 1) := by decide +kernel
theorem dX8_lesserOf_37 : decode cX8_lesserOf 37 = .ok (.goto 17, 3) := by decide +kernel
theorem dX8_lesserOf_40 : decode cX8_lesserOf 40 = .ok (.iload 4, 2) := by decide +kernel
theorem dX8_lesserOf_42 : decode cX8_lesserOf 42 = .ok (.iload 5, 2) := by decide +kernel
theorem dX8_lesserOf_44 : decode cX8_lesserOf 44 = .ok (.if_icmp .ge 8, 3) := by decide +kernel
theorem dX8_lesserOf_47 : decode cX8_lesserOf 47 = .ok (.iload 4, 2) := by decide +kernel
theorem dX8_lesserOf_49 : decode cX8_lesserOf 49 = .ok (.goto 5, 3) := by decide +kernel
theorem dX8_lesserOf_52 : decode cX8_lesserOf 52 = .ok (.iload 5, 2) := by decide +kernel
theorem dX8_lesserOf_54 : decode cX8_lesserOf 54 = .ok (.ireturn, 1) := by decide +kernel
theorem dX8_contradictedNow_0 : decode cX8_contradictedNow 0 = .ok (.aload_n 0, 1) := by decide +kernel
theorem dX8_contradictedNow_1 : decode cX8_contradictedNow 1 = .ok (.invokevirtual 149, 3) := by decide +kernel
theorem dX8_contradictedNow_4 : decode cX8_contradictedNow 4 = .ok (.iconst 0, 1) := by decide +kernel
theorem dX8_contradictedNow_5 : decode cX8_contradictedNow 5 = .ok (.istore_n 2, 1) := by decide +kernel
theorem dX8_contradictedNow_6 : decode cX8_contradictedNow 6 = .ok (.iload_n 2, 1) := by decide +kernel
theorem dX8_contradictedNow_7 : decode cX8_contradictedNow 7 = .ok (.bipush 64, 2) := by decide +kernel
theorem dX8_contradictedNow_9 : decode cX8_contradictedNow 9 = .ok (.if_icmp .ge 84, 3) := by decide +kernel
theorem dX8_contradictedNow_12 : decode cX8_contradictedNow 12 = .ok (.iconst 0, 1) := by decide +kernel
theorem dX8_contradictedNow_13 : decode cX8_contradictedNow 13 = .ok (.istore_n 3, 1) := by decide +kernel
theorem dX8_contradictedNow_14 : decode cX8_contradictedNow 14 = .ok (.iconst 0, 1) := by decide +kernel
theorem dX8_contradictedNow_15 : decode cX8_contradictedNow 15 = .ok (.istore 4, 2) := by decide +kernel
theorem dX8_contradictedNow_17 : decode cX8_contradictedNow 17 = .ok (.iload 4, 2) := by decide +kernel
theorem dX8_contradictedNow_19 : decode cX8_contradictedNow 19 = .ok (.bipush 64, 2) := by decide +kernel
theorem dX8_contradictedNow_21 : decode cX8_contradictedNow 21 = .ok (.if_icmp .ge 51, 3) := by decide +kernel
theorem dX8_contradictedNow_24 : decode cX8_contradictedNow 24 = .ok (.iload_n 3, 1) := by decide +kernel
theorem dX8_contradictedNow_25 : decode cX8_contradictedNow 25 = .ok (.aload_n 0, 1) := by decide +kernel
theorem dX8_contradictedNow_26 : decode cX8_contradictedNow 26 = .ok (.iload 4, 2) := by decide +kernel
theorem dX8_contradictedNow_28 : decode cX8_contradictedNow 28 = .ok (.invokevirtual 168, 3) := by decide +kernel
theorem dX8_contradictedNow_31 : decode cX8_contradictedNow 31 = .ok (.aload_n 0, 1) := by decide +kernel
theorem dX8_contradictedNow_32 : decode cX8_contradictedNow 32 = .ok (.iload_n 2, 1) := by decide +kernel
theorem dX8_contradictedNow_33 : decode cX8_contradictedNow 33 = .ok (.invokevirtual 168, 3) := by decide +kernel
theorem dX8_contradictedNow_36 : decode cX8_contradictedNow 36 = .ok (.if_icmp .gt 23, 3) := by decide +kernel
theorem dX8_contradictedNow_39 : decode cX8_contradictedNow 39 = .ok (.aload_n 0, 1) := by decide +kernel
theorem dX8_contradictedNow_40 : decode cX8_contradictedNow 40 = .ok (.iload 4, 2) := by decide +kernel
theorem dX8_contradictedNow_42 : decode cX8_contradictedNow 42 = .ok (.invokevirtual 168, 3) := by decide +kernel
theorem dX8_contradictedNow_45 : decode cX8_contradictedNow 45 = .ok (.aload_n 0, 1) := by decide +kernel
theorem dX8_contradictedNow_46 : decode cX8_contradictedNow 46 = .ok (.iload_n 2, 1) := by decide +kernel
theorem dX8_contradictedNow_47 : decode cX8_contradictedNow 47 = .ok (.invokevirtual 168, 3) := by decide +kernel
theorem dX8_contradictedNow_50 : decode cX8_contradictedNow 50 = .ok (.if_icmp .ne 13, 3) := by decide +kernel
theorem dX8_contradictedNow_53 : decode cX8_contradictedNow 53 = .ok (.iload 4, 2) := by decide +kernel
theorem dX8_contradictedNow_55 : decode cX8_contradictedNow 55 = .ok (.iload_n 2, 1) := by decide +kernel
theorem dX8_contradictedNow_56 : decode cX8_contradictedNow 56 = .ok (.if_icmp .ge 7, 3) := by decide +kernel
theorem dX8_contradictedNow_59 : decode cX8_contradictedNow 59 = .ok (.iconst 1, 1) := by decide +kernel
theorem dX8_contradictedNow_60 : decode cX8_contradictedNow 60 = .ok (.goto 4, 3) := by decide +kernel
theorem dX8_contradictedNow_63 : decode cX8_contradictedNow 63 = .ok (.iconst 0, 1) := by decide +kernel
theorem dX8_contradictedNow_64 : decode cX8_contradictedNow 64 = .ok (.iadd, 1) := by decide +kernel
theorem dX8_contradictedNow_65 : decode cX8_contradictedNow 65 = .ok (.istore_n 3, 1) := by decide +kernel
theorem dX8_contradictedNow_66 : decode cX8_contradictedNow 66 = .ok (.iinc 4 1, 3) := by decide +kernel
theorem dX8_contradictedNow_69 : decode cX8_contradictedNow 69 = .ok (.goto (-52), 3) := by decide +kernel
theorem dX8_contradictedNow_72 : decode cX8_contradictedNow 72 = .ok (.aload_n 0, 1) := by decide +kernel
theorem dX8_contradictedNow_73 : decode cX8_contradictedNow 73 = .ok (.iload_n 2, 1) := by decide +kernel
theorem dX8_contradictedNow_74 : decode cX8_contradictedNow 74 = .ok (.invokevirtual 168, 3) := by decide +kernel
theorem dX8_contradictedNow_77 : decode cX8_contradictedNow 77 = .ok (.ifCond .le 10, 3) := by decide +kernel
theorem dX8_contradictedNow_80 : decode cX8_contradictedNow 80 = .ok (.iload_n 3, 1) := by decide +kernel
theorem dX8_contradictedNow_81 : decode cX8_contradictedNow 81 = .ok (.iload_n 1, 1) := by decide +kernel
theorem dX8_contradictedNow_82 : decode cX8_contradictedNow 82 = .ok (.if_icmp .ne 5, 3) := by decide +kernel
theorem dX8_contradictedNow_85 : decode cX8_contradictedNow 85 = .ok (.iload_n 2, 1) := by decide +kernel
theorem dX8_contradictedNow_86 : decode cX8_contradictedNow 86 = .ok (.ireturn, 1) := by decide +kernel
theorem dX8_contradictedNow_87 : decode cX8_contradictedNow 87 = .ok (.iinc 2 1, 3) := by decide +kernel
theorem dX8_contradictedNow_90 : decode cX8_contradictedNow 90 = .ok (.goto (-84), 3) := by decide +kernel
theorem dX8_contradictedNow_93 : decode cX8_contradictedNow 93 = .ok (.iconst (-1), 1) := by decide +kernel
theorem dX8_contradictedNow_94 : decode cX8_contradictedNow 94 = .ok (.ireturn, 1) := by decide +kernel
theorem dX8_contradicted_0 : decode cX8_contradicted 0 = .ok (.aload_n 0, 1) := by decide +kernel
theorem dX8_contradicted_1 : decode cX8_contradicted 1 = .ok (.iload_n 1, 1) := by decide +kernel
theorem dX8_contradicted_2 : decode cX8_contradicted 2 = .ok (.invokevirtual 171, 3) := by decide +kernel
theorem dX8_contradicted_5 : decode cX8_contradicted 5 = .ok (.ireturn, 1) := by decide +kernel
theorem dX8_valleyOf_0 : decode cX8_valleyOf 0 = .ok (.iconst 0, 1) := by decide +kernel
theorem dX8_valleyOf_1 : decode cX8_valleyOf 1 = .ok (.istore_n 1, 1) := by decide +kernel
theorem dX8_valleyOf_2 : decode cX8_valleyOf 2 = .ok (.iconst 1, 1) := by decide +kernel
theorem dX8_valleyOf_3 : decode cX8_valleyOf 3 = .ok (.istore_n 2, 1) := by decide +kernel
theorem dX8_valleyOf_4 : decode cX8_valleyOf 4 = .ok (.iload_n 2, 1) := by decide +kernel
theorem dX8_valleyOf_5 : decode cX8_valleyOf 5 = .ok (.aload_n 0, 1) := by decide +kernel
theorem dX8_valleyOf_6 : decode cX8_valleyOf 6 = .ok (.getfield 174, 3) := by decide +kernel
theorem dX8_valleyOf_9 : decode cX8_valleyOf 9 = .ok (.if_icmp .ge 75, 3) := by decide +kernel
theorem dX8_valleyOf_12 : decode cX8_valleyOf 12 = .ok (.aload_n 0, 1) := by decide +kernel
theorem dX8_valleyOf_13 : decode cX8_valleyOf 13 = .ok (.getfield 46, 3) := by decide +kernel
theorem dX8_valleyOf_16 : decode cX8_valleyOf 16 = .ok (.bipush 8, 2) := by decide +kernel
theorem dX8_valleyOf_18 : decode cX8_valleyOf 18 = .ok (.aload_n 0, 1) := by decide +kernel
theorem dX8_valleyOf_19 : decode cX8_valleyOf 19 = .ok (.getfield 49, 3) := by decide +kernel
theorem dX8_valleyOf_22 : decode cX8_valleyOf 22 = .ok (.iload_n 2, 1) := by decide +kernel
theorem dX8_valleyOf_23 : decode cX8_valleyOf 23 = .ok (.iconst 1, 1) := by decide +kernel
theorem dX8_valleyOf_24 : decode cX8_valleyOf 24 = .ok (.isub, 1) := by decide +kernel
theorem dX8_valleyOf_25 : decode cX8_valleyOf 25 = .ok (.iaload, 1) := by decide +kernel
theorem dX8_valleyOf_26 : decode cX8_valleyOf 26 = .ok (.imul, 1) := by decide +kernel
theorem dX8_valleyOf_27 : decode cX8_valleyOf 27 = .ok (.aload_n 0, 1) := by decide +kernel
theorem dX8_valleyOf_28 : decode cX8_valleyOf 28 = .ok (.getfield 49, 3) := by decide +kernel
theorem dX8_valleyOf_31 : decode cX8_valleyOf 31 = .ok (.iload_n 2, 1) := by decide +kernel
theorem dX8_valleyOf_32 : decode cX8_valleyOf 32 = .ok (.iaload, 1) := by decide +kernel
theorem dX8_valleyOf_33 : decode cX8_valleyOf 33 = .ok (.iadd, 1) := by decide +kernel
theorem dX8_valleyOf_34 : decode cX8_valleyOf 34 = .ok (.iaload, 1) := by decide +kernel
theorem dX8_valleyOf_35 : decode cX8_valleyOf 35 = .ok (.istore_n 3, 1) := by decide +kernel
theorem dX8_valleyOf_36 : decode cX8_valleyOf 36 = .ok (.iload_n 3, 1) := by decide +kernel
theorem dX8_valleyOf_37 : decode cX8_valleyOf 37 = .ok (.ifCond .eq 17, 3) := by decide +kernel
theorem dX8_valleyOf_40 : decode cX8_valleyOf 40 = .ok (.iload_n 1, 1) := by decide +kernel
theorem dX8_valleyOf_41 : decode cX8_valleyOf 41 = .ok (.ifCond .eq 17, 3) := by decide +kernel
theorem dX8_valleyOf_44 : decode cX8_valleyOf 44 = .ok (.iload_n 3, 1) := by decide +kernel
theorem dX8_valleyOf_45 : decode cX8_valleyOf 45 = .ok (.iconst 1, 1) := by decide +kernel
theorem dX8_valleyOf_46 : decode cX8_valleyOf 46 = .ok (.if_icmp .eq 8, 3) := by decide +kernel
theorem dX8_valleyOf_49 : decode cX8_valleyOf 49 = .ok (.iload_n 3, 1) := by decide +kernel
theorem dX8_valleyOf_50 : decode cX8_valleyOf 50 = .ok (.iconst 3, 1) := by decide +kernel
theorem dX8_valleyOf_51 : decode cX8_valleyOf 51 = .ok (.if_icmp .ne 7, 3) := by decide +kernel
theorem dX8_valleyOf_54 : decode cX8_valleyOf 54 = .ok (.iload_n 2, 1) := by decide +kernel
theorem dX8_valleyOf_55 : decode cX8_valleyOf 55 = .ok (.iconst 1, 1) := by decide +kernel
theorem dX8_valleyOf_56 : decode cX8_valleyOf 56 = .ok (.isub, 1) := by decide +kernel
theorem dX8_valleyOf_57 : decode cX8_valleyOf 57 = .ok (.ireturn, 1) := by decide +kernel
theorem dX8_valleyOf_58 : decode cX8_valleyOf 58 = .ok (.iload_n 1, 1) := by decide +kernel
theorem dX8_valleyOf_59 : decode cX8_valleyOf 59 = .ok (.ifCond .ne 13, 3) := by decide +kernel
theorem dX8_valleyOf_62 : decode cX8_valleyOf 62 = .ok (.iload_n 3, 1) := by decide +kernel
theorem dX8_valleyOf_63 : decode cX8_valleyOf 63 = .ok (.iconst 2, 1) := by decide +kernel
theorem dX8_valleyOf_64 : decode cX8_valleyOf 64 = .ok (.if_icmp .eq 8, 3) := by decide +kernel
theorem dX8_valleyOf_67 : decode cX8_valleyOf 67 = .ok (.iload_n 3, 1) := by decide +kernel
theorem dX8_valleyOf_68 : decode cX8_valleyOf 68 = .ok (.iconst 3, 1) := by decide +kernel
theorem dX8_valleyOf_69 : decode cX8_valleyOf 69 = .ok (.if_icmp .ne 7, 3) := by decide +kernel
theorem dX8_valleyOf_72 : decode cX8_valleyOf 72 = .ok (.iconst 1, 1) := by decide +kernel
theorem dX8_valleyOf_73 : decode cX8_valleyOf 73 = .ok (.goto 4, 3) := by decide +kernel
theorem dX8_valleyOf_76 : decode cX8_valleyOf 76 = .ok (.iconst 0, 1) := by decide +kernel
theorem dX8_valleyOf_77 : decode cX8_valleyOf 77 = .ok (.istore_n 1, 1) := by decide +kernel
theorem dX8_valleyOf_78 : decode cX8_valleyOf 78 = .ok (.iinc 2 1, 3) := by decide +kernel
theorem dX8_valleyOf_81 : decode cX8_valleyOf 81 = .ok (.goto (-77), 3) := by decide +kernel
theorem dX8_valleyOf_84 : decode cX8_valleyOf 84 = .ok (.iconst (-1), 1) := by decide +kernel
theorem dX8_valleyOf_85 : decode cX8_valleyOf 85 = .ok (.ireturn, 1) := by decide +kernel
theorem dX8_valleyOfWay_0 : decode cX8_valleyOfWay 0 = .ok (.aload_n 0, 1) := by decide +kernel
theorem dX8_valleyOfWay_1 : decode cX8_valleyOfWay 1 = .ok (.aload_n 0, 1) := by decide +kernel
theorem dX8_valleyOfWay_2 : decode cX8_valleyOfWay 2 = .ok (.getfield 25, 3) := by decide +kernel
theorem dX8_valleyOfWay_5 : decode cX8_valleyOfWay 5 = .ok (.iload_n 1, 1) := by decide +kernel
theorem dX8_valleyOfWay_6 : decode cX8_valleyOfWay 6 = .ok (.iaload, 1) := by decide +kernel
theorem dX8_valleyOfWay_7 : decode cX8_valleyOfWay 7 = .ok (.putfield 174, 3) := by decide +kernel
theorem dX8_valleyOfWay_10 : decode cX8_valleyOfWay 10 = .ok (.iconst 0, 1) := by decide +kernel
theorem dX8_valleyOfWay_11 : decode cX8_valleyOfWay 11 = .ok (.istore_n 2, 1) := by decide +kernel
theorem dX8_valleyOfWay_12 : decode cX8_valleyOfWay 12 = .ok (.iload_n 2, 1) := by decide +kernel
theorem dX8_valleyOfWay_13 : decode cX8_valleyOfWay 13 = .ok (.aload_n 0, 1) := by decide +kernel
theorem dX8_valleyOfWay_14 : decode cX8_valleyOfWay 14 = .ok (.getfield 174, 3) := by decide +kernel
theorem dX8_valleyOfWay_17 : decode cX8_valleyOfWay 17 = .ok (.if_icmp .ge 26, 3) := by decide +kernel
theorem dX8_valleyOfWay_20 : decode cX8_valleyOfWay 20 = .ok (.aload_n 0, 1) := by decide +kernel
theorem dX8_valleyOfWay_21 : decode cX8_valleyOfWay 21 = .ok (.getfield 49, 3) := by decide +kernel
theorem dX8_valleyOfWay_24 : decode cX8_valleyOfWay 24 = .ok (.iload_n 2, 1) := by decide +kernel
theorem dX8_valleyOfWay_25 : decode cX8_valleyOfWay 25 = .ok (.aload_n 0, 1) := by decide +kernel
theorem dX8_valleyOfWay_26 : decode cX8_valleyOfWay 26 = .ok (.getfield 22, 3) := by decide +kernel
theorem dX8_valleyOfWay_29 : decode cX8_valleyOfWay 29 = .ok (.bipush 8, 2) := by decide +kernel
theorem dX8_valleyOfWay_31 : decode cX8_valleyOfWay 31 = .ok (.iload_n 1, 1) := by decide +kernel
theorem dX8_valleyOfWay_32 : decode cX8_valleyOfWay 32 = .ok (.imul, 1) := by decide +kernel
theorem dX8_valleyOfWay_33 : decode cX8_valleyOfWay 33 = .ok (.iload_n 2, 1) := by decide +kernel
theorem dX8_valleyOfWay_34 : decode cX8_valleyOfWay 34 = .ok (.iadd, 1) := by decide +kernel
theorem dX8_valleyOfWay_35 : decode cX8_valleyOfWay 35 = .ok (.iaload, 1) := by decide +kernel
theorem dX8_valleyOfWay_36 : decode cX8_valleyOfWay 36 = .ok (.iastore, 1) := by decide +kernel
theorem dX8_valleyOfWay_37 : decode cX8_valleyOfWay 37 = .ok (.iinc 2 1, 3) := by decide +kernel
theorem dX8_valleyOfWay_40 : decode cX8_valleyOfWay 40 = .ok (.goto (-28), 3) := by decide +kernel
theorem dX8_valleyOfWay_43 : decode cX8_valleyOfWay 43 = .ok (.aload_n 0, 1) := by decide +kernel
theorem dX8_valleyOfWay_44 : decode cX8_valleyOfWay 44 = .ok (.invokevirtual 177, 3) := by decide +kernel
theorem dX8_valleyOfWay_47 : decode cX8_valleyOfWay 47 = .ok (.ireturn, 1) := by decide +kernel
theorem dX8_valley_0 : decode cX8_valley 0 = .ok (.aload_n 0, 1) := by decide +kernel
theorem dX8_valley_1 : decode cX8_valley 1 = .ok (.invokevirtual 71, 3) := by decide +kernel
theorem dX8_valley_4 : decode cX8_valley 4 = .ok (.ifCond .ne 7, 3) := by decide +kernel
theorem dX8_valley_7 : decode cX8_valley 7 = .ok (.sipush (-1003), 3) := by decide +kernel
theorem dX8_valley_10 : decode cX8_valley 10 = .ok (.ireturn, 1) := by decide +kernel
theorem dX8_valley_11 : decode cX8_valley 11 = .ok (.aload_n 0, 1) := by decide +kernel
theorem dX8_valley_12 : decode cX8_valley 12 = .ok (.invokevirtual 149, 3) := by decide +kernel
theorem dX8_valley_15 : decode cX8_valley 15 = .ok (.aload_n 0, 1) := by decide +kernel
theorem dX8_valley_16 : decode cX8_valley 16 = .ok (.aload_n 0, 1) := by decide +kernel
theorem dX8_valley_17 : decode cX8_valley 17 = .ok (.getfield 59, 3) := by decide +kernel
theorem dX8_valley_20 : decode cX8_valley 20 = .ok (.putfield 174, 3) := by decide +kernel
theorem dX8_valley_23 : decode cX8_valley 23 = .ok (.iconst 0, 1) := by decide +kernel
theorem dX8_valley_24 : decode cX8_valley 24 = .ok (.istore_n 1, 1) := by decide +kernel
theorem dX8_valley_25 : decode cX8_valley 25 = .ok (.iload_n 1, 1) := by decide +kernel
theorem dX8_valley_26 : decode cX8_valley 26 = .ok (.aload_n 0, 1) := by decide +kernel
theorem dX8_valley_27 : decode cX8_valley 27 = .ok (.getfield 174, 3) := by decide +kernel
theorem dX8_valley_30 : decode cX8_valley 30 = .ok (.if_icmp .ge 24, 3) := by decide +kernel
theorem dX8_valley_33 : decode cX8_valley 33 = .ok (.aload_n 0, 1) := by decide +kernel
theorem dX8_valley_34 : decode cX8_valley 34 = .ok (.getfield 49, 3) := by decide +kernel
theorem dX8_valley_37 : decode cX8_valley 37 = .ok (.iload_n 1, 1) := by decide +kernel
theorem dX8_valley_38 : decode cX8_valley 38 = .ok (.aload_n 0, 1) := by decide +kernel
theorem dX8_valley_39 : decode cX8_valley 39 = .ok (.getfield 7, 3) := by decide +kernel
theorem dX8_valley_42 : decode cX8_valley 42 = .ok (.iload_n 1, 1) := by decide +kernel
theorem dX8_valley_43 : decode cX8_valley 43 = .ok (.iaload, 1) := by decide +kernel
theorem dX8_valley_44 : decode cX8_valley 44 = .ok (.bipush 48, 2) := by decide +kernel
theorem dX8_valley_46 : decode cX8_valley 46 = .ok (.isub, 1) := by decide +kernel
theorem dX8_valley_47 : decode cX8_valley 47 = .ok (.iastore, 1) := by decide +kernel
theorem dX8_valley_48 : decode cX8_valley 48 = .ok (.iinc 1 1, 3) := by decide +kernel
theorem dX8_valley_51 : decode cX8_valley 51 = .ok (.goto (-26), 3) := by decide +kernel
theorem dX8_valley_54 : decode cX8_valley 54 = .ok (.aload_n 0, 1) := by decide +kernel
theorem dX8_valley_55 : decode cX8_valley 55 = .ok (.invokevirtual 177, 3) := by decide +kernel
theorem dX8_valley_58 : decode cX8_valley 58 = .ok (.ireturn, 1) := by decide +kernel
theorem dX8_seenNow_0 : decode cX8_seenNow 0 = .ok (.aload_n 0, 1) := by decide +kernel
theorem dX8_seenNow_1 : decode cX8_seenNow 1 = .ok (.invokevirtual 149, 3) := by decide +kernel
theorem dX8_seenNow_4 : decode cX8_seenNow 4 = .ok (.iload_n 2, 1) := by decide +kernel
theorem dX8_seenNow_5 : decode cX8_seenNow 5 = .ok (.bipush 9, 2) := by decide +kernel
theorem dX8_seenNow_7 : decode cX8_seenNow 7 = .ok (.if_icmp .le 35, 3) := by decide +kernel
theorem dX8_seenNow_10 : decode cX8_seenNow 10 = .ok (.iload_n 2, 1) := by decide +kernel
theorem dX8_seenNow_11 : decode cX8_seenNow 11 = .ok (.bipush 10, 2) := by decide +kernel
theorem dX8_seenNow_13 : decode cX8_seenNow 13 = .ok (.isub, 1) := by decide +kernel
theorem dX8_seenNow_14 : decode cX8_seenNow 14 = .ok (.aload_n 0, 1) := by decide +kernel
theorem dX8_seenNow_15 : decode cX8_seenNow 15 = .ok (.getfield 25, 3) := by decide +kernel
theorem dX8_seenNow_18 : decode cX8_seenNow 18 = .ok (.iload_n 1, 1) := by decide +kernel
theorem dX8_seenNow_19 : decode cX8_seenNow 19 = .ok (.iaload, 1) := by decide +kernel
theorem dX8_seenNow_20 : decode cX8_seenNow 20 = .ok (.if_icmp .ge 20, 3) := by decide +kernel
theorem dX8_seenNow_23 : decode cX8_seenNow 23 = .ok (.aload_n 0, 1) := by decide +kernel
theorem dX8_seenNow_24 : decode cX8_seenNow 24 = .ok (.getfield 22, 3) := by decide +kernel
theorem dX8_seenNow_27 : decode cX8_seenNow 27 = .ok (.bipush 8, 2) := by decide +kernel
theorem dX8_seenNow_29 : decode cX8_seenNow 29 = .ok (.iload_n 1, 1) := by decide +kernel
theorem dX8_seenNow_30 : decode cX8_seenNow 30 = .ok (.imul, 1) := by decide +kernel
theorem dX8_seenNow_31 : decode cX8_seenNow 31 = .ok (.iload_n 2, 1) := by decide +kernel
theorem dX8_seenNow_32 : decode cX8_seenNow 32 = .ok (.iadd, 1) := by decide +kernel
theorem dX8_seenNow_33 : decode cX8_seenNow 33 = .ok (.bipush 10, 2) := by decide +kernel
theorem dX8_seenNow_35 : decode cX8_seenNow 35 = .ok (.isub, 1) := by decide +kernel
theorem dX8_seenNow_36 : decode cX8_seenNow 36 = .ok (.iaload, 1) := by decide +kernel
theorem dX8_seenNow_37 : decode cX8_seenNow 37 = .ok (.goto 4, 3) := by decide +kernel
theorem dX8_seenNow_40 : decode cX8_seenNow 40 = .ok (.iconst (-1), 1) := by decide +kernel
theorem dX8_seenNow_41 : decode cX8_seenNow 41 = .ok (.ireturn, 1) := by decide +kernel
theorem dX8_seenNow_42 : decode cX8_seenNow 42 = .ok (.iload_n 2, 1) := by decide +kernel
theorem dX8_seenNow_43 : decode cX8_seenNow 43 = .ok (.ifCond .ne 12, 3) := by decide +kernel
theorem dX8_seenNow_46 : decode cX8_seenNow 46 = .ok (.aload_n 0, 1) := by decide +kernel
theorem dX8_seenNow_47 : decode cX8_seenNow 47 = .ok (.getfield 25, 3) := by decide +kernel
theorem dX8_seenNow_50 : decode cX8_seenNow 50 = .ok (.iload_n 1, 1) := by decide +kernel
theorem dX8_seenNow_51 : decode cX8_seenNow 51 = .ok (.iaload, 1) := by decide +kernel
theorem dX8_seenNow_52 : decode cX8_seenNow 52 = .ok (.goto 21, 3) := by decide +kernel
theorem dX8_seenNow_55 : decode cX8_seenNow 55 = .ok (.iload_n 2, 1) := by decide +kernel
theorem dX8_seenNow_56 : decode cX8_seenNow 56 = .ok (.iconst 1, 1) := by decide +kernel
theorem dX8_seenNow_57 : decode cX8_seenNow 57 = .ok (.if_icmp .ne 11, 3) := by decide +kernel
theorem dX8_seenNow_60 : decode cX8_seenNow 60 = .ok (.aload_n 0, 1) := by decide +kernel
theorem dX8_seenNow_61 : decode cX8_seenNow 61 = .ok (.iload_n 1, 1) := by decide +kernel
theorem dX8_seenNow_62 : decode cX8_seenNow 62 = .ok (.invokevirtual 127, 3) := by decide +kernel
theorem dX8_seenNow_65 : decode cX8_seenNow 65 = .ok (.goto 8, 3) := by decide +kernel
theorem dX8_seenNow_68 : decode cX8_seenNow 68 = .ok (.aload_n 0, 1) := by decide +kernel
theorem dX8_seenNow_69 : decode cX8_seenNow 69 = .ok (.iload_n 1, 1) := by decide +kernel
theorem dX8_seenNow_70 : decode cX8_seenNow 70 = .ok (.invokevirtual 180, 3) := by decide +kernel
theorem dX8_seenNow_73 : decode cX8_seenNow 73 = .ok (.ireturn, 1) := by decide +kernel
theorem dX8_seen_0 : decode cX8_seen 0 = .ok (.iload_n 1, 1) := by decide +kernel
theorem dX8_seen_1 : decode cX8_seen 1 = .ok (.iconst 0, 1) := by decide +kernel
theorem dX8_seen_2 : decode cX8_seen 2 = .ok (.aload_n 0, 1) := by decide +kernel
theorem dX8_seen_3 : decode cX8_seen 3 = .ok (.getfield 75, 3) := by decide +kernel
theorem dX8_seen_6 : decode cX8_seen 6 = .ok (.iconst 1, 1) := by decide +kernel
theorem dX8_seen_7 : decode cX8_seen 7 = .ok (.isub, 1) := by decide +kernel
theorem dX8_seen_8 : decode cX8_seen 8 = .ok (.invokestatic 55, 3) := by decide +kernel
theorem dX8_seen_11 : decode cX8_seen 11 = .ok (.ifCond .ne 7, 3) := by decide +kernel
theorem dX8_seen_14 : decode cX8_seen 14 = .ok (.sipush (-1001), 3) := by decide +kernel
theorem dX8_seen_17 : decode cX8_seen 17 = .ok (.ireturn, 1) := by decide +kernel
theorem dX8_seen_18 : decode cX8_seen 18 = .ok (.iload_n 2, 1) := by decide +kernel
theorem dX8_seen_19 : decode cX8_seen 19 = .ok (.iconst 0, 1) := by decide +kernel
theorem dX8_seen_20 : decode cX8_seen 20 = .ok (.iconst 2, 1) := by decide +kernel
theorem dX8_seen_21 : decode cX8_seen 21 = .ok (.invokestatic 55, 3) := by decide +kernel
theorem dX8_seen_24 : decode cX8_seen 24 = .ok (.ifCond .ne 14, 3) := by decide +kernel
theorem dX8_seen_27 : decode cX8_seen 27 = .ok (.iload_n 2, 1) := by decide +kernel
theorem dX8_seen_28 : decode cX8_seen 28 = .ok (.bipush 10, 2) := by decide +kernel
theorem dX8_seen_30 : decode cX8_seen 30 = .ok (.bipush 15, 2) := by decide +kernel
theorem dX8_seen_32 : decode cX8_seen 32 = .ok (.invokestatic 55, 3) := by decide +kernel
theorem dX8_seen_35 : decode cX8_seen 35 = .ok (.ifCond .eq 12, 3) := by decide +kernel
theorem dX8_seen_38 : decode cX8_seen 38 = .ok (.aload_n 0, 1) := by decide +kernel
theorem dX8_seen_39 : decode cX8_seen 39 = .ok (.iload_n 1, 1) := by decide +kernel
theorem dX8_seen_40 : decode cX8_seen 40 = .ok (.iload_n 2, 1) := by decide +kernel
theorem dX8_seen_41 : decode cX8_seen 41 = .ok (.invokevirtual 183, 3) := by decide +kernel
theorem dX8_seen_44 : decode cX8_seen 44 = .ok (.goto 6, 3) := by decide +kernel
theorem dX8_seen_47 : decode cX8_seen 47 = .ok (.sipush (-1002), 3) := by decide +kernel
theorem dX8_seen_50 : decode cX8_seen 50 = .ok (.ireturn, 1) := by decide +kernel
theorem dX8_behind_0 : decode cX8_behind 0 = .ok (.iload_n 0, 1) := by decide +kernel
theorem dX8_behind_1 : decode cX8_behind 1 = .ok (.ifCond .eq 18, 3) := by decide +kernel
theorem dX8_behind_4 : decode cX8_behind 4 = .ok (.iload_n 1, 1) := by decide +kernel
theorem dX8_behind_5 : decode cX8_behind 5 = .ok (.iconst 1, 1) := by decide +kernel
theorem dX8_behind_6 : decode cX8_behind 6 = .ok (.if_icmp .ne 15, 3) := by decide +kernel
theorem dX8_behind_9 : decode cX8_behind 9 = .ok (.iload_n 0, 1) := by decide +kernel
theorem dX8_behind_10 : decode cX8_behind 10 = .ok (.iconst 1, 1) := by decide +kernel
theorem dX8_behind_11 : decode cX8_behind 11 = .ok (.if_icmp .eq 8, 3) := by decide +kernel
theorem dX8_behind_14 : decode cX8_behind 14 = .ok (.iload_n 0, 1) := by decide +kernel
theorem dX8_behind_15 : decode cX8_behind 15 = .ok (.iconst 3, 1) := by decide +kernel
theorem dX8_behind_16 : decode cX8_behind 16 = .ok (.if_icmp .ne 5, 3) := by decide +kernel
theorem dX8_behind_19 : decode cX8_behind 19 = .ok (.iconst (-1), 1) := by decide +kernel
theorem dX8_behind_20 : decode cX8_behind 20 = .ok (.ireturn, 1) := by decide +kernel
theorem dX8_behind_21 : decode cX8_behind 21 = .ok (.iload_n 1, 1) := by decide +kernel
theorem dX8_behind_22 : decode cX8_behind 22 = .ok (.iconst 1, 1) := by decide +kernel
theorem dX8_behind_23 : decode cX8_behind 23 = .ok (.if_icmp .eq 13, 3) := by decide +kernel
theorem dX8_behind_26 : decode cX8_behind 26 = .ok (.iload_n 0, 1) := by decide +kernel
theorem dX8_behind_27 : decode cX8_behind 27 = .ok (.iconst 2, 1) := by decide +kernel
theorem dX8_behind_28 : decode cX8_behind 28 = .ok (.if_icmp .eq 8, 3) := by decide +kernel
theorem dX8_behind_31 : decode cX8_behind 31 = .ok (.iload_n 0, 1) := by decide +kernel
theorem dX8_behind_32 : decode cX8_behind 32 = .ok (.iconst 3, 1) := by decide +kernel
theorem dX8_behind_33 : decode cX8_behind 33 = .ok (.if_icmp .ne 7, 3) := by decide +kernel
theorem dX8_behind_36 : decode cX8_behind 36 = .ok (.iconst 1, 1) := by decide +kernel
theorem dX8_behind_37 : decode cX8_behind 37 = .ok (.goto 4, 3) := by decide +kernel
theorem dX8_behind_40 : decode cX8_behind 40 = .ok (.iconst 0, 1) := by decide +kernel
theorem dX8_behind_41 : decode cX8_behind 41 = .ok (.ireturn, 1) := by decide +kernel
theorem dX8_layFar_0 : decode cX8_layFar 0 = .ok (.iconst 0, 1) := by decide +kernel
theorem dX8_layFar_1 : decode cX8_layFar 1 = .ok (.istore_n 2, 1) := by decide +kernel
theorem dX8_layFar_2 : decode cX8_layFar 2 = .ok (.iload_n 2, 1) := by decide +kernel
theorem dX8_layFar_3 : decode cX8_layFar 3 = .ok (.bipush 16, 2) := by decide +kernel
theorem dX8_layFar_5 : decode cX8_layFar 5 = .ok (.if_icmp .ge 29, 3) := by decide +kernel
theorem dX8_layFar_8 : decode cX8_layFar 8 = .ok (.aload_n 0, 1) := by decide +kernel
theorem dX8_layFar_9 : decode cX8_layFar 9 = .ok (.getfield 52, 3) := by decide +kernel
theorem dX8_layFar_12 : decode cX8_layFar 12 = .ok (.iload_n 2, 1) := by decide +kernel
theorem dX8_layFar_13 : decode cX8_layFar 13 = .ok (.iload_n 2, 1) := by decide +kernel
theorem dX8_layFar_14 : decode cX8_layFar 14 = .ok (.bipush 8, 2) := by decide +kernel
theorem dX8_layFar_16 : decode cX8_layFar 16 = .ok (.irem, 1) := by decide +kernel
theorem dX8_layFar_17 : decode cX8_layFar 17 = .ok (.iload_n 1, 1) := by decide +kernel
theorem dX8_layFar_18 : decode cX8_layFar 18 = .ok (.if_icmp .ne 7, 3) := by decide +kernel
theorem dX8_layFar_21 : decode cX8_layFar 21 = .ok (.iconst 0, 1) := by decide +kernel
theorem dX8_layFar_22 : decode cX8_layFar 22 = .ok (.goto 5, 3) := by decide +kernel
theorem dX8_layFar_25 : decode cX8_layFar 25 = .ok (.bipush 99, 2) := by decide +kernel
theorem dX8_layFar_27 : decode cX8_layFar 27 = .ok (.iastore, 1) := by decide +kernel
theorem dX8_layFar_28 : decode cX8_layFar 28 = .ok (.iinc 2 1, 3) := by decide +kernel
theorem dX8_layFar_31 : decode cX8_layFar 31 = .ok (.goto (-29), 3) := by decide +kernel
theorem dX8_layFar_34 : decode cX8_layFar 34 = .ok (.iconst 0, 1) := by decide +kernel
theorem dX8_layFar_35 : decode cX8_layFar 35 = .ok (.istore_n 2, 1) := by decide +kernel
theorem dX8_layFar_36 : decode cX8_layFar 36 = .ok (.iload_n 2, 1) := by decide +kernel
theorem dX8_layFar_37 : decode cX8_layFar 37 = .ok (.bipush 16, 2) := by decide +kernel
theorem dX8_layFar_39 : decode cX8_layFar 39 = .ok (.if_icmp .ge 119, 3) := by decide +kernel
theorem dX8_layFar_42 : decode cX8_layFar 42 = .ok (.iconst 0, 1) := by decide +kernel
theorem dX8_layFar_43 : decode cX8_layFar 43 = .ok (.istore_n 3, 1) := by decide +kernel
theorem dX8_layFar_44 : decode cX8_layFar 44 = .ok (.iload_n 3, 1) := by decide +kernel
theorem dX8_layFar_45 : decode cX8_layFar 45 = .ok (.bipush 16, 2) := by decide +kernel
theorem dX8_layFar_47 : decode cX8_layFar 47 = .ok (.if_icmp .ge 105, 3) := by decide +kernel
theorem dX8_layFar_50 : decode cX8_layFar 50 = .ok (.iconst 0, 1) := by decide +kernel
theorem dX8_layFar_51 : decode cX8_layFar 51 = .ok (.istore 4, 2) := by decide +kernel
theorem dX8_layFar_53 : decode cX8_layFar 53 = .ok (.iload 4, 2) := by decide +kernel
theorem dX8_layFar_55 : decode cX8_layFar 55 = .ok (.bipush 8, 2) := by decide +kernel
theorem dX8_layFar_57 : decode cX8_layFar 57 = .ok (.if_icmp .ge 89, 3) := by decide +kernel
theorem dX8_layFar_60 : decode cX8_layFar 60 = .ok (.aload_n 0, 1) := by decide +kernel
theorem dX8_layFar_61 : decode cX8_layFar 61 = .ok (.getfield 46, 3) := by decide +kernel
theorem dX8_layFar_64 : decode cX8_layFar 64 = .ok (.bipush 8, 2) := by decide +kernel
theorem dX8_layFar_66 : decode cX8_layFar 66 = .ok (.iload_n 3, 1) := by decide +kernel
theorem dX8_layFar_67 : decode cX8_layFar 67 = .ok (.bipush 8, 2) := by decide +kernel
theorem dX8_layFar_69 : decode cX8_layFar 69 = .ok (.irem, 1) := by decide +kernel
theorem dX8_layFar_70 : decode cX8_layFar 70 = .ok (.imul, 1) := by decide +kernel
theorem dX8_layFar_71 : decode cX8_layFar 71 = .ok (.iload 4, 2) := by decide +kernel
theorem dX8_layFar_73 : decode cX8_layFar 73 = .ok (.iadd, 1) := by decide +kernel
theorem dX8_layFar_74 : decode cX8_layFar 74 = .ok (.iaload, 1) := by decide +kernel
theorem dX8_layFar_75 : decode cX8_layFar 75 = .ok (.iload_n 3, 1) := by decide +kernel
theorem dX8_layFar_76 : decode cX8_layFar 76 = .ok (.bipush 8, 2) := by decide +kernel
theorem dX8_layFar_78 : decode cX8_layFar 78 = .ok (.idiv, 1) := by decide +kernel
theorem dX8_layFar_79 : decode cX8_layFar 79 = .ok (.invokestatic 186, 3) := by decide +kernel
theorem dX8_layFar_82 : decode cX8_layFar 82 = .ok (.istore 5, 2) := by decide +kernel
theorem dX8_layFar_84 : decode cX8_layFar 84 = .ok (.iload 5, 2) := by decide +kernel
theorem dX8_layFar_86 : decode cX8_layFar 86 = .ok (.iconst (-1), 1) := by decide +kernel
theorem dX8_layFar_87 : decode cX8_layFar 87 = .ok (.if_icmp .ne 8, 3) := by decide +kernel
theorem dX8_layFar_90 : decode cX8_layFar 90 = .ok (.bipush 99, 2) := by decide +kernel
theorem dX8_layFar_92 : decode cX8_layFar 92 = .ok (.goto 18, 3) := by decide +kernel
theorem dX8_layFar_95 : decode cX8_layFar 95 = .ok (.aload_n 0, 1) := by decide +kernel
theorem dX8_layFar_96 : decode cX8_layFar 96 = .ok (.getfield 52, 3) := by decide +kernel
theorem dX8_layFar_99 : decode cX8_layFar 99 = .ok (.bipush 8, 2) := by decide +kernel
theorem dX8_layFar_101 : decode cX8_layFar 101 = .ok (.iload 5, 2) := by decide +kernel
theorem dX8_layFar_103 : decode cX8_layFar 103 = .ok (.imul, 1) := by decide +kernel
theorem dX8_layFar_104 : decode cX8_layFar 104 = .ok (.iload 4, 2) := by decide +kernel
theorem dX8_layFar_106 : decode cX8_layFar 106 = .ok (.iadd, 1) := by decide +kernel
theorem dX8_layFar_107 : decode cX8_layFar 107 = .ok (.iaload, 1) := by decide +kernel
theorem dX8_layFar_108 : decode cX8_layFar 108 = .ok (.iconst 1, 1) := by decide +kernel
theorem dX8_layFar_109 : decode cX8_layFar 109 = .ok (.iadd, 1) := by decide +kernel
theorem dX8_layFar_110 : decode cX8_layFar 110 = .ok (.istore 6, 2) := by decide +kernel
theorem dX8_layFar_112 : decode cX8_layFar 112 = .ok (.aload_n 0, 1) := by decide +kernel
theorem dX8_layFar_113 : decode cX8_layFar 113 = .ok (.getfield 52, 3) := by decide +kernel
theorem dX8_layFar_116 : decode cX8_layFar 116 = .ok (.iload_n 3, 1) := by decide +kernel
theorem dX8_layFar_117 : decode cX8_layFar 117 = .ok (.iload 6, 2) := by decide +kernel
theorem dX8_layFar_119 : decode cX8_layFar 119 = .ok (.aload_n 0, 1) := by decide +kernel
theorem dX8_layFar_120 : decode cX8_layFar 120 = .ok (.getfield 52, 3) := by decide +kernel
theorem dX8_layFar_123 : decode cX8_layFar 123 = .ok (.iload_n 3, 1) := by decide +kernel
theorem dX8_layFar_124 : decode cX8_layFar 124 = .ok (.iaload, 1) := by decide +kernel
theorem dX8_layFar_125 : decode cX8_layFar 125 = .ok (.if_icmp .ge 8, 3) := by decide +kernel
theorem dX8_layFar_128 : decode cX8_layFar 128 = .ok (.iload 6, 2) := by decide +kernel
theorem dX8_layFar_130 : decode cX8_layFar 130 = .ok (.goto 9, 3) := by decide +kernel
theorem dX8_layFar_133 : decode cX8_layFar 133 = .ok (.aload_n 0, 1) := by decide +kernel
theorem dX8_layFar_134 : decode cX8_layFar 134 = .ok (.getfield 52, 3) := by decide +kernel
theorem dX8_layFar_137 : decode cX8_layFar 137 = .ok (.iload_n 3, 1) := by decide +kernel
theorem dX8_layFar_138 : decode cX8_layFar 138 = .ok (.iaload, 1) := by decide +kernel
theorem dX8_layFar_139 : decode cX8_layFar 139 = .ok (.iastore, 1) := by decide +kernel
theorem dX8_layFar_140 : decode cX8_layFar 140 = .ok (.iinc 4 1, 3) := by decide +kernel
theorem dX8_layFar_143 : decode cX8_layFar 143 = .ok (.goto (-90), 3) := by decide +kernel
theorem dX8_layFar_146 : decode cX8_layFar 146 = .ok (.iinc 3 1, 3) := by decide +kernel
theorem dX8_layFar_149 : decode cX8_layFar 149 = .ok (.goto (-105), 3) := by decide +kernel
theorem dX8_layFar_152 : decode cX8_layFar 152 = .ok (.iinc 2 1, 3) := by decide +kernel
theorem dX8_layFar_155 : decode cX8_layFar 155 = .ok (.goto (-119), 3) := by decide +kernel
theorem dX8_layFar_158 : decode cX8_layFar 158 = .ok (.return_, 1) := by decide +kernel
theorem dX8_nearNow_0 : decode cX8_nearNow 0 = .ok (.aload_n 0, 1) := by decide +kernel
theorem dX8_nearNow_1 : decode cX8_nearNow 1 = .ok (.invokevirtual 149, 3) := by decide +kernel
theorem dX8_nearNow_4 : decode cX8_nearNow 4 = .ok (.iload_n 1, 1) := by decide +kernel
theorem dX8_nearNow_5 : decode cX8_nearNow 5 = .ok (.iload_n 2, 1) := by decide +kernel
theorem dX8_nearNow_6 : decode cX8_nearNow 6 = .ok (.if_icmp .ne 24, 3) := by decide +kernel
theorem dX8_nearNow_9 : decode cX8_nearNow 9 = .ok (.iload_n 3, 1) := by decide +kernel
theorem dX8_nearNow_10 : decode cX8_nearNow 10 = .ok (.ifCond .ne 18, 3) := by decide +kernel
theorem dX8_nearNow_13 : decode cX8_nearNow 13 = .ok (.aload_n 0, 1) := by decide +kernel
theorem dX8_nearNow_14 : decode cX8_nearNow 14 = .ok (.getfield 99, 3) := by decide +kernel
theorem dX8_nearNow_17 : decode cX8_nearNow 17 = .ok (.iload_n 1, 1) := by decide +kernel
theorem dX8_nearNow_18 : decode cX8_nearNow 18 = .ok (.invokestatic 102, 3) := by decide +kernel
theorem dX8_nearNow_21 : decode cX8_nearNow 21 = .ok (.ifCond .eq 7, 3) := by decide +kernel
theorem dX8_nearNow_24 : decode cX8_nearNow 24 = .ok (.iconst 0, 1) := by decide +kernel
theorem dX8_nearNow_25 : decode cX8_nearNow 25 = .ok (.goto 4, 3) := by decide +kernel
theorem dX8_nearNow_28 : decode cX8_nearNow 28 = .ok (.iconst (-1), 1) := by decide +kernel
theorem dX8_nearNow_29 : decode cX8_nearNow 29 = .ok (.ireturn, 1) := by decide +kernel
theorem dX8_nearNow_30 : decode cX8_nearNow 30 = .ok (.aload_n 0, 1) := by decide +kernel
theorem dX8_nearNow_31 : decode cX8_nearNow 31 = .ok (.iload_n 2, 1) := by decide +kernel
theorem dX8_nearNow_32 : decode cX8_nearNow 32 = .ok (.invokevirtual 189, 3) := by decide +kernel
theorem dX8_nearNow_35 : decode cX8_nearNow 35 = .ok (.aload_n 0, 1) := by decide +kernel
theorem dX8_nearNow_36 : decode cX8_nearNow 36 = .ok (.getfield 52, 3) := by decide +kernel
theorem dX8_nearNow_39 : decode cX8_nearNow 39 = .ok (.iload_n 1, 1) := by decide +kernel
theorem dX8_nearNow_40 : decode cX8_nearNow 40 = .ok (.iaload, 1) := by decide +kernel
theorem dX8_nearNow_41 : decode cX8_nearNow 41 = .ok (.bipush 99, 2) := by decide +kernel
theorem dX8_nearNow_43 : decode cX8_nearNow 43 = .ok (.if_icmp .lt 5, 3) := by decide +kernel
theorem dX8_nearNow_46 : decode cX8_nearNow 46 = .ok (.iconst (-1), 1) := by decide +kernel
theorem dX8_nearNow_47 : decode cX8_nearNow 47 = .ok (.ireturn, 1) := by decide +kernel
theorem dX8_nearNow_48 : decode cX8_nearNow 48 = .ok (.iconst 0, 1) := by decide +kernel
theorem dX8_nearNow_49 : decode cX8_nearNow 49 = .ok (.istore 4, 2) := by decide +kernel
theorem dX8_nearNow_51 : decode cX8_nearNow 51 = .ok (.iload 4, 2) := by decide +kernel
theorem dX8_nearNow_53 : decode cX8_nearNow 53 = .ok (.bipush 8, 2) := by decide +kernel
theorem dX8_nearNow_55 : decode cX8_nearNow 55 = .ok (.if_icmp .ge 65, 3) := by decide +kernel
theorem dX8_nearNow_58 : decode cX8_nearNow 58 = .ok (.iload_n 3, 1) := by decide +kernel
theorem dX8_nearNow_59 : decode cX8_nearNow 59 = .ok (.iconst 1, 1) := by decide +kernel
theorem dX8_nearNow_60 : decode cX8_nearNow 60 = .ok (.if_icmp .ne 60, 3) := by decide +kernel
theorem dX8_nearNow_63 : decode cX8_nearNow 63 = .ok (.aload_n 0, 1) := by decide +kernel
theorem dX8_nearNow_64 : decode cX8_nearNow 64 = .ok (.getfield 46, 3) := by decide +kernel
theorem dX8_nearNow_67 : decode cX8_nearNow 67 = .ok (.bipush 8, 2) := by decide +kernel
theorem dX8_nearNow_69 : decode cX8_nearNow 69 = .ok (.iload_n 1, 1) := by decide +kernel
theorem dX8_nearNow_70 : decode cX8_nearNow 70 = .ok (.imul, 1) := by decide +kernel
theorem dX8_nearNow_71 : decode cX8_nearNow 71 = .ok (.iload 4, 2) := by decide +kernel
theorem dX8_nearNow_73 : decode cX8_nearNow 73 = .ok (.iadd, 1) := by decide +kernel
theorem dX8_nearNow_74 : decode cX8_nearNow 74 = .ok (.iaload, 1) := by decide +kernel
theorem dX8_nearNow_75 : decode cX8_nearNow 75 = .ok (.iconst 0, 1) := by decide +kernel
theorem dX8_nearNow_76 : decode cX8_nearNow 76 = .ok (.invokestatic 186, 3) := by decide +kernel
theorem dX8_nearNow_79 : decode cX8_nearNow 79 = .ok (.istore 5, 2) := by decide +kernel
theorem dX8_nearNow_81 : decode cX8_nearNow 81 = .ok (.iload 5, 2) := by decide +kernel
theorem dX8_nearNow_83 : decode cX8_nearNow 83 = .ok (.iconst (-1), 1) := by decide +kernel
theorem dX8_nearNow_84 : decode cX8_nearNow 84 = .ok (.if_icmp .eq 30, 3) := by decide +kernel
theorem dX8_nearNow_87 : decode cX8_nearNow 87 = .ok (.aload_n 0, 1) := by decide +kernel
theorem dX8_nearNow_88 : decode cX8_nearNow 88 = .ok (.getfield 52, 3) := by decide +kernel
theorem dX8_nearNow_91 : decode cX8_nearNow 91 = .ok (.bipush 8, 2) := by decide +kernel
theorem dX8_nearNow_93 : decode cX8_nearNow 93 = .ok (.iload 5, 2) := by decide +kernel
theorem dX8_nearNow_95 : decode cX8_nearNow 95 = .ok (.imul, 1) := by decide +kernel
theorem dX8_nearNow_96 : decode cX8_nearNow 96 = .ok (.iload 4, 2) := by decide +kernel
theorem dX8_nearNow_98 : decode cX8_nearNow 98 = .ok (.iadd, 1) := by decide +kernel
theorem dX8_nearNow_99 : decode cX8_nearNow 99 = .ok (.iaload, 1) := by decide +kernel
theorem dX8_nearNow_100 : decode cX8_nearNow 100 = .ok (.iconst 1, 1) := by decide +kernel
theorem dX8_nearNow_101 : decode cX8_nearNow 101 = .ok (.iadd, 1) := by decide +kernel
theorem dX8_nearNow_102 : decode cX8_nearNow 102 = .ok (.aload_n 0, 1) := by decide +kernel
theorem dX8_nearNow_103 : decode cX8_nearNow 103 = .ok (.getfield 52, 3) := by decide +kernel
theorem dX8_nearNow_106 : decode cX8_nearNow 106 = .ok (.iload_n 1, 1) := by decide +kernel
theorem dX8_nearNow_107 : decode cX8_nearNow 107 = .ok (.iaload, 1) := by decide +kernel
theorem dX8_nearNow_108 : decode cX8_nearNow 108 = .ok (.if_icmp .ne 6, 3) := by decide +kernel
theorem dX8_nearNow_111 : decode cX8_nearNow 111 = .ok (.iload 4, 2) := by decide +kernel
theorem dX8_nearNow_113 : decode cX8_nearNow 113 = .ok (.ireturn, 1) := by decide +kernel
theorem dX8_nearNow_114 : decode cX8_nearNow 114 = .ok (.iinc 4 1, 3) := by decide +kernel
theorem dX8_nearNow_117 : decode cX8_nearNow 117 = .ok (.goto (-66), 3) := by decide +kernel
theorem dX8_nearNow_120 : decode cX8_nearNow 120 = .ok (.aload_n 0, 1) := by decide +kernel
theorem dX8_nearNow_121 : decode cX8_nearNow 121 = .ok (.getfield 52, 3) := by decide +kernel
theorem dX8_nearNow_124 : decode cX8_nearNow 124 = .ok (.iload_n 1, 1) := by decide +kernel
theorem dX8_nearNow_125 : decode cX8_nearNow 125 = .ok (.iaload, 1) := by decide +kernel
theorem dX8_nearNow_126 : decode cX8_nearNow 126 = .ok (.ireturn, 1) := by decide +kernel
theorem dX8_near_0 : decode cX8_near 0 = .ok (.iload_n 1, 1) := by decide +kernel
theorem dX8_near_1 : decode cX8_near 1 = .ok (.invokestatic 85, 3) := by decide +kernel
theorem dX8_near_4 : decode cX8_near 4 = .ok (.ifCond .eq 10, 3) := by decide +kernel
theorem dX8_near_7 : decode cX8_near 7 = .ok (.iload_n 2, 1) := by decide +kernel
theorem dX8_near_8 : decode cX8_near 8 = .ok (.invokestatic 85, 3) := by decide +kernel
theorem dX8_near_11 : decode cX8_near 11 = .ok (.ifCond .ne 7, 3) := by decide +kernel
theorem dX8_near_14 : decode cX8_near 14 = .ok (.sipush (-1001), 3) := by decide +kernel
theorem dX8_near_17 : decode cX8_near 17 = .ok (.ireturn, 1) := by decide +kernel
theorem dX8_near_18 : decode cX8_near 18 = .ok (.iload_n 3, 1) := by decide +kernel
theorem dX8_near_19 : decode cX8_near 19 = .ok (.iconst 0, 1) := by decide +kernel
theorem dX8_near_20 : decode cX8_near 20 = .ok (.iconst 1, 1) := by decide +kernel
theorem dX8_near_21 : decode cX8_near 21 = .ok (.invokestatic 55, 3) := by decide +kernel
theorem dX8_near_24 : decode cX8_near 24 = .ok (.ifCond .eq 13, 3) := by decide +kernel
theorem dX8_near_27 : decode cX8_near 27 = .ok (.aload_n 0, 1) := by decide +kernel
theorem dX8_near_28 : decode cX8_near 28 = .ok (.iload_n 1, 1) := by decide +kernel
theorem dX8_near_29 : decode cX8_near 29 = .ok (.iload_n 2, 1) := by decide +kernel
theorem dX8_near_30 : decode cX8_near 30 = .ok (.iload_n 3, 1) := by decide +kernel
theorem dX8_near_31 : decode cX8_near 31 = .ok (.invokevirtual 193, 3) := by decide +kernel
theorem dX8_near_34 : decode cX8_near 34 = .ok (.goto 6, 3) := by decide +kernel
theorem dX8_near_37 : decode cX8_near 37 = .ok (.sipush (-1002), 3) := by decide +kernel
theorem dX8_near_40 : decode cX8_near 40 = .ok (.ireturn, 1) := by decide +kernel
theorem dX8_linksOf_0 : decode cX8_linksOf 0 = .ok (.iconst 0, 1) := by decide +kernel
theorem dX8_linksOf_1 : decode cX8_linksOf 1 = .ok (.istore_n 2, 1) := by decide +kernel
theorem dX8_linksOf_2 : decode cX8_linksOf 2 = .ok (.iconst 0, 1) := by decide +kernel
theorem dX8_linksOf_3 : decode cX8_linksOf 3 = .ok (.istore_n 3, 1) := by decide +kernel
theorem dX8_linksOf_4 : decode cX8_linksOf 4 = .ok (.iload_n 3, 1) := by decide +kernel
theorem dX8_linksOf_5 : decode cX8_linksOf 5 = .ok (.bipush 64, 2) := by decide +kernel
theorem dX8_linksOf_7 : decode cX8_linksOf 7 = .ok (.if_icmp .ge 187, 3) := by decide +kernel
theorem dX8_linksOf_10 : decode cX8_linksOf 10 = .ok (.iload_n 3, 1) := by decide +kernel
theorem dX8_linksOf_11 : decode cX8_linksOf 11 = .ok (.bipush 8, 2) := by decide +kernel
theorem dX8_linksOf_13 : decode cX8_linksOf 13 = .ok (.idiv, 1) := by decide +kernel
theorem dX8_linksOf_14 : decode cX8_linksOf 14 = .ok (.iload_n 3, 1) := by decide +kernel
theorem dX8_linksOf_15 : decode cX8_linksOf 15 = .ok (.bipush 8, 2) := by decide +kernel
theorem dX8_linksOf_17 : decode cX8_linksOf 17 = .ok (.irem, 1) := by decide +kernel
theorem dX8_linksOf_18 : decode cX8_linksOf 18 = .ok (.if_icmp .ge 16, 3) := by decide +kernel
theorem dX8_linksOf_21 : decode cX8_linksOf 21 = .ok (.aload_n 0, 1) := by decide +kernel
theorem dX8_linksOf_22 : decode cX8_linksOf 22 = .ok (.getfield 46, 3) := by decide +kernel
theorem dX8_linksOf_25 : decode cX8_linksOf 25 = .ok (.iload_n 3, 1) := by decide +kernel
theorem dX8_linksOf_26 : decode cX8_linksOf 26 = .ok (.iaload, 1) := by decide +kernel
theorem dX8_linksOf_27 : decode cX8_linksOf 27 = .ok (.ifCond .le 7, 3) := by decide +kernel
theorem dX8_linksOf_30 : decode cX8_linksOf 30 = .ok (.iconst 1, 1) := by decide +kernel
theorem dX8_linksOf_31 : decode cX8_linksOf 31 = .ok (.goto 4, 3) := by decide +kernel
theorem dX8_linksOf_34 : decode cX8_linksOf 34 = .ok (.iconst 0, 1) := by decide +kernel
theorem dX8_linksOf_35 : decode cX8_linksOf 35 = .ok (.istore 4, 2) := by decide +kernel
theorem dX8_linksOf_37 : decode cX8_linksOf 37 = .ok (.iload_n 1, 1) := by decide +kernel
theorem dX8_linksOf_38 : decode cX8_linksOf 38 = .ok (.iconst 1, 1) := by decide +kernel
theorem dX8_linksOf_39 : decode cX8_linksOf 39 = .ok (.if_icmp .eq 61, 3) := by decide +kernel
theorem dX8_linksOf_42 : decode cX8_linksOf 42 = .ok (.iload_n 1, 1) := by decide +kernel
theorem dX8_linksOf_43 : decode cX8_linksOf 43 = .ok (.iconst 2, 1) := by decide +kernel
theorem dX8_linksOf_44 : decode cX8_linksOf 44 = .ok (.if_icmp .ne 13, 3) := by decide +kernel
theorem dX8_linksOf_47 : decode cX8_linksOf 47 = .ok (.aload_n 0, 1) := by decide +kernel
theorem dX8_linksOf_48 : decode cX8_linksOf 48 = .ok (.getfield 46, 3) := by decide +kernel
theorem dX8_linksOf_51 : decode cX8_linksOf 51 = .ok (.iload_n 3, 1) := by decide +kernel
theorem dX8_linksOf_52 : decode cX8_linksOf 52 = .ok (.iaload, 1) := by decide +kernel
theorem dX8_linksOf_53 : decode cX8_linksOf 53 = .ok (.iconst 3, 1) := by decide +kernel
theorem dX8_linksOf_54 : decode cX8_linksOf 54 = .ok (.if_icmp .lt 46, 3) := by decide +kernel
theorem dX8_linksOf_57 : decode cX8_linksOf 57 = .ok (.iload_n 1, 1) := by decide +kernel
theorem dX8_linksOf_58 : decode cX8_linksOf 58 = .ok (.iconst 3, 1) := by decide +kernel
theorem dX8_linksOf_59 : decode cX8_linksOf 59 = .ok (.if_icmp .ne 13, 3) := by decide +kernel
theorem dX8_linksOf_62 : decode cX8_linksOf 62 = .ok (.aload_n 0, 1) := by decide +kernel
theorem dX8_linksOf_63 : decode cX8_linksOf 63 = .ok (.getfield 46, 3) := by decide +kernel
theorem dX8_linksOf_66 : decode cX8_linksOf 66 = .ok (.iload_n 3, 1) := by decide +kernel
theorem dX8_linksOf_67 : decode cX8_linksOf 67 = .ok (.iaload, 1) := by decide +kernel
theorem dX8_linksOf_68 : decode cX8_linksOf 68 = .ok (.iconst 3, 1) := by decide +kernel
theorem dX8_linksOf_69 : decode cX8_linksOf 69 = .ok (.if_icmp .eq 31, 3) := by decide +kernel
theorem dX8_linksOf_72 : decode cX8_linksOf 72 = .ok (.iload_n 1, 1) := by decide +kernel
theorem dX8_linksOf_73 : decode cX8_linksOf 73 = .ok (.iconst 4, 1) := by decide +kernel
theorem dX8_linksOf_74 : decode cX8_linksOf 74 = .ok (.if_icmp .ne 13, 3) := by decide +kernel
theorem dX8_linksOf_77 : decode cX8_linksOf 77 = .ok (.aload_n 0, 1) := by decide +kernel
theorem dX8_linksOf_78 : decode cX8_linksOf 78 = .ok (.getfield 46, 3) := by decide +kernel
theorem dX8_linksOf_81 : decode cX8_linksOf 81 = .ok (.iload_n 3, 1) := by decide +kernel
theorem dX8_linksOf_82 : decode cX8_linksOf 82 = .ok (.iaload, 1) := by decide +kernel
theorem dX8_linksOf_83 : decode cX8_linksOf 83 = .ok (.iconst 4, 1) := by decide +kernel
theorem dX8_linksOf_84 : decode cX8_linksOf 84 = .ok (.if_icmp .eq 16, 3) := by decide +kernel
theorem dX8_linksOf_87 : decode cX8_linksOf 87 = .ok (.iload_n 1, 1) := by decide +kernel
theorem dX8_linksOf_88 : decode cX8_linksOf 88 = .ok (.iconst 5, 1) := by decide +kernel
theorem dX8_linksOf_89 : decode cX8_linksOf 89 = .ok (.if_icmp .ne 15, 3) := by decide +kernel
theorem dX8_linksOf_92 : decode cX8_linksOf 92 = .ok (.aload_n 0, 1) := by decide +kernel
theorem dX8_linksOf_93 : decode cX8_linksOf 93 = .ok (.iload_n 3, 1) := by decide +kernel
theorem dX8_linksOf_94 : decode cX8_linksOf 94 = .ok (.invokevirtual 168, 3) := by decide +kernel
theorem dX8_linksOf_97 : decode cX8_linksOf 97 = .ok (.ifCond .le 7, 3) := by decide +kernel
theorem dX8_linksOf_100 : decode cX8_linksOf 100 = .ok (.iconst 1, 1) := by decide +kernel
theorem dX8_linksOf_101 : decode cX8_linksOf 101 = .ok (.goto 4, 3) := by decide +kernel
theorem dX8_linksOf_104 : decode cX8_linksOf 104 = .ok (.iconst 0, 1) := by decide +kernel
theorem dX8_linksOf_105 : decode cX8_linksOf 105 = .ok (.istore 5, 2) := by decide +kernel
theorem dX8_linksOf_107 : decode cX8_linksOf 107 = .ok (.iload_n 1, 1) := by decide +kernel
theorem dX8_linksOf_108 : decode cX8_linksOf 108 = .ok (.bipush 7, 2) := by decide +kernel
theorem dX8_linksOf_110 : decode cX8_linksOf 110 = .ok (.if_icmp .ne 18, 3) := by decide +kernel
theorem dX8_linksOf_113 : decode cX8_linksOf 113 = .ok (.aload_n 0, 1) := by decide +kernel
theorem dX8_linksOf_114 : decode cX8_linksOf 114 = .ok (.getfield 19, 3) := by decide +kernel
theorem dX8_linksOf_117 : decode cX8_linksOf 117 = .ok (.iload_n 3, 1) := by decide +kernel
theorem dX8_linksOf_118 : decode cX8_linksOf 118 = .ok (.iaload, 1) := by decide +kernel
theorem dX8_linksOf_119 : decode cX8_linksOf 119 = .ok (.aload_n 0, 1) := by decide +kernel
theorem dX8_linksOf_120 : decode cX8_linksOf 120 = .ok (.getfield 46, 3) := by decide +kernel
theorem dX8_linksOf_123 : decode cX8_linksOf 123 = .ok (.iload_n 3, 1) := by decide +kernel
theorem dX8_linksOf_124 : decode cX8_linksOf 124 = .ok (.iaload, 1) := by decide +kernel
theorem dX8_linksOf_125 : decode cX8_linksOf 125 = .ok (.if_icmp .eq 33, 3) := by decide +kernel
theorem dX8_linksOf_128 : decode cX8_linksOf 128 = .ok (.iload_n 1, 1) := by decide +kernel
theorem dX8_linksOf_129 : decode cX8_linksOf 129 = .ok (.bipush 8, 2) := by decide +kernel
theorem dX8_linksOf_131 : decode cX8_linksOf 131 = .ok (.if_icmp .ne 31, 3) := by decide +kernel
theorem dX8_linksOf_134 : decode cX8_linksOf 134 = .ok (.aload_n 0, 1) := by decide +kernel
theorem dX8_linksOf_135 : decode cX8_linksOf 135 = .ok (.getfield 19, 3) := by decide +kernel
theorem dX8_linksOf_138 : decode cX8_linksOf 138 = .ok (.iload_n 3, 1) := by decide +kernel
theorem dX8_linksOf_139 : decode cX8_linksOf 139 = .ok (.iaload, 1) := by decide +kernel
theorem dX8_linksOf_140 : decode cX8_linksOf 140 = .ok (.ifCond .le 22, 3) := by decide +kernel
theorem dX8_linksOf_143 : decode cX8_linksOf 143 = .ok (.aload_n 0, 1) := by decide +kernel
theorem dX8_linksOf_144 : decode cX8_linksOf 144 = .ok (.getfield 19, 3) := by decide +kernel
theorem dX8_linksOf_147 : decode cX8_linksOf 147 = .ok (.iload_n 3, 1) := by decide +kernel
theorem dX8_linksOf_148 : decode cX8_linksOf 148 = .ok (.iaload, 1) := by decide +kernel
theorem dX8_linksOf_149 : decode cX8_linksOf 149 = .ok (.aload_n 0, 1) := by decide +kernel
theorem dX8_linksOf_150 : decode cX8_linksOf 150 = .ok (.getfield 46, 3) := by decide +kernel
theorem dX8_linksOf_153 : decode cX8_linksOf 153 = .ok (.iload_n 3, 1) := by decide +kernel
theorem dX8_linksOf_154 : decode cX8_linksOf 154 = .ok (.iaload, 1) := by decide +kernel
theorem dX8_linksOf_155 : decode cX8_linksOf 155 = .ok (.if_icmp .eq 7, 3) := by decide +kernel
theorem dX8_linksOf_158 : decode cX8_linksOf 158 = .ok (.iconst 1, 1) := by decide +kernel
theorem dX8_linksOf_159 : decode cX8_linksOf 159 = .ok (.goto 4, 3) := by decide +kernel
theorem dX8_linksOf_162 : decode cX8_linksOf 162 = .ok (.iconst 0, 1) := by decide +kernel
theorem dX8_linksOf_163 : decode cX8_linksOf 163 = .ok (.istore 6, 2) := by decide +kernel
theorem dX8_linksOf_165 : decode cX8_linksOf 165 = .ok (.iload_n 2, 1) := by decide +kernel
theorem dX8_linksOf_166 : decode cX8_linksOf 166 = .ok (.iload 4, 2) := by decide +kernel
theorem dX8_linksOf_168 : decode cX8_linksOf 168 = .ok (.ifCond .eq 17, 3) := by decide +kernel
theorem dX8_linksOf_171 : decode cX8_linksOf 171 = .ok (.iload 5, 2) := by decide +kernel
theorem dX8_linksOf_173 : decode cX8_linksOf 173 = .ok (.ifCond .ne 8, 3) := by decide +kernel
theorem dX8_linksOf_176 : decode cX8_linksOf 176 = .ok (.iload 6, 2) := by decide +kernel
theorem dX8_linksOf_178 : decode cX8_linksOf 178 = .ok (.ifCond .eq 7, 3) := by decide +kernel
theorem dX8_linksOf_181 : decode cX8_linksOf 181 = .ok (.iconst 1, 1) := by decide +kernel
theorem dX8_linksOf_182 : decode cX8_linksOf 182 = .ok (.goto 4, 3) := by decide +kernel
theorem dX8_linksOf_185 : decode cX8_linksOf 185 = .ok (.iconst 0, 1) := by decide +kernel
theorem dX8_linksOf_186 : decode cX8_linksOf 186 = .ok (.iadd, 1) := by decide +kernel
theorem dX8_linksOf_187 : decode cX8_linksOf 187 = .ok (.istore_n 2, 1) := by decide +kernel
theorem dX8_linksOf_188 : decode cX8_linksOf 188 = .ok (.iinc 3 1, 3) := by decide +kernel
theorem dX8_linksOf_191 : decode cX8_linksOf 191 = .ok (.goto (-187), 3) := by decide +kernel
theorem dX8_linksOf_194 : decode cX8_linksOf 194 = .ok (.iload_n 2, 1) := by decide +kernel
theorem dX8_linksOf_195 : decode cX8_linksOf 195 = .ok (.ireturn, 1) := by decide +kernel
theorem dX8_withValley_0 : decode cX8_withValley 0 = .ok (.iconst 0, 1) := by decide +kernel
theorem dX8_withValley_1 : decode cX8_withValley 1 = .ok (.istore_n 1, 1) := by decide +kernel
theorem dX8_withValley_2 : decode cX8_withValley 2 = .ok (.iconst 0, 1) := by decide +kernel
theorem dX8_withValley_3 : decode cX8_withValley 3 = .ok (.istore_n 2, 1) := by decide +kernel
theorem dX8_withValley_4 : decode cX8_withValley 4 = .ok (.iload_n 2, 1) := by decide +kernel
theorem dX8_withValley_5 : decode cX8_withValley 5 = .ok (.aload_n 0, 1) := by decide +kernel
theorem dX8_withValley_6 : decode cX8_withValley 6 = .ok (.getfield 75, 3) := by decide +kernel
theorem dX8_withValley_9 : decode cX8_withValley 9 = .ok (.if_icmp .ge 26, 3) := by decide +kernel
theorem dX8_withValley_12 : decode cX8_withValley 12 = .ok (.iload_n 1, 1) := by decide +kernel
theorem dX8_withValley_13 : decode cX8_withValley 13 = .ok (.aload_n 0, 1) := by decide +kernel
theorem dX8_withValley_14 : decode cX8_withValley 14 = .ok (.iload_n 2, 1) := by decide +kernel
theorem dX8_withValley_15 : decode cX8_withValley 15 = .ok (.invokevirtual 180, 3) := by decide +kernel
theorem dX8_withValley_18 : decode cX8_withValley 18 = .ok (.iconst (-1), 1) := by decide +kernel
theorem dX8_withValley_19 : decode cX8_withValley 19 = .ok (.if_icmp .ne 7, 3) := by decide +kernel
theorem dX8_withValley_22 : decode cX8_withValley 22 = .ok (.iconst 0, 1) := by decide +kernel
theorem dX8_withValley_23 : decode cX8_withValley 23 = .ok (.goto 4, 3) := by decide +kernel
theorem dX8_withValley_26 : decode cX8_withValley 26 = .ok (.iconst 1, 1) := by decide +kernel
theorem dX8_withValley_27 : decode cX8_withValley 27 = .ok (.iadd, 1) := by decide +kernel
theorem dX8_withValley_28 : decode cX8_withValley 28 = .ok (.istore_n 1, 1) := by decide +kernel
theorem dX8_withValley_29 : decode cX8_withValley 29 = .ok (.iinc 2 1, 3) := by decide +kernel
theorem dX8_withValley_32 : decode cX8_withValley 32 = .ok (.goto (-28), 3) := by decide +kernel
theorem dX8_withValley_35 : decode cX8_withValley 35 = .ok (.iload_n 1, 1) := by decide +kernel
theorem dX8_withValley_36 : decode cX8_withValley 36 = .ok (.ireturn, 1) := by decide +kernel
theorem dX8_howMany_0 : decode cX8_howMany 0 = .ok (.aload_n 0, 1) := by decide +kernel
theorem dX8_howMany_1 : decode cX8_howMany 1 = .ok (.invokevirtual 149, 3) := by decide +kernel
theorem dX8_howMany_4 : decode cX8_howMany 4 = .ok (.iload_n 1, 1) := by decide +kernel
theorem dX8_howMany_5 : decode cX8_howMany 5 = .ok (.tableswitch 88 0 11 #[63, 88, 88, 88, 88, 88, 68, 88, 88, 73, 78, 83], 63) := by decide +kernel
theorem dX8_howMany_68 : decode cX8_howMany 68 = .ok (.aload_n 0, 1) := by decide +kernel
theorem dX8_howMany_69 : decode cX8_howMany 69 = .ok (.getfield 75, 3) := by decide +kernel
theorem dX8_howMany_72 : decode cX8_howMany 72 = .ok (.ireturn, 1) := by decide +kernel
theorem dX8_howMany_73 : decode cX8_howMany 73 = .ok (.aload_n 0, 1) := by decide +kernel
theorem dX8_howMany_74 : decode cX8_howMany 74 = .ok (.invokevirtual 196, 3) := by decide +kernel
theorem dX8_howMany_77 : decode cX8_howMany 77 = .ok (.ireturn, 1) := by decide +kernel
theorem dX8_howMany_78 : decode cX8_howMany 78 = .ok (.aload_n 0, 1) := by decide +kernel
theorem dX8_howMany_79 : decode cX8_howMany 79 = .ok (.getfield 59, 3) := by decide +kernel
theorem dX8_howMany_82 : decode cX8_howMany 82 = .ok (.ireturn, 1) := by decide +kernel
theorem dX8_howMany_83 : decode cX8_howMany 83 = .ok (.aload_n 0, 1) := by decide +kernel
theorem dX8_howMany_84 : decode cX8_howMany 84 = .ok (.getfield 88, 3) := by decide +kernel
theorem dX8_howMany_87 : decode cX8_howMany 87 = .ok (.ireturn, 1) := by decide +kernel
theorem dX8_howMany_88 : decode cX8_howMany 88 = .ok (.aload_n 0, 1) := by decide +kernel
theorem dX8_howMany_89 : decode cX8_howMany 89 = .ok (.getfield 78, 3) := by decide +kernel
theorem dX8_howMany_92 : decode cX8_howMany 92 = .ok (.ireturn, 1) := by decide +kernel
theorem dX8_howMany_93 : decode cX8_howMany 93 = .ok (.iload_n 1, 1) := by decide +kernel
theorem dX8_howMany_94 : decode cX8_howMany 94 = .ok (.iconst 1, 1) := by decide +kernel
theorem dX8_howMany_95 : decode cX8_howMany 95 = .ok (.bipush 8, 2) := by decide +kernel
theorem dX8_howMany_97 : decode cX8_howMany 97 = .ok (.invokestatic 55, 3) := by decide +kernel
theorem dX8_howMany_100 : decode cX8_howMany 100 = .ok (.ifCond .eq 11, 3) := by decide +kernel
theorem dX8_howMany_103 : decode cX8_howMany 103 = .ok (.aload_n 0, 1) := by decide +kernel
theorem dX8_howMany_104 : decode cX8_howMany 104 = .ok (.iload_n 1, 1) := by decide +kernel
theorem dX8_howMany_105 : decode cX8_howMany 105 = .ok (.invokevirtual 199, 3) := by decide +kernel
theorem dX8_howMany_108 : decode cX8_howMany 108 = .ok (.goto 6, 3) := by decide +kernel
theorem dX8_howMany_111 : decode cX8_howMany 111 = .ok (.sipush (-1002), 3) := by decide +kernel
theorem dX8_howMany_114 : decode cX8_howMany 114 = .ok (.ireturn, 1) := by decide +kernel
theorem dX8_count_0 : decode cX8_count 0 = .ok (.aload_n 0, 1) := by decide +kernel
theorem dX8_count_1 : decode cX8_count 1 = .ok (.iload_n 1, 1) := by decide +kernel
theorem dX8_count_2 : decode cX8_count 2 = .ok (.invokevirtual 202, 3) := by decide +kernel
theorem dX8_count_5 : decode cX8_count 5 = .ok (.ireturn, 1) := by decide +kernel
theorem dX8_mix_0 : decode cX8_mix 0 = .ok (.aload_n 0, 1) := by decide +kernel
theorem dX8_mix_1 : decode cX8_mix 1 = .ok (.ldc2_w 205, 3) := by decide +kernel
theorem dX8_mix_4 : decode cX8_mix 4 = .ok (.aload_n 0, 1) := by decide +kernel
theorem dX8_mix_5 : decode cX8_mix 5 = .ok (.getfield 207, 3) := by decide +kernel
theorem dX8_mix_8 : decode cX8_mix 8 = .ok (.lmul, 1) := by decide +kernel
theorem dX8_mix_9 : decode cX8_mix 9 = .ok (.lload_n 1, 1) := by decide +kernel
theorem dX8_mix_10 : decode cX8_mix 10 = .ok (.ladd, 1) := by decide +kernel
theorem dX8_mix_11 : decode cX8_mix 11 = .ok (.putfield 207, 3) := by decide +kernel
theorem dX8_mix_14 : decode cX8_mix 14 = .ok (.return_, 1) := by decide +kernel
theorem dX8_mixNets_0 : decode cX8_mixNets 0 = .ok (.iconst 0, 1) := by decide +kernel
theorem dX8_mixNets_1 : decode cX8_mixNets 1 = .ok (.istore_n 1, 1) := by decide +kernel
theorem dX8_mixNets_2 : decode cX8_mixNets 2 = .ok (.iload_n 1, 1) := by decide +kernel
theorem dX8_mixNets_3 : decode cX8_mixNets 3 = .ok (.bipush 8, 2) := by decide +kernel
theorem dX8_mixNets_5 : decode cX8_mixNets 5 = .ok (.if_icmp .ge 34, 3) := by decide +kernel
theorem dX8_mixNets_8 : decode cX8_mixNets 8 = .ok (.iconst 0, 1) := by decide +kernel
theorem dX8_mixNets_9 : decode cX8_mixNets 9 = .ok (.istore_n 2, 1) := by decide +kernel
theorem dX8_mixNets_10 : decode cX8_mixNets 10 = .ok (.iload_n 2, 1) := by decide +kernel
theorem dX8_mixNets_11 : decode cX8_mixNets 11 = .ok (.bipush 6, 2) := by decide +kernel
theorem dX8_mixNets_13 : decode cX8_mixNets 13 = .ok (.if_icmp .ge 20, 3) := by decide +kernel
theorem dX8_mixNets_16 : decode cX8_mixNets 16 = .ok (.aload_n 0, 1) := by decide +kernel
theorem dX8_mixNets_17 : decode cX8_mixNets 17 = .ok (.aload_n 0, 1) := by decide +kernel
theorem dX8_mixNets_18 : decode cX8_mixNets 18 = .ok (.iload_n 1, 1) := by decide +kernel
theorem dX8_mixNets_19 : decode cX8_mixNets 19 = .ok (.iload_n 2, 1) := by decide +kernel
theorem dX8_mixNets_20 : decode cX8_mixNets 20 = .ok (.invokevirtual 155, 3) := by decide +kernel
theorem dX8_mixNets_23 : decode cX8_mixNets 23 = .ok (.i2l, 1) := by decide +kernel
theorem dX8_mixNets_24 : decode cX8_mixNets 24 = .ok (.invokevirtual 211, 3) := by decide +kernel
theorem dX8_mixNets_27 : decode cX8_mixNets 27 = .ok (.iinc 2 1, 3) := by decide +kernel
theorem dX8_mixNets_30 : decode cX8_mixNets 30 = .ok (.goto (-20), 3) := by decide +kernel
theorem dX8_mixNets_33 : decode cX8_mixNets 33 = .ok (.iinc 1 1, 3) := by decide +kernel
theorem dX8_mixNets_36 : decode cX8_mixNets 36 = .ok (.goto (-34), 3) := by decide +kernel
theorem dX8_mixNets_39 : decode cX8_mixNets 39 = .ok (.iconst 0, 1) := by decide +kernel
theorem dX8_mixNets_40 : decode cX8_mixNets 40 = .ok (.istore_n 1, 1) := by decide +kernel
theorem dX8_mixNets_41 : decode cX8_mixNets 41 = .ok (.iload_n 1, 1) := by decide +kernel
theorem dX8_mixNets_42 : decode cX8_mixNets 42 = .ok (.bipush 8, 2) := by decide +kernel
theorem dX8_mixNets_44 : decode cX8_mixNets 44 = .ok (.if_icmp .ge 19, 3) := by decide +kernel
theorem dX8_mixNets_47 : decode cX8_mixNets 47 = .ok (.aload_n 0, 1) := by decide +kernel
theorem dX8_mixNets_48 : decode cX8_mixNets 48 = .ok (.aload_n 0, 1) := by decide +kernel
theorem dX8_mixNets_49 : decode cX8_mixNets 49 = .ok (.iload_n 1, 1) := by decide +kernel
theorem dX8_mixNets_50 : decode cX8_mixNets 50 = .ok (.invokevirtual 158, 3) := by decide +kernel
theorem dX8_mixNets_53 : decode cX8_mixNets 53 = .ok (.i2l, 1) := by decide +kernel
theorem dX8_mixNets_54 : decode cX8_mixNets 54 = .ok (.invokevirtual 211, 3) := by decide +kernel
theorem dX8_mixNets_57 : decode cX8_mixNets 57 = .ok (.iinc 1 1, 3) := by decide +kernel
theorem dX8_mixNets_60 : decode cX8_mixNets 60 = .ok (.goto (-19), 3) := by decide +kernel
theorem dX8_mixNets_63 : decode cX8_mixNets 63 = .ok (.aload_n 0, 1) := by decide +kernel
theorem dX8_mixNets_64 : decode cX8_mixNets 64 = .ok (.aload_n 0, 1) := by decide +kernel
theorem dX8_mixNets_65 : decode cX8_mixNets 65 = .ok (.invokevirtual 161, 3) := by decide +kernel
theorem dX8_mixNets_68 : decode cX8_mixNets 68 = .ok (.i2l, 1) := by decide +kernel
theorem dX8_mixNets_69 : decode cX8_mixNets 69 = .ok (.invokevirtual 211, 3) := by decide +kernel
theorem dX8_mixNets_72 : decode cX8_mixNets 72 = .ok (.iconst 0, 1) := by decide +kernel
theorem dX8_mixNets_73 : decode cX8_mixNets 73 = .ok (.istore_n 1, 1) := by decide +kernel
theorem dX8_mixNets_74 : decode cX8_mixNets 74 = .ok (.iload_n 1, 1) := by decide +kernel
theorem dX8_mixNets_75 : decode cX8_mixNets 75 = .ok (.bipush 8, 2) := by decide +kernel
theorem dX8_mixNets_77 : decode cX8_mixNets 77 = .ok (.if_icmp .ge 50, 3) := by decide +kernel
theorem dX8_mixNets_80 : decode cX8_mixNets 80 = .ok (.iload_n 1, 1) := by decide +kernel
theorem dX8_mixNets_81 : decode cX8_mixNets 81 = .ok (.iconst 1, 1) := by decide +kernel
theorem dX8_mixNets_82 : decode cX8_mixNets 82 = .ok (.iadd, 1) := by decide +kernel
theorem dX8_mixNets_83 : decode cX8_mixNets 83 = .ok (.istore_n 2, 1) := by decide +kernel
theorem dX8_mixNets_84 : decode cX8_mixNets 84 = .ok (.iload_n 2, 1) := by decide +kernel
theorem dX8_mixNets_85 : decode cX8_mixNets 85 = .ok (.bipush 8, 2) := by decide +kernel
theorem dX8_mixNets_87 : decode cX8_mixNets 87 = .ok (.if_icmp .ge 34, 3) := by decide +kernel
theorem dX8_mixNets_90 : decode cX8_mixNets 90 = .ok (.iconst 0, 1) := by decide +kernel
theorem dX8_mixNets_91 : decode cX8_mixNets 91 = .ok (.istore_n 3, 1) := by decide +kernel
theorem dX8_mixNets_92 : decode cX8_mixNets 92 = .ok (.iload_n 3, 1) := by decide +kernel
theorem dX8_mixNets_93 : decode cX8_mixNets 93 = .ok (.iconst 5, 1) := by decide +kernel
theorem dX8_mixNets_94 : decode cX8_mixNets 94 = .ok (.if_icmp .ge 21, 3) := by decide +kernel
theorem dX8_mixNets_97 : decode cX8_mixNets 97 = .ok (.aload_n 0, 1) := by decide +kernel
theorem dX8_mixNets_98 : decode cX8_mixNets 98 = .ok (.aload_n 0, 1) := by decide +kernel
theorem dX8_mixNets_99 : decode cX8_mixNets 99 = .ok (.iload_n 1, 1) := by decide +kernel
theorem dX8_mixNets_100 : decode cX8_mixNets 100 = .ok (.iload_n 2, 1) := by decide +kernel
theorem dX8_mixNets_101 : decode cX8_mixNets 101 = .ok (.iload_n 3, 1) := by decide +kernel
theorem dX8_mixNets_102 : decode cX8_mixNets 102 = .ok (.invokevirtual 164, 3) := by decide +kernel
theorem dX8_mixNets_105 : decode cX8_mixNets 105 = .ok (.i2l, 1) := by decide +kernel
theorem dX8_mixNets_106 : decode cX8_mixNets 106 = .ok (.invokevirtual 211, 3) := by decide +kernel
theorem dX8_mixNets_109 : decode cX8_mixNets 109 = .ok (.iinc 3 1, 3) := by decide +kernel
theorem dX8_mixNets_112 : decode cX8_mixNets 112 = .ok (.goto (-20), 3) := by decide +kernel
theorem dX8_mixNets_115 : decode cX8_mixNets 115 = .ok (.iinc 2 1, 3) := by decide +kernel
theorem dX8_mixNets_118 : decode cX8_mixNets 118 = .ok (.goto (-34), 3) := by decide +kernel
theorem dX8_mixNets_121 : decode cX8_mixNets 121 = .ok (.iinc 1 1, 3) := by decide +kernel
theorem dX8_mixNets_124 : decode cX8_mixNets 124 = .ok (.goto (-50), 3) := by decide +kernel
theorem dX8_mixNets_127 : decode cX8_mixNets 127 = .ok (.iconst 0, 1) := by decide +kernel
theorem dX8_mixNets_128 : decode cX8_mixNets 128 = .ok (.istore_n 1, 1) := by decide +kernel
theorem dX8_mixNets_129 : decode cX8_mixNets 129 = .ok (.iload_n 1, 1) := by decide +kernel
theorem dX8_mixNets_130 : decode cX8_mixNets 130 = .ok (.bipush 64, 2) := by decide +kernel
theorem dX8_mixNets_132 : decode cX8_mixNets 132 = .ok (.if_icmp .ge 27, 3) := by decide +kernel
theorem dX8_mixNets_135 : decode cX8_mixNets 135 = .ok (.aload_n 0, 1) := by decide +kernel
theorem dX8_mixNets_136 : decode cX8_mixNets 136 = .ok (.aload_n 0, 1) := by decide +kernel
theorem dX8_mixNets_137 : decode cX8_mixNets 137 = .ok (.iload_n 1, 1) := by decide +kernel
theorem dX8_mixNets_138 : decode cX8_mixNets 138 = .ok (.bipush 8, 2) := by decide +kernel
theorem dX8_mixNets_140 : decode cX8_mixNets 140 = .ok (.idiv, 1) := by decide +kernel
theorem dX8_mixNets_141 : decode cX8_mixNets 141 = .ok (.iload_n 1, 1) := by decide +kernel
theorem dX8_mixNets_142 : decode cX8_mixNets 142 = .ok (.bipush 8, 2) := by decide +kernel
theorem dX8_mixNets_144 : decode cX8_mixNets 144 = .ok (.irem, 1) := by decide +kernel
theorem dX8_mixNets_145 : decode cX8_mixNets 145 = .ok (.iconst 0, 1) := by decide +kernel
theorem dX8_mixNets_146 : decode cX8_mixNets 146 = .ok (.invokevirtual 193, 3) := by decide +kernel
theorem dX8_mixNets_149 : decode cX8_mixNets 149 = .ok (.i2l, 1) := by decide +kernel
theorem dX8_mixNets_150 : decode cX8_mixNets 150 = .ok (.invokevirtual 211, 3) := by decide +kernel
theorem dX8_mixNets_153 : decode cX8_mixNets 153 = .ok (.iinc 1 1, 3) := by decide +kernel
theorem dX8_mixNets_156 : decode cX8_mixNets 156 = .ok (.goto (-27), 3) := by decide +kernel
theorem dX8_mixNets_159 : decode cX8_mixNets 159 = .ok (.return_, 1) := by decide +kernel
theorem dX8_digest_0 : decode cX8_digest 0 = .ok (.aload_n 0, 1) := by decide +kernel
theorem dX8_digest_1 : decode cX8_digest 1 = .ok (.ldc2_w 215, 3) := by decide +kernel
theorem dX8_digest_4 : decode cX8_digest 4 = .ok (.putfield 207, 3) := by decide +kernel
theorem dX8_digest_7 : decode cX8_digest 7 = .ok (.aload_n 0, 1) := by decide +kernel
theorem dX8_digest_8 : decode cX8_digest 8 = .ok (.invokevirtual 217, 3) := by decide +kernel
theorem dX8_digest_11 : decode cX8_digest 11 = .ok (.iconst 0, 1) := by decide +kernel
theorem dX8_digest_12 : decode cX8_digest 12 = .ok (.istore_n 1, 1) := by decide +kernel
theorem dX8_digest_13 : decode cX8_digest 13 = .ok (.iload_n 1, 1) := by decide +kernel
theorem dX8_digest_14 : decode cX8_digest 14 = .ok (.iconst 4, 1) := by decide +kernel
theorem dX8_digest_15 : decode cX8_digest 15 = .ok (.if_icmp .ge 19, 3) := by decide +kernel
theorem dX8_digest_18 : decode cX8_digest 18 = .ok (.aload_n 0, 1) := by decide +kernel
theorem dX8_digest_19 : decode cX8_digest 19 = .ok (.aload_n 0, 1) := by decide +kernel
theorem dX8_digest_20 : decode cX8_digest 20 = .ok (.iload_n 1, 1) := by decide +kernel
theorem dX8_digest_21 : decode cX8_digest 21 = .ok (.invokevirtual 171, 3) := by decide +kernel
theorem dX8_digest_24 : decode cX8_digest 24 = .ok (.i2l, 1) := by decide +kernel
theorem dX8_digest_25 : decode cX8_digest 25 = .ok (.invokevirtual 211, 3) := by decide +kernel
theorem dX8_digest_28 : decode cX8_digest 28 = .ok (.iinc 1 1, 3) := by decide +kernel
theorem dX8_digest_31 : decode cX8_digest 31 = .ok (.goto (-18), 3) := by decide +kernel
theorem dX8_digest_34 : decode cX8_digest 34 = .ok (.iconst 0, 1) := by decide +kernel
theorem dX8_digest_35 : decode cX8_digest 35 = .ok (.istore_n 1, 1) := by decide +kernel
theorem dX8_digest_36 : decode cX8_digest 36 = .ok (.iload_n 1, 1) := by decide +kernel
theorem dX8_digest_37 : decode cX8_digest 37 = .ok (.aload_n 0, 1) := by decide +kernel
theorem dX8_digest_38 : decode cX8_digest 38 = .ok (.getfield 75, 3) := by decide +kernel
theorem dX8_digest_41 : decode cX8_digest 41 = .ok (.if_icmp .ge 33, 3) := by decide +kernel
theorem dX8_digest_44 : decode cX8_digest 44 = .ok (.iconst 0, 1) := by decide +kernel
theorem dX8_digest_45 : decode cX8_digest 45 = .ok (.istore_n 2, 1) := by decide +kernel
theorem dX8_digest_46 : decode cX8_digest 46 = .ok (.iload_n 2, 1) := by decide +kernel
theorem dX8_digest_47 : decode cX8_digest 47 = .ok (.iconst 3, 1) := by decide +kernel
theorem dX8_digest_48 : decode cX8_digest 48 = .ok (.if_icmp .ge 20, 3) := by decide +kernel
theorem dX8_digest_51 : decode cX8_digest 51 = .ok (.aload_n 0, 1) := by decide +kernel
theorem dX8_digest_52 : decode cX8_digest 52 = .ok (.aload_n 0, 1) := by decide +kernel
theorem dX8_digest_53 : decode cX8_digest 53 = .ok (.iload_n 1, 1) := by decide +kernel
theorem dX8_digest_54 : decode cX8_digest 54 = .ok (.iload_n 2, 1) := by decide +kernel
theorem dX8_digest_55 : decode cX8_digest 55 = .ok (.invokevirtual 183, 3) := by decide +kernel
theorem dX8_digest_58 : decode cX8_digest 58 = .ok (.i2l, 1) := by decide +kernel
theorem dX8_digest_59 : decode cX8_digest 59 = .ok (.invokevirtual 211, 3) := by decide +kernel
theorem dX8_digest_62 : decode cX8_digest 62 = .ok (.iinc 2 1, 3) := by decide +kernel
theorem dX8_digest_65 : decode cX8_digest 65 = .ok (.goto (-19), 3) := by decide +kernel
theorem dX8_digest_68 : decode cX8_digest 68 = .ok (.iinc 1 1, 3) := by decide +kernel
theorem dX8_digest_71 : decode cX8_digest 71 = .ok (.goto (-35), 3) := by decide +kernel
theorem dX8_digest_74 : decode cX8_digest 74 = .ok (.iconst 0, 1) := by decide +kernel
theorem dX8_digest_75 : decode cX8_digest 75 = .ok (.istore_n 1, 1) := by decide +kernel
theorem dX8_digest_76 : decode cX8_digest 76 = .ok (.iload_n 1, 1) := by decide +kernel
theorem dX8_digest_77 : decode cX8_digest 77 = .ok (.aload_n 0, 1) := by decide +kernel
theorem dX8_digest_78 : decode cX8_digest 78 = .ok (.getfield 59, 3) := by decide +kernel
theorem dX8_digest_81 : decode cX8_digest 81 = .ok (.if_icmp .ge 20, 3) := by decide +kernel
theorem dX8_digest_84 : decode cX8_digest 84 = .ok (.aload_n 0, 1) := by decide +kernel
theorem dX8_digest_85 : decode cX8_digest 85 = .ok (.aload_n 0, 1) := by decide +kernel
theorem dX8_digest_86 : decode cX8_digest 86 = .ok (.getfield 7, 3) := by decide +kernel
theorem dX8_digest_89 : decode cX8_digest 89 = .ok (.iload_n 1, 1) := by decide +kernel
theorem dX8_digest_90 : decode cX8_digest 90 = .ok (.iaload, 1) := by decide +kernel
theorem dX8_digest_91 : decode cX8_digest 91 = .ok (.i2l, 1) := by decide +kernel
theorem dX8_digest_92 : decode cX8_digest 92 = .ok (.invokevirtual 211, 3) := by decide +kernel
theorem dX8_digest_95 : decode cX8_digest 95 = .ok (.iinc 1 1, 3) := by decide +kernel
theorem dX8_digest_98 : decode cX8_digest 98 = .ok (.goto (-22), 3) := by decide +kernel
theorem dX8_digest_101 : decode cX8_digest 101 = .ok (.iconst 0, 1) := by decide +kernel
theorem dX8_digest_102 : decode cX8_digest 102 = .ok (.istore_n 1, 1) := by decide +kernel
theorem dX8_digest_103 : decode cX8_digest 103 = .ok (.iload_n 1, 1) := by decide +kernel
theorem dX8_digest_104 : decode cX8_digest 104 = .ok (.bipush 12, 2) := by decide +kernel
theorem dX8_digest_106 : decode cX8_digest 106 = .ok (.if_icmp .ge 19, 3) := by decide +kernel
theorem dX8_digest_109 : decode cX8_digest 109 = .ok (.aload_n 0, 1) := by decide +kernel
theorem dX8_digest_110 : decode cX8_digest 110 = .ok (.aload_n 0, 1) := by decide +kernel
theorem dX8_digest_111 : decode cX8_digest 111 = .ok (.iload_n 1, 1) := by decide +kernel
theorem dX8_digest_112 : decode cX8_digest 112 = .ok (.invokevirtual 202, 3) := by decide +kernel
theorem dX8_digest_115 : decode cX8_digest 115 = .ok (.i2l, 1) := by decide +kernel
theorem dX8_digest_116 : decode cX8_digest 116 = .ok (.invokevirtual 211, 3) := by decide +kernel
theorem dX8_digest_119 : decode cX8_digest 119 = .ok (.iinc 1 1, 3) := by decide +kernel
theorem dX8_digest_122 : decode cX8_digest 122 = .ok (.goto (-19), 3) := by decide +kernel
theorem dX8_digest_125 : decode cX8_digest 125 = .ok (.aload_n 0, 1) := by decide +kernel
theorem dX8_digest_126 : decode cX8_digest 126 = .ok (.getfield 207, 3) := by decide +kernel
theorem dX8_digest_129 : decode cX8_digest 129 = .ok (.lreturn, 1) := by decide +kernel
theorem dJ6_bitCount_0f7a4_0 : decode cJ6_bitCount_0f7a4 0 = .ok (.iload_n 0, 1) := by decide +kernel
theorem dJ6_bitCount_0f7a4_1 : decode cJ6_bitCount_0f7a4 1 = .ok (.iload_n 0, 1) := by decide +kernel
theorem dJ6_bitCount_0f7a4_2 : decode cJ6_bitCount_0f7a4 2 = .ok (.iconst 1, 1) := by decide +kernel
theorem dJ6_bitCount_0f7a4_3 : decode cJ6_bitCount_0f7a4 3 = .ok (.iushr, 1) := by decide +kernel
theorem dJ6_bitCount_0f7a4_4 : decode cJ6_bitCount_0f7a4 4 = .ok (.ldc_w 265, 3) := by decide +kernel
theorem dJ6_bitCount_0f7a4_7 : decode cJ6_bitCount_0f7a4 7 = .ok (.iand, 1) := by decide +kernel
theorem dJ6_bitCount_0f7a4_8 : decode cJ6_bitCount_0f7a4 8 = .ok (.isub, 1) := by decide +kernel
theorem dJ6_bitCount_0f7a4_9 : decode cJ6_bitCount_0f7a4 9 = .ok (.istore_n 0, 1) := by decide +kernel
theorem dJ6_bitCount_0f7a4_10 : decode cJ6_bitCount_0f7a4 10 = .ok (.iload_n 0, 1) := by decide +kernel
theorem dJ6_bitCount_0f7a4_11 : decode cJ6_bitCount_0f7a4 11 = .ok (.ldc_w 266, 3) := by decide +kernel
theorem dJ6_bitCount_0f7a4_14 : decode cJ6_bitCount_0f7a4 14 = .ok (.iand, 1) := by decide +kernel
theorem dJ6_bitCount_0f7a4_15 : decode cJ6_bitCount_0f7a4 15 = .ok (.iload_n 0, 1) := by decide +kernel
theorem dJ6_bitCount_0f7a4_16 : decode cJ6_bitCount_0f7a4 16 = .ok (.iconst 2, 1) := by decide +kernel
theorem dJ6_bitCount_0f7a4_17 : decode cJ6_bitCount_0f7a4 17 = .ok (.iushr, 1) := by decide +kernel
theorem dJ6_bitCount_0f7a4_18 : decode cJ6_bitCount_0f7a4 18 = .ok (.ldc_w 266, 3) := by decide +kernel
theorem dJ6_bitCount_0f7a4_21 : decode cJ6_bitCount_0f7a4 21 = .ok (.iand, 1) := by decide +kernel
theorem dJ6_bitCount_0f7a4_22 : decode cJ6_bitCount_0f7a4 22 = .ok (.iadd, 1) := by decide +kernel
theorem dJ6_bitCount_0f7a4_23 : decode cJ6_bitCount_0f7a4 23 = .ok (.istore_n 0, 1) := by decide +kernel
theorem dJ6_bitCount_0f7a4_24 : decode cJ6_bitCount_0f7a4 24 = .ok (.iload_n 0, 1) := by decide +kernel
theorem dJ6_bitCount_0f7a4_25 : decode cJ6_bitCount_0f7a4 25 = .ok (.iload_n 0, 1) := by decide +kernel
theorem dJ6_bitCount_0f7a4_26 : decode cJ6_bitCount_0f7a4 26 = .ok (.iconst 4, 1) := by decide +kernel
theorem dJ6_bitCount_0f7a4_27 : decode cJ6_bitCount_0f7a4 27 = .ok (.iushr, 1) := by decide +kernel
theorem dJ6_bitCount_0f7a4_28 : decode cJ6_bitCount_0f7a4 28 = .ok (.iadd, 1) := by decide +kernel
theorem dJ6_bitCount_0f7a4_29 : decode cJ6_bitCount_0f7a4 29 = .ok (.ldc_w 267, 3) := by decide +kernel
theorem dJ6_bitCount_0f7a4_32 : decode cJ6_bitCount_0f7a4 32 = .ok (.iand, 1) := by decide +kernel
theorem dJ6_bitCount_0f7a4_33 : decode cJ6_bitCount_0f7a4 33 = .ok (.istore_n 0, 1) := by decide +kernel
theorem dJ6_bitCount_0f7a4_34 : decode cJ6_bitCount_0f7a4 34 = .ok (.iload_n 0, 1) := by decide +kernel
theorem dJ6_bitCount_0f7a4_35 : decode cJ6_bitCount_0f7a4 35 = .ok (.iload_n 0, 1) := by decide +kernel
theorem dJ6_bitCount_0f7a4_36 : decode cJ6_bitCount_0f7a4 36 = .ok (.bipush 8, 2) := by decide +kernel
theorem dJ6_bitCount_0f7a4_38 : decode cJ6_bitCount_0f7a4 38 = .ok (.iushr, 1) := by decide +kernel
theorem dJ6_bitCount_0f7a4_39 : decode cJ6_bitCount_0f7a4 39 = .ok (.iadd, 1) := by decide +kernel
theorem dJ6_bitCount_0f7a4_40 : decode cJ6_bitCount_0f7a4 40 = .ok (.istore_n 0, 1) := by decide +kernel
theorem dJ6_bitCount_0f7a4_41 : decode cJ6_bitCount_0f7a4 41 = .ok (.iload_n 0, 1) := by decide +kernel
theorem dJ6_bitCount_0f7a4_42 : decode cJ6_bitCount_0f7a4 42 = .ok (.iload_n 0, 1) := by decide +kernel
theorem dJ6_bitCount_0f7a4_43 : decode cJ6_bitCount_0f7a4 43 = .ok (.bipush 16, 2) := by decide +kernel
theorem dJ6_bitCount_0f7a4_45 : decode cJ6_bitCount_0f7a4 45 = .ok (.iushr, 1) := by decide +kernel
theorem dJ6_bitCount_0f7a4_46 : decode cJ6_bitCount_0f7a4 46 = .ok (.iadd, 1) := by decide +kernel
theorem dJ6_bitCount_0f7a4_47 : decode cJ6_bitCount_0f7a4 47 = .ok (.istore_n 0, 1) := by decide +kernel
theorem dJ6_bitCount_0f7a4_48 : decode cJ6_bitCount_0f7a4 48 = .ok (.iload_n 0, 1) := by decide +kernel
theorem dJ6_bitCount_0f7a4_49 : decode cJ6_bitCount_0f7a4 49 = .ok (.bipush 63, 2) := by decide +kernel
theorem dJ6_bitCount_0f7a4_51 : decode cJ6_bitCount_0f7a4 51 = .ok (.iand, 1) := by decide +kernel
theorem dJ6_bitCount_0f7a4_52 : decode cJ6_bitCount_0f7a4 52 = .ok (.ireturn, 1) := by decide +kernel
theorem dJ9_min_7cf53_0 : decode cJ9_min_7cf53 0 = .ok (.iload_n 0, 1) := by decide +kernel
theorem dJ9_min_7cf53_1 : decode cJ9_min_7cf53 1 = .ok (.iload_n 1, 1) := by decide +kernel
theorem dJ9_min_7cf53_2 : decode cJ9_min_7cf53 2 = .ok (.if_icmp .gt 7, 3) := by decide +kernel
theorem dJ9_min_7cf53_5 : decode cJ9_min_7cf53 5 = .ok (.iload_n 0, 1) := by decide +kernel
theorem dJ9_min_7cf53_6 : decode cJ9_min_7cf53 6 = .ok (.goto 4, 3) := by decide +kernel
theorem dJ9_min_7cf53_9 : decode cJ9_min_7cf53 9 = .ok (.iload_n 1, 1) := by decide +kernel
theorem dJ9_min_7cf53_10 : decode cJ9_min_7cf53 10 = .ok (.ireturn, 1) := by decide +kernel
theorem dL_law_0 : decode cL_law 0 = .ok (.new 7, 3) := by decide +kernel
theorem dL_law_3 : decode cL_law 3 = .ok (.dup, 1) := by decide +kernel
theorem dL_law_4 : decode cL_law 4 = .ok (.invokespecial 9, 3) := by decide +kernel
theorem dL_law_7 : decode cL_law 7 = .ok (.astore_n 1, 1) := by decide +kernel
theorem dL_law_8 : decode cL_law 8 = .ok (.new 10, 3) := by decide +kernel
theorem dL_law_11 : decode cL_law 11 = .ok (.dup, 1) := by decide +kernel
theorem dL_law_12 : decode cL_law 12 = .ok (.invokespecial 12, 3) := by decide +kernel
theorem dL_law_15 : decode cL_law 15 = .ok (.astore_n 2, 1) := by decide +kernel
theorem dL_law_16 : decode cL_law 16 = .ok (.iconst 0, 1) := by decide +kernel
theorem dL_law_17 : decode cL_law 17 = .ok (.istore_n 3, 1) := by decide +kernel
theorem dL_law_18 : decode cL_law 18 = .ok (.iload_n 3, 1) := by decide +kernel
theorem dL_law_19 : decode cL_law 19 = .ok (.aload_n 0, 1) := by decide +kernel
theorem dL_law_20 : decode cL_law 20 = .ok (.arraylength, 1) := by decide +kernel
theorem dL_law_21 : decode cL_law 21 = .ok (.iconst 4, 1) := by decide +kernel
theorem dL_law_22 : decode cL_law 22 = .ok (.isub, 1) := by decide +kernel
theorem dL_law_23 : decode cL_law 23 = .ok (.if_icmp .gt 537, 3) := by decide +kernel
theorem dL_law_26 : decode cL_law 26 = .ok (.aload_n 0, 1) := by decide +kernel
theorem dL_law_27 : decode cL_law 27 = .ok (.iload_n 3, 1) := by decide +kernel
theorem dL_law_28 : decode cL_law 28 = .ok (.iaload, 1) := by decide +kernel
theorem dL_law_29 : decode cL_law 29 = .ok (.bipush 31, 2) := by decide +kernel
theorem dL_law_31 : decode cL_law 31 = .ok (.iand, 1) := by decide +kernel
theorem dL_law_32 : decode cL_law 32 = .ok (.tableswitch 522 0 16 #[84, 107, 120, 133, 146, 159, 182, 231, 274, 307, 330, 343, 386, 409, 442, 485, 508], 84) := by decide +kernel
theorem dL_law_116 : decode cL_law 116 = .ok (.aload_n 1, 1) := by decide +kernel
theorem dL_law_117 : decode cL_law 117 = .ok (.aload_n 0, 1) := by decide +kernel
theorem dL_law_118 : decode cL_law 118 = .ok (.iload_n 3, 1) := by decide +kernel
theorem dL_law_119 : decode cL_law 119 = .ok (.iconst 1, 1) := by decide +kernel
theorem dL_law_120 : decode cL_law 120 = .ok (.iadd, 1) := by decide +kernel
theorem dL_law_121 : decode cL_law 121 = .ok (.iaload, 1) := by decide +kernel
theorem dL_law_122 : decode cL_law 122 = .ok (.invokevirtual 13, 3) := by decide +kernel
theorem dL_law_125 : decode cL_law 125 = .ok (.aload_n 2, 1) := by decide +kernel
theorem dL_law_126 : decode cL_law 126 = .ok (.aload_n 0, 1) := by decide +kernel
theorem dL_law_127 : decode cL_law 127 = .ok (.iload_n 3, 1) := by decide +kernel
theorem dL_law_128 : decode cL_law 128 = .ok (.iconst 1, 1) := by decide +kernel
theorem dL_law_129 : decode cL_law 129 = .ok (.iadd, 1) := by decide +kernel
theorem dL_law_130 : decode cL_law 130 = .ok (.iaload, 1) := by decide +kernel
theorem dL_law_131 : decode cL_law 131 = .ok (.invokevirtual 17, 3) := by decide +kernel
theorem dL_law_134 : decode cL_law 134 = .ok (.if_icmp .eq 420, 3) := by decide +kernel
theorem dL_law_137 : decode cL_law 137 = .ok (.iconst 0, 1) := by decide +kernel
theorem dL_law_138 : decode cL_law 138 = .ok (.ireturn, 1) := by decide +kernel
theorem dL_law_139 : decode cL_law 139 = .ok (.aload_n 1, 1) := by decide +kernel
theorem dL_law_140 : decode cL_law 140 = .ok (.invokevirtual 18, 3) := by decide +kernel
theorem dL_law_143 : decode cL_law 143 = .ok (.aload_n 2, 1) := by decide +kernel
theorem dL_law_144 : decode cL_law 144 = .ok (.invokevirtual 22, 3) := by decide +kernel
theorem dL_law_147 : decode cL_law 147 = .ok (.if_icmp .eq 407, 3) := by decide +kernel
theorem dL_law_150 : decode cL_law 150 = .ok (.iconst 0, 1) := by decide +kernel
theorem dL_law_151 : decode cL_law 151 = .ok (.ireturn, 1) := by decide +kernel
theorem dL_law_152 : decode cL_law 152 = .ok (.aload_n 1, 1) := by decide +kernel
theorem dL_law_153 : decode cL_law 153 = .ok (.invokevirtual 23, 3) := by decide +kernel
theorem dL_law_156 : decode cL_law 156 = .ok (.aload_n 2, 1) := by decide +kernel
theorem dL_law_157 : decode cL_law 157 = .ok (.invokevirtual 26, 3) := by decide +kernel
theorem dL_law_160 : decode cL_law 160 = .ok (.if_icmp .eq 394, 3) := by decide +kernel
theorem dL_law_163 : decode cL_law 163 = .ok (.iconst 0, 1) := by decide +kernel
theorem dL_law_164 : decode cL_law 164 = .ok (.ireturn, 1) := by decide +kernel
theorem dL_law_165 : decode cL_law 165 = .ok (.aload_n 1, 1) := by decide +kernel
theorem dL_law_166 : decode cL_law 166 = .ok (.invokevirtual 27, 3) := by decide +kernel
theorem dL_law_169 : decode cL_law 169 = .ok (.aload_n 2, 1) := by decide +kernel
theorem dL_law_170 : decode cL_law 170 = .ok (.invokevirtual 30, 3) := by decide +kernel
theorem dL_law_173 : decode cL_law 173 = .ok (.if_icmp .eq 381, 3) := by decide +kernel
theorem dL_law_176 : decode cL_law 176 = .ok (.iconst 0, 1) := by decide +kernel
theorem dL_law_177 : decode cL_law 177 = .ok (.ireturn, 1) := by decide +kernel
theorem dL_law_178 : decode cL_law 178 = .ok (.aload_n 1, 1) := by decide +kernel
theorem dL_law_179 : decode cL_law 179 = .ok (.invokevirtual 31, 3) := by decide +kernel
theorem dL_law_182 : decode cL_law 182 = .ok (.aload_n 2, 1) := by decide +kernel
theorem dL_law_183 : decode cL_law 183 = .ok (.invokevirtual 34, 3) := by decide +kernel
theorem dL_law_186 : decode cL_law 186 = .ok (.if_icmp .eq 368, 3) := by decide +kernel
theorem dL_law_189 : decode cL_law 189 = .ok (.iconst 0, 1) := by decide +kernel
theorem dL_law_190 : decode cL_law 190 = .ok (.ireturn, 1) := by decide +kernel
theorem dL_law_191 : decode cL_law 191 = .ok (.aload_n 1, 1) := by decide +kernel
theorem dL_law_192 : decode cL_law 192 = .ok (.aload_n 0, 1) := by decide +kernel
theorem dL_law_193 : decode cL_law 193 = .ok (.iload_n 3, 1) := by decide +kernel
theorem dL_law_194 : decode cL_law 194 = .ok (.iconst 1, 1) := by decide +kernel
theorem dL_law_195 : decode cL_law 195 = .ok (.iadd, 1) := by decide +kernel
theorem dL_law_196 : decode cL_law 196 = .ok (.iaload, 1) := by decide +kernel
theorem dL_law_197 : decode cL_law 197 = .ok (.invokevirtual 35, 3) := by decide +kernel
theorem dL_law_200 : decode cL_law 200 = .ok (.aload_n 2, 1) := by decide +kernel
theorem dL_law_201 : decode cL_law 201 = .ok (.aload_n 0, 1) := by decide +kernel
theorem dL_law_202 : decode cL_law 202 = .ok (.iload_n 3, 1) := by decide +kernel
theorem dL_law_203 : decode cL_law 203 = .ok (.iconst 1, 1) := by decide +kernel
theorem dL_law_204 : decode cL_law 204 = .ok (.iadd, 1) := by decide +kernel
theorem dL_law_205 : decode cL_law 205 = .ok (.iaload, 1) := by decide +kernel
theorem dL_law_206 : decode cL_law 206 = .ok (.invokevirtual 38, 3) := by decide +kernel
theorem dL_law_209 : decode cL_law 209 = .ok (.if_icmp .eq 345, 3) := by decide +kernel
theorem dL_law_212 : decode cL_law 212 = .ok (.iconst 0, 1) := by decide +kernel
theorem dL_law_213 : decode cL_law 213 = .ok (.ireturn, 1) := by decide +kernel
theorem dL_law_214 : decode cL_law 214 = .ok (.aload_n 1, 1) := by decide +kernel
theorem dL_law_215 : decode cL_law 215 = .ok (.aload_n 0, 1) := by decide +kernel
theorem dL_law_216 : decode cL_law 216 = .ok (.iload_n 3, 1) := by decide +kernel
theorem dL_law_217 : decode cL_law 217 = .ok (.iconst 1, 1) := by decide +kernel
theorem dL_law_218 : decode cL_law 218 = .ok (.iadd, 1) := by decide +kernel
theorem dL_law_219 : decode cL_law 219 = .ok (.iaload, 1) := by decide +kernel
theorem dL_law_220 : decode cL_law 220 = .ok (.aload_n 0, 1) := by decide +kernel
theorem dL_law_221 : decode cL_law 221 = .ok (.iload_n 3, 1) := by decide +kernel
theorem dL_law_222 : decode cL_law 222 = .ok (.iconst 2, 1) := by decide +kernel
theorem dL_law_223 : decode cL_law 223 = .ok (.iadd, 1) := by decide +kernel
theorem dL_law_224 : decode cL_law 224 = .ok (.iaload, 1) := by decide +kernel
theorem dL_law_225 : decode cL_law 225 = .ok (.ifCond .eq 7, 3) := by decide +kernel
theorem dL_law_228 : decode cL_law 228 = .ok (.iconst 1, 1) := by decide +kernel
theorem dL_law_229 : decode cL_law 229 = .ok (.goto 4, 3) := by decide +kernel
theorem dL_law_232 : decode cL_law 232 = .ok (.iconst 0, 1) := by decide +kernel
theorem dL_law_233 : decode cL_law 233 = .ok (.invokevirtual 39, 3) := by decide +kernel
theorem dL_law_236 : decode cL_law 236 = .ok (.aload_n 2, 1) := by decide +kernel
theorem dL_law_237 : decode cL_law 237 = .ok (.aload_n 0, 1) := by decide +kernel
theorem dL_law_238 : decode cL_law 238 = .ok (.iload_n 3, 1) := by decide +kernel
theorem dL_law_239 : decode cL_law 239 = .ok (.iconst 1, 1) := by decide +kernel
theorem dL_law_240 : decode cL_law 240 = .ok (.iadd, 1) := by decide +kernel
theorem dL_law_241 : decode cL_law 241 = .ok (.iaload, 1) := by decide +kernel
theorem dL_law_242 : decode cL_law 242 = .ok (.aload_n 0, 1) := by decide +kernel
theorem dL_law_243 : decode cL_law 243 = .ok (.iload_n 3, 1) := by decide +kernel
theorem dL_law_244 : decode cL_law 244 = .ok (.iconst 2, 1) := by decide +kernel
theorem dL_law_245 : decode cL_law 245 = .ok (.iadd, 1) := by decide +kernel
theorem dL_law_246 : decode cL_law 246 = .ok (.iaload, 1) := by decide +kernel
theorem dL_law_247 : decode cL_law 247 = .ok (.ifCond .eq 7, 3) := by decide +kernel
theorem dL_law_250 : decode cL_law 250 = .ok (.iconst 1, 1) := by decide +kernel
theorem dL_law_251 : decode cL_law 251 = .ok (.goto 4, 3) := by decide +kernel
theorem dL_law_254 : decode cL_law 254 = .ok (.iconst 0, 1) := by decide +kernel
theorem dL_law_255 : decode cL_law 255 = .ok (.invokevirtual 43, 3) := by decide +kernel
theorem dL_law_258 : decode cL_law 258 = .ok (.if_icmp .eq 296, 3) := by decide +kernel
theorem dL_law_261 : decode cL_law 261 = .ok (.iconst 0, 1) := by decide +kernel
theorem dL_law_262 : decode cL_law 262 = .ok (.ireturn, 1) := by decide +kernel
theorem dL_law_263 : decode cL_law 263 = .ok (.aload_n 1, 1) := by decide +kernel
theorem dL_law_264 : decode cL_law 264 = .ok (.aload_n 0, 1) := by decide +kernel
theorem dL_law_265 : decode cL_law 265 = .ok (.iload_n 3, 1) := by decide +kernel
theorem dL_law_266 : decode cL_law 266 = .ok (.iconst 1, 1) := by decide +kernel
theorem dL_law_267 : decode cL_law 267 = .ok (.iadd, 1) := by decide +kernel
theorem dL_law_268 : decode cL_law 268 = .ok (.iaload, 1) := by decide +kernel
theorem dL_law_269 : decode cL_law 269 = .ok (.aload_n 0, 1) := by decide +kernel
theorem dL_law_270 : decode cL_law 270 = .ok (.iload_n 3, 1) := by decide +kernel
theorem dL_law_271 : decode cL_law 271 = .ok (.iconst 2, 1) := by decide +kernel
theorem dL_law_272 : decode cL_law 272 = .ok (.iadd, 1) := by decide +kernel
theorem dL_law_273 : decode cL_law 273 = .ok (.iaload, 1) := by decide +kernel
theorem dL_law_274 : decode cL_law 274 = .ok (.aload_n 0, 1) := by decide +kernel
theorem dL_law_275 : decode cL_law 275 = .ok (.iload_n 3, 1) := by decide +kernel
theorem dL_law_276 : decode cL_law 276 = .ok (.iconst 3, 1) := by decide +kernel
theorem dL_law_277 : decode cL_law 277 = .ok (.iadd, 1) := by decide +kernel
theorem dL_law_278 : decode cL_law 278 = .ok (.iaload, 1) := by decide +kernel
theorem dL_law_279 : decode cL_law 279 = .ok (.invokevirtual 44, 3) := by decide +kernel
theorem dL_law_282 : decode cL_law 282 = .ok (.aload_n 2, 1) := by decide +kernel
theorem dL_law_283 : decode cL_law 283 = .ok (.aload_n 0, 1) := by decide +kernel
theorem dL_law_284 : decode cL_law 284 = .ok (.iload_n 3, 1) := by decide +kernel
theorem dL_law_285 : decode cL_law 285 = .ok (.iconst 1, 1) := by decide +kernel
theorem dL_law_286 : decode cL_law 286 = .ok (.iadd, 1) := by decide +kernel
theorem dL_law_287 : decode cL_law 287 = .ok (.iaload, 1) := by decide +kernel
theorem dL_law_288 : decode cL_law 288 = .ok (.aload_n 0, 1) := by decide +kernel
theorem dL_law_289 : decode cL_law 289 = .ok (.iload_n 3, 1) := by decide +kernel
theorem dL_law_290 : decode cL_law 290 = .ok (.iconst 2, 1) := by decide +kernel
theorem dL_law_291 : decode cL_law 291 = .ok (.iadd, 1) := by decide +kernel
theorem dL_law_292 : decode cL_law 292 = .ok (.iaload, 1) := by decide +kernel
theorem dL_law_293 : decode cL_law 293 = .ok (.aload_n 0, 1) := by decide +kernel
theorem dL_law_294 : decode cL_law 294 = .ok (.iload_n 3, 1) := by decide +kernel
theorem dL_law_295 : decode cL_law 295 = .ok (.iconst 3, 1) := by decide +kernel
theorem dL_law_296 : decode cL_law 296 = .ok (.iadd, 1) := by decide +kernel
theorem dL_law_297 : decode cL_law 297 = .ok (.iaload, 1) := by decide +kernel
theorem dL_law_298 : decode cL_law 298 = .ok (.invokevirtual 48, 3) := by decide +kernel
theorem dL_law_301 : decode cL_law 301 = .ok (.if_icmp .eq 253, 3) := by decide +kernel
theorem dL_law_304 : decode cL_law 304 = .ok (.iconst 0, 1) := by decide +kernel
theorem dL_law_305 : decode cL_law 305 = .ok (.ireturn, 1) := by decide +kernel
theorem dL_law_306 : decode cL_law 306 = .ok (.aload_n 1, 1) := by decide +kernel
theorem dL_law_307 : decode cL_law 307 = .ok (.aload_n 0, 1) := by decide +kernel
theorem dL_law_308 : decode cL_law 308 = .ok (.iload_n 3, 1) := by decide +kernel
theorem dL_law_309 : decode cL_law 309 = .ok (.iconst 1, 1) := by decide +kernel
theorem dL_law_310 : decode cL_law 310 = .ok (.iadd, 1) := by decide +kernel
theorem dL_law_311 : decode cL_law 311 = .ok (.iaload, 1) := by decide +kernel
theorem dL_law_312 : decode cL_law 312 = .ok (.aload_n 0, 1) := by decide +kernel
theorem dL_law_313 : decode cL_law 313 = .ok (.iload_n 3, 1) := by decide +kernel
theorem dL_law_314 : decode cL_law 314 = .ok (.iconst 2, 1) := by decide +kernel
theorem dL_law_315 : decode cL_law 315 = .ok (.iadd, 1) := by decide +kernel
theorem dL_law_316 : decode cL_law 316 = .ok (.iaload, 1) := by decide +kernel
theorem dL_law_317 : decode cL_law 317 = .ok (.invokevirtual 49, 3) := by decide +kernel
theorem dL_law_320 : decode cL_law 320 = .ok (.aload_n 2, 1) := by decide +kernel
theorem dL_law_321 : decode cL_law 321 = .ok (.aload_n 0, 1) := by decide +kernel
theorem dL_law_322 : decode cL_law 322 = .ok (.iload_n 3, 1) := by decide +kernel
theorem dL_law_323 : decode cL_law 323 = .ok (.iconst 1, 1) := by decide +kernel
theorem dL_law_324 : decode cL_law 324 = .ok (.iadd, 1) := by decide +kernel
theorem dL_law_325 : decode cL_law 325 = .ok (.iaload, 1) := by decide +kernel
theorem dL_law_326 : decode cL_law 326 = .ok (.aload_n 0, 1) := by decide +kernel
theorem dL_law_327 : decode cL_law 327 = .ok (.iload_n 3, 1) := by decide +kernel
theorem dL_law_328 : decode cL_law 328 = .ok (.iconst 2, 1) := by decide +kernel
theorem dL_law_329 : decode cL_law 329 = .ok (.iadd, 1) := by decide +kernel
theorem dL_law_330 : decode cL_law 330 = .ok (.iaload, 1) := by decide +kernel
theorem dL_law_331 : decode cL_law 331 = .ok (.invokevirtual 53, 3) := by decide +kernel
theorem dL_law_334 : decode cL_law 334 = .ok (.if_icmp .eq 220, 3) := by decide +kernel
theorem dL_law_337 : decode cL_law 337 = .ok (.iconst 0, 1) := by decide +kernel
theorem dL_law_338 : decode cL_law 338 = .ok (.ireturn, 1) := by decide +kernel
theorem dL_law_339 : decode cL_law 339 = .ok (.aload_n 1, 1) := by decide +kernel
theorem dL_law_340 : decode cL_law 340 = .ok (.aload_n 0, 1) := by decide +kernel
theorem dL_law_341 : decode cL_law 341 = .ok (.iload_n 3, 1) := by decide +kernel
theorem dL_law_342 : decode cL_law 342 = .ok (.iconst 1, 1) := by decide +kernel
theorem dL_law_343 : decode cL_law 343 = .ok (.iadd, 1) := by decide +kernel
theorem dL_law_344 : decode cL_law 344 = .ok (.iaload, 1) := by decide +kernel
theorem dL_law_345 : decode cL_law 345 = .ok (.invokevirtual 54, 3) := by decide +kernel
theorem dL_law_348 : decode cL_law 348 = .ok (.aload_n 2, 1) := by decide +kernel
theorem dL_law_349 : decode cL_law 349 = .ok (.aload_n 0, 1) := by decide +kernel
theorem dL_law_350 : decode cL_law 350 = .ok (.iload_n 3, 1) := by decide +kernel
theorem dL_law_351 : decode cL_law 351 = .ok (.iconst 1, 1) := by decide +kernel
theorem dL_law_352 : decode cL_law 352 = .ok (.iadd, 1) := by decide +kernel
theorem dL_law_353 : decode cL_law 353 = .ok (.iaload, 1) := by decide +kernel
theorem dL_law_354 : decode cL_law 354 = .ok (.invokevirtual 57, 3) := by decide +kernel
theorem dL_law_357 : decode cL_law 357 = .ok (.if_icmp .eq 197, 3) := by decide +kernel
theorem dL_law_360 : decode cL_law 360 = .ok (.iconst 0, 1) := by decide +kernel
theorem dL_law_361 : decode cL_law 361 = .ok (.ireturn, 1) := by decide +kernel
theorem dL_law_362 : decode cL_law 362 = .ok (.aload_n 1, 1) := by decide +kernel
theorem dL_law_363 : decode cL_law 363 = .ok (.invokevirtual 58, 3) := by decide +kernel
theorem dL_law_366 : decode cL_law 366 = .ok (.aload_n 2, 1) := by decide +kernel
theorem dL_law_367 : decode cL_law 367 = .ok (.invokevirtual 61, 3) := by decide +kernel
theorem dL_law_370 : decode cL_law 370 = .ok (.if_icmp .eq 184, 3) := by decide +kernel
theorem dL_law_373 : decode cL_law 373 = .ok (.iconst 0, 1) := by decide +kernel
theorem dL_law_374 : decode cL_law 374 = .ok (.ireturn, 1) := by decide +kernel
theorem dL_law_375 : decode cL_law 375 = .ok (.aload_n 1, 1) := by decide +kernel
theorem dL_law_376 : decode cL_law 376 = .ok (.aload_n 0, 1) := by decide +kernel
theorem dL_law_377 : decode cL_law 377 = .ok (.iload_n 3, 1) := by decide +kernel
theorem dL_law_378 : decode cL_law 378 = .ok (.iconst 1, 1) := by decide +kernel
theorem dL_law_379 : decode cL_law 379 = .ok (.iadd, 1) := by decide +kernel
theorem dL_law_380 : decode cL_law 380 = .ok (.iaload, 1) := by decide +kernel
theorem dL_law_381 : decode cL_law 381 = .ok (.aload_n 0, 1) := by decide +kernel
theorem dL_law_382 : decode cL_law 382 = .ok (.iload_n 3, 1) := by decide +kernel
theorem dL_law_383 : decode cL_law 383 = .ok (.iconst 2, 1) := by decide +kernel
theorem dL_law_384 : decode cL_law 384 = .ok (.iadd, 1) := by decide +kernel
theorem dL_law_385 : decode cL_law 385 = .ok (.iaload, 1) := by decide +kernel
theorem dL_law_386 : decode cL_law 386 = .ok (.aload_n 0, 1) := by decide +kernel
theorem dL_law_387 : decode cL_law 387 = .ok (.iload_n 3, 1) := by decide +kernel
theorem dL_law_388 : decode cL_law 388 = .ok (.iconst 3, 1) := by decide +kernel
theorem dL_law_389 : decode cL_law 389 = .ok (.iadd, 1) := by decide +kernel
theorem dL_law_390 : decode cL_law 390 = .ok (.iaload, 1) := by decide +kernel
theorem dL_law_391 : decode cL_law 391 = .ok (.invokevirtual 62, 3) := by decide +kernel
theorem dL_law_394 : decode cL_law 394 = .ok (.aload_n 2, 1) := by decide +kernel
theorem dL_law_395 : decode cL_law 395 = .ok (.aload_n 0, 1) := by decide +kernel
theorem dL_law_396 : decode cL_law 396 = .ok (.iload_n 3, 1) := by decide +kernel
theorem dL_law_397 : decode cL_law 397 = .ok (.iconst 1, 1) := by decide +kernel
theorem dL_law_398 : decode cL_law 398 = .ok (.iadd, 1) := by decide +kernel
theorem dL_law_399 : decode cL_law 399 = .ok (.iaload, 1) := by decide +kernel
theorem dL_law_400 : decode cL_law 400 = .ok (.aload_n 0, 1) := by decide +kernel
theorem dL_law_401 : decode cL_law 401 = .ok (.iload_n 3, 1) := by decide +kernel
theorem dL_law_402 : decode cL_law 402 = .ok (.iconst 2, 1) := by decide +kernel
theorem dL_law_403 : decode cL_law 403 = .ok (.iadd, 1) := by decide +kernel
theorem dL_law_404 : decode cL_law 404 = .ok (.iaload, 1) := by decide +kernel
theorem dL_law_405 : decode cL_law 405 = .ok (.aload_n 0, 1) := by decide +kernel
theorem dL_law_406 : decode cL_law 406 = .ok (.iload_n 3, 1) := by decide +kernel
theorem dL_law_407 : decode cL_law 407 = .ok (.iconst 3, 1) := by decide +kernel
theorem dL_law_408 : decode cL_law 408 = .ok (.iadd, 1) := by decide +kernel
theorem dL_law_409 : decode cL_law 409 = .ok (.iaload, 1) := by decide +kernel
theorem dL_law_410 : decode cL_law 410 = .ok (.invokevirtual 65, 3) := by decide +kernel
theorem dL_law_413 : decode cL_law 413 = .ok (.if_icmp .eq 141, 3) := by decide +kernel
theorem dL_law_416 : decode cL_law 416 = .ok (.iconst 0, 1) := by decide +kernel
theorem dL_law_417 : decode cL_law 417 = .ok (.ireturn, 1) := by decide +kernel
theorem dL_law_418 : decode cL_law 418 = .ok (.aload_n 1, 1) := by decide +kernel
theorem dL_law_419 : decode cL_law 419 = .ok (.aload_n 0, 1) := by decide +kernel
theorem dL_law_420 : decode cL_law 420 = .ok (.iload_n 3, 1) := by decide +kernel
theorem dL_law_421 : decode cL_law 421 = .ok (.iconst 1, 1) := by decide +kernel
theorem dL_law_422 : decode cL_law 422 = .ok (.iadd, 1) := by decide +kernel
theorem dL_law_423 : decode cL_law 423 = .ok (.iaload, 1) := by decide +kernel
theorem dL_law_424 : decode cL_law 424 = .ok (.invokevirtual 66, 3) := by decide +kernel
theorem dL_law_427 : decode cL_law 427 = .ok (.aload_n 2, 1) := by decide +kernel
theorem dL_law_428 : decode cL_law 428 = .ok (.aload_n 0, 1) := by decide +kernel
theorem dL_law_429 : decode cL_law 429 = .ok (.iload_n 3, 1) := by decide +kernel
theorem dL_law_430 : decode cL_law 430 = .ok (.iconst 1, 1) := by decide +kernel
theorem dL_law_431 : decode cL_law 431 = .ok (.iadd, 1) := by decide +kernel
theorem dL_law_432 : decode cL_law 432 = .ok (.iaload, 1) := by decide +kernel
theorem dL_law_433 : decode cL_law 433 = .ok (.invokevirtual 69, 3) := by decide +kernel
theorem dL_law_436 : decode cL_law 436 = .ok (.if_icmp .eq 118, 3) := by decide +kernel
theorem dL_law_439 : decode cL_law 439 = .ok (.iconst 0, 1) := by decide +kernel
theorem dL_law_440 : decode cL_law 440 = .ok (.ireturn, 1) := by decide +kernel
theorem dL_law_441 : decode cL_law 441 = .ok (.aload_n 1, 1) := by decide +kernel
theorem dL_law_442 : decode cL_law 442 = .ok (.aload_n 0, 1) := by decide +kernel
theorem dL_law_443 : decode cL_law 443 = .ok (.iload_n 3, 1) := by decide +kernel
theorem dL_law_444 : decode cL_law 444 = .ok (.iconst 1, 1) := by decide +kernel
theorem dL_law_445 : decode cL_law 445 = .ok (.iadd, 1) := by decide +kernel
theorem dL_law_446 : decode cL_law 446 = .ok (.iaload, 1) := by decide +kernel
theorem dL_law_447 : decode cL_law 447 = .ok (.aload_n 0, 1) := by decide +kernel
theorem dL_law_448 : decode cL_law 448 = .ok (.iload_n 3, 1) := by decide +kernel
theorem dL_law_449 : decode cL_law 449 = .ok (.iconst 2, 1) := by decide +kernel
theorem dL_law_450 : decode cL_law 450 = .ok (.iadd, 1) := by decide +kernel
theorem dL_law_451 : decode cL_law 451 = .ok (.iaload, 1) := by decide +kernel
theorem dL_law_452 : decode cL_law 452 = .ok (.invokevirtual 70, 3) := by decide +kernel
theorem dL_law_455 : decode cL_law 455 = .ok (.aload_n 2, 1) := by decide +kernel
theorem dL_law_456 : decode cL_law 456 = .ok (.aload_n 0, 1) := by decide +kernel
theorem dL_law_457 : decode cL_law 457 = .ok (.iload_n 3, 1) := by decide +kernel
theorem dL_law_458 : decode cL_law 458 = .ok (.iconst 1, 1) := by decide +kernel
theorem dL_law_459 : decode cL_law 459 = .ok (.iadd, 1) := by decide +kernel
theorem dL_law_460 : decode cL_law 460 = .ok (.iaload, 1) := by decide +kernel
theorem dL_law_461 : decode cL_law 461 = .ok (.aload_n 0, 1) := by decide +kernel
theorem dL_law_462 : decode cL_law 462 = .ok (.iload_n 3, 1) := by decide +kernel
theorem dL_law_463 : decode cL_law 463 = .ok (.iconst 2, 1) := by decide +kernel
theorem dL_law_464 : decode cL_law 464 = .ok (.iadd, 1) := by decide +kernel
theorem dL_law_465 : decode cL_law 465 = .ok (.iaload, 1) := by decide +kernel
theorem dL_law_466 : decode cL_law 466 = .ok (.invokevirtual 73, 3) := by decide +kernel
theorem dL_law_469 : decode cL_law 469 = .ok (.if_icmp .eq 85, 3) := by decide +kernel
theorem dL_law_472 : decode cL_law 472 = .ok (.iconst 0, 1) := by decide +kernel
theorem dL_law_473 : decode cL_law 473 = .ok (.ireturn, 1) := by decide +kernel
theorem dL_law_474 : decode cL_law 474 = .ok (.aload_n 1, 1) := by decide +kernel
theorem dL_law_475 : decode cL_law 475 = .ok (.aload_n 0, 1) := by decide +kernel
theorem dL_law_476 : decode cL_law 476 = .ok (.iload_n 3, 1) := by decide +kernel
theorem dL_law_477 : decode cL_law 477 = .ok (.iconst 1, 1) := by decide +kernel
theorem dL_law_478 : decode cL_law 478 = .ok (.iadd, 1) := by decide +kernel
theorem dL_law_479 : decode cL_law 479 = .ok (.iaload, 1) := by decide +kernel
theorem dL_law_480 : decode cL_law 480 = .ok (.aload_n 0, 1) := by decide +kernel
theorem dL_law_481 : decode cL_law 481 = .ok (.iload_n 3, 1) := by decide +kernel
theorem dL_law_482 : decode cL_law 482 = .ok (.iconst 2, 1) := by decide +kernel
theorem dL_law_483 : decode cL_law 483 = .ok (.iadd, 1) := by decide +kernel
theorem dL_law_484 : decode cL_law 484 = .ok (.iaload, 1) := by decide +kernel
theorem dL_law_485 : decode cL_law 485 = .ok (.aload_n 0, 1) := by decide +kernel
theorem dL_law_486 : decode cL_law 486 = .ok (.iload_n 3, 1) := by decide +kernel
theorem dL_law_487 : decode cL_law 487 = .ok (.iconst 3, 1) := by decide +kernel
theorem dL_law_488 : decode cL_law 488 = .ok (.iadd, 1) := by decide +kernel
theorem dL_law_489 : decode cL_law 489 = .ok (.iaload, 1) := by decide +kernel
theorem dL_law_490 : decode cL_law 490 = .ok (.invokevirtual 74, 3) := by decide +kernel
theorem dL_law_493 : decode cL_law 493 = .ok (.aload_n 2, 1) := by decide +kernel
theorem dL_law_494 : decode cL_law 494 = .ok (.aload_n 0, 1) := by decide +kernel
theorem dL_law_495 : decode cL_law 495 = .ok (.iload_n 3, 1) := by decide +kernel
theorem dL_law_496 : decode cL_law 496 = .ok (.iconst 1, 1) := by decide +kernel
theorem dL_law_497 : decode cL_law 497 = .ok (.iadd, 1) := by decide +kernel
theorem dL_law_498 : decode cL_law 498 = .ok (.iaload, 1) := by decide +kernel
theorem dL_law_499 : decode cL_law 499 = .ok (.aload_n 0, 1) := by decide +kernel
theorem dL_law_500 : decode cL_law 500 = .ok (.iload_n 3, 1) := by decide +kernel
theorem dL_law_501 : decode cL_law 501 = .ok (.iconst 2, 1) := by decide +kernel
theorem dL_law_502 : decode cL_law 502 = .ok (.iadd, 1) := by decide +kernel
theorem dL_law_503 : decode cL_law 503 = .ok (.iaload, 1) := by decide +kernel
theorem dL_law_504 : decode cL_law 504 = .ok (.aload_n 0, 1) := by decide +kernel
theorem dL_law_505 : decode cL_law 505 = .ok (.iload_n 3, 1) := by decide +kernel
theorem dL_law_506 : decode cL_law 506 = .ok (.iconst 3, 1) := by decide +kernel
theorem dL_law_507 : decode cL_law 507 = .ok (.iadd, 1) := by decide +kernel
theorem dL_law_508 : decode cL_law 508 = .ok (.iaload, 1) := by decide +kernel
theorem dL_law_509 : decode cL_law 509 = .ok (.invokevirtual 77, 3) := by decide +kernel
theorem dL_law_512 : decode cL_law 512 = .ok (.if_icmp .eq 42, 3) := by decide +kernel
theorem dL_law_515 : decode cL_law 515 = .ok (.iconst 0, 1) := by decide +kernel
theorem dL_law_516 : decode cL_law 516 = .ok (.ireturn, 1) := by decide +kernel
theorem dL_law_517 : decode cL_law 517 = .ok (.aload_n 1, 1) := by decide +kernel
theorem dL_law_518 : decode cL_law 518 = .ok (.aload_n 0, 1) := by decide +kernel
theorem dL_law_519 : decode cL_law 519 = .ok (.iload_n 3, 1) := by decide +kernel
theorem dL_law_520 : decode cL_law 520 = .ok (.iconst 1, 1) := by decide +kernel
theorem dL_law_521 : decode cL_law 521 = .ok (.iadd, 1) := by decide +kernel
theorem dL_law_522 : decode cL_law 522 = .ok (.iaload, 1) := by decide +kernel
theorem dL_law_523 : decode cL_law 523 = .ok (.invokevirtual 78, 3) := by decide +kernel
theorem dL_law_526 : decode cL_law 526 = .ok (.aload_n 2, 1) := by decide +kernel
theorem dL_law_527 : decode cL_law 527 = .ok (.aload_n 0, 1) := by decide +kernel
theorem dL_law_528 : decode cL_law 528 = .ok (.iload_n 3, 1) := by decide +kernel
theorem dL_law_529 : decode cL_law 529 = .ok (.iconst 1, 1) := by decide +kernel
theorem dL_law_530 : decode cL_law 530 = .ok (.iadd, 1) := by decide +kernel
theorem dL_law_531 : decode cL_law 531 = .ok (.iaload, 1) := by decide +kernel
theorem dL_law_532 : decode cL_law 532 = .ok (.invokevirtual 81, 3) := by decide +kernel
theorem dL_law_535 : decode cL_law 535 = .ok (.if_icmp .eq 19, 3) := by decide +kernel
theorem dL_law_538 : decode cL_law 538 = .ok (.iconst 0, 1) := by decide +kernel
theorem dL_law_539 : decode cL_law 539 = .ok (.ireturn, 1) := by decide +kernel
theorem dL_law_540 : decode cL_law 540 = .ok (.aload_n 1, 1) := by decide +kernel
theorem dL_law_541 : decode cL_law 541 = .ok (.invokevirtual 82, 3) := by decide +kernel
theorem dL_law_544 : decode cL_law 544 = .ok (.aload_n 2, 1) := by decide +kernel
theorem dL_law_545 : decode cL_law 545 = .ok (.invokevirtual 86, 3) := by decide +kernel
theorem dL_law_548 : decode cL_law 548 = .ok (.lcmp, 1) := by decide +kernel
theorem dL_law_549 : decode cL_law 549 = .ok (.ifCond .eq 5, 3) := by decide +kernel
theorem dL_law_552 : decode cL_law 552 = .ok (.iconst 0, 1) := by decide +kernel
theorem dL_law_553 : decode cL_law 553 = .ok (.ireturn, 1) := by decide +kernel
theorem dL_law_554 : decode cL_law 554 = .ok (.iinc 3 4, 3) := by decide +kernel
theorem dL_law_557 : decode cL_law 557 = .ok (.goto (-539), 3) := by decide +kernel
theorem dL_law_560 : decode cL_law 560 = .ok (.iconst 1, 1) := by decide +kernel
theorem dL_law_561 : decode cL_law 561 = .ok (.ireturn, 1) := by decide +kernel
abbrev vwCl : List vw_C := [(RX1, TX1, 6), (RX2, TX2, 3), (RX3, TX3, 4), (RX4, TX4, 2), (RX5, TX5, 3), (RX6, TX6, 5), (RX7, TX7, 9), (RX8, TX8, 25)]
end
section
/-- the tables' words that a callee may ask of its caller -/
def gl : List Cond := lw_tbl.filter goodWord
theorem gl_all : gl.all goodWord = true := List.all_eq_true.mpr fun w h => (List.mem_filter.mp h).2
theorem gl_in {w : Cond} (h : w ∈ gl) : w ∈ lw_tbl := (List.mem_filter.mp h).1
theorem goodIn_sub' {big ws : List Cond} (hm : ∀ w ∈ ws, w ∈ big) (h : ws.all goodWord = true) : GoodIn big ws := fun w hw => ⟨hm w hw, good_of_word (List.all_eq_true.mp h w hw)⟩
theorem tb (i : Nat) {w : Cond} (h : tables_1[i]? = some w) (hg : goodWord w = true) : w ∈ gl := List.mem_filter.mpr ⟨List.mem_append_right _ (List.mem_of_getElem? h), hg⟩
theorem ts (i : Nat) {w : Cond} (h : (k2_sels lw_privs)[i]? = some w) (hg : goodWord w = true) : w ∈ gl := List.mem_filter.mpr ⟨List.mem_append_left _ (List.mem_of_getElem? h), hg⟩
/-! PW: a method's walk told over a small state. Cells have numbers (their addresses are 'ad' of them); sg q i is the int in slot i of cell q. -/
abbrev Sg : Type := (Nat → Nat → Int32) × (Nat → Nat → Int64)
def rd (sg : Sg) (q i : Nat) : Int32 := sg.1 q i
def wr (sg : Sg) (q i : Nat) (v : Int32) : Sg := (fun q' i' => if q' = q ∧ i' = i then v else sg.1 q' i', sg.2)
def rdL (sg : Sg) (q i : Nat) : Int64 := sg.2 q i
def wrL (sg : Sg) (q i : Nat) (v : Int64) : Sg := (sg.1, fun q' i' => if q' = q ∧ i' = i then v else sg.2 q' i')
/-- a table of cells: .inl n an array of n ints; .inr (ci, fields): an object, a field (0, k) a reference to cell k, (1, _) an int, (2, _) a long -/
abbrev Tb : Type := List (Nat ⊕ (Nat × List (Nat × Nat)))
def fv (ad : Nat → Nat) (sg : Sg) (q j : Nat) (k : Nat × Nat) : Value := match k.1 with
  | 0 => .ref (ad k.2)
  | 1 => .int (rd sg q j)
  | _ => .long (rdL sg q j)
def cel (ad : Nat → Nat) (cA : ClassId) (sg : Sg) (q : Nat) (e : Nat ⊕ (Nat × List (Nat × Nat))) : Nat × va_E := match e with
  | .inl n => (ad q, .inl (cA, n, .inl (rd sg q)))
  | .inr u => (ad q, .inr (u.1, u.2.mapIdx (fun j k => fv ad sg q j k)))
def wld (tab : Tb) (ad : Nat → Nat) (cA : ClassId) (sg : Sg) : va_W := tab.mapIdx (fun q e => cel ad cA sg q e)
theorem wld_get {tab : Tb} {ad : Nat → Nat} {cA : ClassId} {sg : Sg} {q : Nat} {e : Nat ⊕ (Nat × List (Nat × Nat))} (h : tab[q]? = some e) : (wld tab ad cA sg)[q]? = some (cel ad cA sg q e) := by
  unfold wld
  rw [List.getElem?_mapIdx, h]
  rfl
theorem wld_set {tab : Tb} {ad : Nat → Nat} {cA : ClassId} {sg sg' : Sg} {q : Nat} {e : Nat ⊕ (Nat × List (Nat × Nat))} (h : tab[q]? = some e) (ho : ∀ k, k ≠ q → ∀ e, cel ad cA sg' k e = cel ad cA sg k e) : wld tab ad cA sg' = (wld tab ad cA sg).set q (cel ad cA sg' q e) := by
  apply List.ext_getElem?
  intro k
  by_cases hk : k = q
  · subst hk
    rw [List.getElem?_set_self (by unfold wld; rw [List.length_mapIdx]; exact (List.getElem?_eq_some_iff.mp h).1)]
    exact wld_get h
  · rw [List.getElem?_set_ne (Ne.symm hk)]
    unfold wld
    rw [List.getElem?_mapIdx, List.getElem?_mapIdx]
    cases tab[k]? with
    | none => rfl
    | some e' => exact congrArg some (ho k hk e')
theorem rd_wr_row {sg : Sg} {q i : Nat} {v : Int32} : rd (wr sg q i v) q = upd (rd sg q) i v := by
  funext j
  by_cases h : j = i <;> simp [rd, wr, upd, h]
theorem rd_wr_ne {sg : Sg} {q i k : Nat} {v : Int32} (h : k ≠ q) : rd (wr sg q i v) k = rd sg k := by
  funext j
  simp [rd, wr, h]
theorem fv_ne {ad : Nat → Nat} {sg sg' : Sg} {q : Nat} (h1 : rd sg' q = rd sg q) (h2 : rdL sg' q = rdL sg q) (j : Nat) (k : Nat × Nat) : fv ad sg' q j k = fv ad sg q j k := by
  obtain ⟨a, b⟩ := k
  match a with
  | 0 => rfl
  | 1 => simp [fv, h1]
  | n + 2 => simp [fv, h2]
theorem cel_ne {ad : Nat → Nat} {cA : ClassId} {sg sg' : Sg} {q : Nat} (h1 : rd sg' q = rd sg q) (h2 : rdL sg' q = rdL sg q) (e : Nat ⊕ (Nat × List (Nat × Nat))) : cel ad cA sg' q e = cel ad cA sg q e := by
  cases e with
  | inl n => simp [cel, h1]
  | inr u => simp only [cel]; rw [show (fun (j : Nat) (k : Nat × Nat) => fv ad sg' q j k) = (fun j k => fv ad sg q j k) from funext fun j => funext fun k => fv_ne h1 h2 j k]
theorem wld_wr {tab : Tb} {ad : Nat → Nat} {cA : ClassId} {sg : Sg} {q n i : Nat} {v : Int32} (h : tab[q]? = some (.inl n)) : wld tab ad cA (wr sg q i v) = (wld tab ad cA sg).set q (ad q, .inl (cA, n, .inl (upd (rd sg q) i v))) := by
  rw [wld_set (sg := sg) h (fun k hk e => cel_ne (rd_wr_ne hk) rfl e)]
  simp [cel, rd_wr_row]
theorem wld_put {tab : Tb} {ad : Nat → Nat} {cA : ClassId} {sg : Sg} {q ci j z : Nat} {fk : List (Nat × Nat)} {v : Int32} (h : tab[q]? = some (.inr (ci, fk))) (hj : fk[j]? = some (1, z)) : wld tab ad cA (wr sg q j v) = (wld tab ad cA sg).set q (ad q, .inr (ci, (fk.mapIdx (fun j k => fv ad sg q j k)).set j (.int v))) := by
  rw [wld_set (sg := sg) h (fun k hk e => cel_ne (rd_wr_ne hk) rfl e)]
  congr 1
  simp only [cel]
  congr 3
  apply List.ext_getElem?
  intro i
  by_cases hi : i = j
  · subst hi
    rw [List.getElem?_set_self (by rw [List.length_mapIdx]; exact (List.getElem?_eq_some_iff.mp hj).1), List.getElem?_mapIdx, hj]
    simp [fv, rd_wr_row, upd]
  · rw [List.getElem?_set_ne (Ne.symm hi), List.getElem?_mapIdx, List.getElem?_mapIdx]
    cases fk[i]? with
    | none => rfl
    | some k =>
      obtain ⟨a, b⟩ := k
      match a with
      | 0 => rfl
      | 1 => simp [fv, rd_wr_row, upd, hi]
      | n + 2 => rfl
theorem wld_putL {tab : Tb} {ad : Nat → Nat} {cA : ClassId} {sg : Sg} {q ci j z : Nat} {fk : List (Nat × Nat)} {v : Int64} (h : tab[q]? = some (.inr (ci, fk))) (hj : fk[j]? = some (2, z)) : wld tab ad cA (wrL sg q j v) = (wld tab ad cA sg).set q (ad q, .inr (ci, (fk.mapIdx (fun j k => fv ad sg q j k)).set j (.long v))) := by
  rw [wld_set (sg := sg) (sg' := wrL sg q j v) h (fun k hk e => cel_ne (sg := sg) (sg' := wrL sg q j v) rfl (by funext i; simp [rdL, wrL, hk]) e)]
  congr 1
  simp only [cel]
  congr 3
  apply List.ext_getElem?
  intro i
  by_cases hi : i = j
  · subst hi
    rw [List.getElem?_set_self (by rw [List.length_mapIdx]; exact (List.getElem?_eq_some_iff.mp hj).1), List.getElem?_mapIdx, hj]
    simp [fv, rdL, wrL]
  · rw [List.getElem?_set_ne (Ne.symm hi), List.getElem?_mapIdx, List.getElem?_mapIdx]
    cases fk[i]? with
    | none => rfl
    | some k =>
      obtain ⟨a, b⟩ := k
      match a with
      | 0 => rfl
      | 1 => rfl
      | n + 2 => simp [fv, rdL, wrL, hi]
/-- a value as the machine has it -/
def cv (ad : Nat → Nat) (v : Value) : Value := match v with
  | .ref k => .ref (ad k)
  | x => x
theorem cv_cat (ad : Nat → Nat) (v : Value) : (cv ad v).category = v.category := by cases v <;> rfl
def cvl (ad : Nat → Nat) (q : Nat × Value) : Nat × Value := (q.1, cv ad q.2)
theorem cv_sum (ad : Nat → Nat) (st : List Value) : ((st.map (cv ad)).map fun v => v.category).sum = (st.map fun v => v.category).sum := by
  rw [List.map_map]
  congr 1
  apply List.map_congr_left
  intro v _
  exact cv_cat ad v
theorem cvl_args (ad : Nat → Nat) : ∀ (vs : List Value) (i : Nat), lv_args i (vs.map (cv ad)) = (lv_args i vs).map (cvl ad)
  | [], _ => rfl
  | v :: vs, i => by
    show (i, cv ad v) :: lv_args (if (cv ad v).category = 2 then i + 2 else i + 1) (vs.map (cv ad)) = (i, cv ad v) :: (lv_args (if v.category = 2 then i + 2 else i + 1) vs).map (cvl ad)
    rw [cv_cat, cvl_args ad vs]
theorem cvl_sl (ad : Nat → Nat) : ∀ (vs : List Value), (lg_sl (vs.map (cv ad))).length = (lg_sl vs).length
  | [] => rfl
  | v :: vs => by
    have h := cvl_sl ad vs
    unfold lg_sl at h ⊢
    simp only [List.map_cons, List.flatMap_cons, List.length_append, h, cv_cat]
    congr 1
    split <;> rfl
theorem cvl_filter (ad : Nat → Nat) (lv : List (Nat × Value)) (P : Nat × Value → Bool) (hP : ∀ q, P (cvl ad q) = P q) : (lv.map (cvl ad)).filter P = (lv.filter P).map (cvl ad) := by
  rw [List.filter_map]
  congr 1
  apply List.filter_congr
  intro q _
  exact hP q
abbrev rmOf (rF rL : Nat) : Room := { frames := rF, cells := 0, slots := 0, locals := rL }
def PX (own : String) (cc : ByteArray) (nL : Nat) (rt : Option FieldType) (p : Program) (s : State) (m : MethodId) (args : Array Value) (meth : Method) (c : Code) : Prop := p.tables.exec = Jvm.exec ∧ c.code = cc ∧ c.maxLocals = nL ∧ meth.sig.returnType = rt ∧ s.vm.findClass own = some m.cls ∧ meth.locks = false ∧ ∀ w ∈ gl, w.before args s = true
def pB (tab : Tb) (dC : Nat → ClassId) (dI : Nat → Nat → Nat) (ad : Nat → Nat) (cA : ClassId) (A : Nat → Prop) (sg : Sg) (t : State) : Prop := va_P (dC, dI) vwCl (wld tab ad cA sg) t.heap ∧ va_K (dC, dI) vwCl [(cA, .int)] t ∧ va_D A (wld tab ad cA sg)
def pQ (tab : Tb) (dC : Nat → ClassId) (dI : Nat → Nat → Nat) (ad : Nat → Nat) (cA : ClassId) (A : Nat → Prop) (Post : Option Value → Sg → Prop) : Array Value → State → Outcome → State → Prop := fun _ st oc t => (∃ (v : Option Value) (sg : Sg), oc = .returned (v.map (cv ad)) ∧ Post v sg ∧ pB tab dC dI ad cA A sg t) ∧ va_F A st t
def PW (tab : Tb) (own : String) (cc : ByteArray) (nL : Nat) (rt : Option FieldType) (rF rL : Nat) (Post : Option Value → Sg → Prop) (pc : Nat) (lv : List (Nat × Value)) (st : List Value) (sg : Sg) : Prop :=
  ∀ (p : Program) (l : Launch) (e : Env) (s : State) (m : MethodId) (args : Array Value) (below : List Frame) (meth : Method) (c : Code) (dC : Nat → ClassId) (dI : Nat → Nat → Nat) (ad : Nat → Nat) (cA : ClassId) (A : Nat → Prop) (H : Heap) (locs : List Loc) (ls : Array Slot),
    PX own cc nL rt p s m args meth c → (∀ q, s.heap.size ≤ q → A q) → va_K (dC, dI) vwCl [(cA, .int)] s → va_P (dC, dI) vwCl (wld tab ad cA sg) H → va_D A (wld tab ad cA sg) → va_S A s.heap H locs → lv_has ls nL (lv.map (cvl ad)) →
    W p l e (rmOf rF rL) s m args below meth c H locs 0 0 (MQ below (pQ tab dC dI ad cA A Post) args s 0 0 A) (F0 m pc ls (st.map (cv ad)))
def Con (tab : Tb) (y : MethodName) (cc : ByteArray) (nL : Nat) (rt : Option FieldType) (rF rL : Nat) (vs : List Value) (sg : Sg) (Post : Option Value → Sg → Prop) : Prop :=
  ∀ (l : Launch) (dC : Nat → ClassId) (dI : Nat → Nat → Nat) (ad : Nat → Nat) (cA : ClassId) (sz : Nat), Met l y (.code y cc nL rt :: gl) (rmOf rF rL) (va_Pc (vs.map (cv ad)) (fun U => U.heap.size = sz ∧ va_P (dC, dI) vwCl (wld tab ad cA sg) U.heap ∧ va_K (dC, dI) vwCl [(cA, .int)] U ∧ va_D (fun _ => True) (wld tab ad cA sg))) (pQ tab dC dI ad cA (va_A (wld tab ad cA sg) sz) Post) 0 0 (va_A (wld tab ad cA sg) sz)
theorem Con.of {tab : Tb} {y : MethodName} {cc : ByteArray} {nL : Nat} {rt : Option FieldType} {rF rL : Nat} {vs : List Value} {sg : Sg} {Post : Option Value → Sg → Prop} (hy : plainName y.cls = true) (hn : (lg_sl vs).length ≤ nL) (k : PW tab y.cls cc nL rt rF rL Post 0 (lv_args 0 vs) [] sg) : Con tab y cc nL rt rF rL vs sg Post := by
  intro l dC dI ad cA sz
  refine Met.ofW (cc := cc) (maxL := nL) (ret := rt) hy rfl ?_
  intro p e s m args below meth c s₁ B hml hv
  obtain ⟨rfl, hsz, hP, hK, hD0⟩ := hv
  have hts := atoms_spec (ws := .code y cc nL rt :: gl) B.pre
  have hown : s.vm.findClass y.cls = some m.cls := findClass_of_methodNamed B.named
  subst hsz
  have hD := hD0.self (sz := s.heap.size)
  have hl := lv_entry (vs.map (cv ad)) (n := nL) (by rw [cvl_sl]; exact hn)
  rw [lg_entry_eq]
  rw [cvl_args] at hl
  exact k p l e s m _ below meth c dC dI ad cA _ s.heap [] _ ⟨B.exec, B.bytes, hml, B.returns, hown, B.notSynchronized, fun w h => hts w (List.mem_cons_of_mem _ h)⟩ (fun q h => Or.inr h) hK hP hD va_S.rf hl
theorem Con.mono {tab : Tb} {y : MethodName} {cc : ByteArray} {nL : Nat} {rt : Option FieldType} {rF rL : Nat} {vs : List Value} {sg : Sg} {Post Post' : Option Value → Sg → Prop} (h : Con tab y cc nL rt rF rL vs sg Post) (hP : ∀ v g, Post v g → Post' v g) : Con tab y cc nL rt rF rL vs sg Post' := by
  intro l dC dI ad cA sz p e ha hc hk s m args below hf happ hpre htr
  obtain ⟨k, o, h1, h2, h3, h4, h5⟩ := h l dC dI ad cA sz p e ha hc hk s m args below hf happ hpre htr
  refine ⟨k, o, h1, h2, h3, ?_, h5⟩
  obtain ⟨⟨v, g, e1, e2, e3⟩, e4⟩ := h4
  exact ⟨⟨v, g, e1, hP v g e2, e3⟩, e4⟩
section PWR
variable {tab : Tb} {own : String} {cc : ByteArray} {nL : Nat} {rt : Option FieldType} {rF rL : Nat} {Post : Option Value → Sg → Prop} {pc : Nat} {lv lv' : List (Nat × Value)} {st : List Value} {sg : Sg}
theorem PW.sub (ks : List Nat) (hl : lv_pick lv ks = lv') (k : PW tab own cc nL rt rF rL Post pc lv' st sg) : PW tab own cc nL rt rF rL Post pc lv st sg := by
  intro p l e s m args below meth c dC dI ad cA A H locs ls hX hA hK hP hD hS h
  refine k p l e s m args below meth c dC dI ad cA A H locs ls hX hA hK hP hD hS (lv_sub h ks ?_)
  rw [← hl]
  unfold lv_pick
  rw [List.map_filterMap]
  congr 1
  funext i
  rw [List.getElem?_map]
theorem PW.eq {pc2 : Nat} {lv2 : List (Nat × Value)} {st2 : List Value} {sg2 : Sg} (h1 : pc = pc2) (h2 : lv = lv2) (h3 : st = st2) (h4 : sg = sg2) (k : PW tab own cc nL rt rF rL Post pc2 lv2 st2 sg2) : PW tab own cc nL rt rF rL Post pc lv st sg := by
  subst h1; subst h2; subst h3; subst h4; exact k
theorem pw_iconst {n : Int} (v : Int32) (hd : decode cc pc = .ok (.iconst n, 1)) (hv : Int32.ofInt n = v) (k : PW tab own cc nL rt rF rL Post (pc + 1) lv (.int v :: st) sg) : PW tab own cc nL rt rF rL Post pc lv st sg := by
  intro p l e s m args below meth c dC dI ad cA A H locs ls hX hA hK hP hD hS h
  exact lv_iconst hX.1 hX.2.1 hd hv (k p l e s m args below meth c dC dI ad cA A H locs ls hX hA hK hP hD hS h)
theorem pw_bipush {n : Int} (v : Int32) (hd : decode cc pc = .ok (.bipush n, 2)) (hv : (Int8.ofInt n).toInt32 = v) (k : PW tab own cc nL rt rF rL Post (pc + 2) lv (.int v :: st) sg) : PW tab own cc nL rt rF rL Post pc lv st sg := by
  intro p l e s m args below meth c dC dI ad cA A H locs ls hX hA hK hP hD hS h
  exact lv_bipush hX.1 hX.2.1 hd hv (k p l e s m args below meth c dC dI ad cA A H locs ls hX hA hK hP hD hS h)
theorem pw_sipush {n : Int} (v : Int32) (hd : decode cc pc = .ok (.sipush n, 3)) (hv : (Int16.ofInt n).toInt32 = v) (k : PW tab own cc nL rt rF rL Post (pc + 3) lv (.int v :: st) sg) : PW tab own cc nL rt rF rL Post pc lv st sg := by
  intro p l e s m args below meth c dC dI ad cA A H locs ls hX hA hK hP hD hS h
  exact lv_sipush hX.1 hX.2.1 hd hv (k p l e s m args below meth c dC dI ad cA A H locs ls hX hA hK hP hD hS h)
theorem lv_get {ad : Nat → Nat} {ls : Array Slot} {j i : Nat} {v : Value} (h : lv_has ls nL (lv.map (cvl ad))) (hj : lv[j]? = some (i, v)) : ls[i]? = some (.val (cv ad v)) := lv_at h j (by rw [List.getElem?_map, hj]; rfl)
theorem pw_iload_n {k : Fin 4} {i : Nat} {x : Int32} (j : Nat) (hd : decode cc pc = .ok (.iload_n k, 1)) (hi : (k : Nat) = i) (hj : lv[j]? = some (i, .int x)) (kk : PW tab own cc nL rt rF rL Post (pc + 1) lv (.int x :: st) sg) : PW tab own cc nL rt rF rL Post pc lv st sg := by
  intro p l e s m args below meth c dC dI ad cA A H locs ls hX hA hK hP hD hS h
  exact lv_iload_n hX.1 hX.2.1 hd hi (lv_get h hj) (kk p l e s m args below meth c dC dI ad cA A H locs ls hX hA hK hP hD hS h)
theorem pw_iload {i : Nat} {x : Int32} (j : Nat) (hd : decode cc pc = .ok (.iload i, 2)) (hj : lv[j]? = some (i, .int x)) (kk : PW tab own cc nL rt rF rL Post (pc + 2) lv (.int x :: st) sg) : PW tab own cc nL rt rF rL Post pc lv st sg := by
  intro p l e s m args below meth c dC dI ad cA A H locs ls hX hA hK hP hD hS h
  exact lv_iload hX.1 hX.2.1 hd (lv_get h hj) (kk p l e s m args below meth c dC dI ad cA A H locs ls hX hA hK hP hD hS h)
theorem pw_lload_n {k : Fin 4} {i : Nat} {x : Int64} (j : Nat) (hd : decode cc pc = .ok (.lload_n k, 1)) (hi : (k : Nat) = i) (hj : lv[j]? = some (i, .long x)) (kk : PW tab own cc nL rt rF rL Post (pc + 1) lv (.long x :: st) sg) : PW tab own cc nL rt rF rL Post pc lv st sg := by
  intro p l e s m args below meth c dC dI ad cA A H locs ls hX hA hK hP hD hS h
  exact lv_lload_n hX.1 hX.2.1 hd hi (lv_get h hj) (kk p l e s m args below meth c dC dI ad cA A H locs ls hX hA hK hP hD hS h)
theorem pw_aload_n {k : Fin 4} {i : Nat} {x : Nat} (j : Nat) (hd : decode cc pc = .ok (.aload_n k, 1)) (hi : (k : Nat) = i) (hj : lv[j]? = some (i, .ref x)) (kk : PW tab own cc nL rt rF rL Post (pc + 1) lv (.ref x :: st) sg) : PW tab own cc nL rt rF rL Post pc lv st sg := by
  intro p l e s m args below meth c dC dI ad cA A H locs ls hX hA hK hP hD hS h
  exact lv_aload_n hX.1 hX.2.1 hd hi (lv_get h hj) (kk p l e s m args below meth c dC dI ad cA A H locs ls hX hA hK hP hD hS h)
theorem pw_aload {i : Nat} {x : Nat} (j : Nat) (hd : decode cc pc = .ok (.aload i, 2)) (hj : lv[j]? = some (i, .ref x)) (kk : PW tab own cc nL rt rF rL Post (pc + 2) lv (.ref x :: st) sg) : PW tab own cc nL rt rF rL Post pc lv st sg := by
  intro p l e s m args below meth c dC dI ad cA A H locs ls hX hA hK hP hD hS h
  exact lv_aload hX.1 hX.2.1 hd (lv_get h hj) (kk p l e s m args below meth c dC dI ad cA A H locs ls hX hA hK hP hD hS h)
theorem pw_istore_n {k : Fin 4} {i : Nat} {x : Int32} (lv2 : List (Nat × Value)) (hd : decode cc pc = .ok (.istore_n k, 1)) (hi : (k : Nat) = i) (hn : i < nL) (hl : (i, Value.int x) :: lv.filter (fun q => !(q.1 == i) && !(q.1 + 1 == i && q.2.category == 2)) = lv2) (kk : PW tab own cc nL rt rF rL Post (pc + 1) lv2 st sg) : PW tab own cc nL rt rF rL Post pc lv (.int x :: st) sg := by
  intro p l e s m args below meth c dC dI ad cA A H locs ls hX hA hK hP hD hS h
  refine lv_istore_n (lv' := lv2.map (cvl ad)) hX.1 hX.2.1 hd hi h hn ?_ (fun ls h => kk p l e s m args below meth c dC dI ad cA A H locs ls hX hA hK hP hD hS h)
  rw [← hl, cvl_filter _ _ _ (fun q => by simp [cvl, cv_cat])]
  rfl
theorem pw_istore {i : Nat} {x : Int32} (lv2 : List (Nat × Value)) (hd : decode cc pc = .ok (.istore i, 2)) (hn : i < nL) (hl : (i, Value.int x) :: lv.filter (fun q => !(q.1 == i) && !(q.1 + 1 == i && q.2.category == 2)) = lv2) (kk : PW tab own cc nL rt rF rL Post (pc + 2) lv2 st sg) : PW tab own cc nL rt rF rL Post pc lv (.int x :: st) sg := by
  intro p l e s m args below meth c dC dI ad cA A H locs ls hX hA hK hP hD hS h
  refine lv_istore (lv' := lv2.map (cvl ad)) hX.1 hX.2.1 hd h hn ?_ (fun ls h => kk p l e s m args below meth c dC dI ad cA A H locs ls hX hA hK hP hD hS h)
  rw [← hl, cvl_filter _ _ _ (fun q => by simp [cvl, cv_cat])]
  rfl
theorem pw_lstore_n {k : Fin 4} {i : Nat} {x : Int64} (lv2 : List (Nat × Value)) (hd : decode cc pc = .ok (.lstore_n k, 1)) (hi : (k : Nat) = i) (hn : i + 1 < nL) (hl : (i, Value.long x) :: lv.filter (fun q => !(q.1 == i) && (!(q.1 == i + 1) && !(q.1 + 1 == i && q.2.category == 2))) = lv2) (kk : PW tab own cc nL rt rF rL Post (pc + 1) lv2 st sg) : PW tab own cc nL rt rF rL Post pc lv (.long x :: st) sg := by
  intro p l e s m args below meth c dC dI ad cA A H locs ls hX hA hK hP hD hS h
  refine lv_lstore_n (lv' := lv2.map (cvl ad)) hX.1 hX.2.1 hd hi h hn ?_ (fun ls h => kk p l e s m args below meth c dC dI ad cA A H locs ls hX hA hK hP hD hS h)
  rw [← hl, cvl_filter _ _ _ (fun q => by simp [cvl, cv_cat])]
  rfl
theorem pw_iinc {i : Nat} {n : Int} {x : Int32} (j : Nat) (v : Int32) (lv2 : List (Nat × Value)) (hd : decode cc pc = .ok (.iinc i n, 3)) (hj : lv[j]? = some (i, .int x)) (hv : x + Int32.ofInt n = v) (hn : i < nL) (hl : (i, Value.int v) :: lv.filter (fun q => !(q.1 == i) && !(q.1 + 1 == i && q.2.category == 2)) = lv2) (kk : PW tab own cc nL rt rF rL Post (pc + 3) lv2 st sg) : PW tab own cc nL rt rF rL Post pc lv st sg := by
  intro p l e s m args below meth c dC dI ad cA A H locs ls hX hA hK hP hD hS h
  refine lv_iinc (v := v) (k := j) (x := x) (lv' := lv2.map (cvl ad)) hX.1 hX.2.1 hd h (by rw [List.getElem?_map, hj]; rfl) hv hn ?_ (fun ls h => kk p l e s m args below meth c dC dI ad cA A H locs ls hX hA hK hP hD hS h)
  rw [← hl, cvl_filter _ _ _ (fun q => by simp [cvl, cv_cat])]
  rfl
theorem pw_iadd {x y : Int32} (hd : decode cc pc = .ok (.iadd, 1)) (k : PW tab own cc nL rt rF rL Post (pc + 1) lv (.int (x + y) :: st) sg) : PW tab own cc nL rt rF rL Post pc lv (.int y :: .int x :: st) sg := by
  intro p l e s m args below meth c dC dI ad cA A H locs ls hX hA hK hP hD hS h
  exact lv_iadd hX.1 hX.2.1 hd (k p l e s m args below meth c dC dI ad cA A H locs ls hX hA hK hP hD hS h)
theorem pw_isub {x y : Int32} (hd : decode cc pc = .ok (.isub, 1)) (k : PW tab own cc nL rt rF rL Post (pc + 1) lv (.int (x - y) :: st) sg) : PW tab own cc nL rt rF rL Post pc lv (.int y :: .int x :: st) sg := by
  intro p l e s m args below meth c dC dI ad cA A H locs ls hX hA hK hP hD hS h
  exact lv_isub hX.1 hX.2.1 hd (k p l e s m args below meth c dC dI ad cA A H locs ls hX hA hK hP hD hS h)
theorem pw_imul {x y : Int32} (hd : decode cc pc = .ok (.imul, 1)) (k : PW tab own cc nL rt rF rL Post (pc + 1) lv (.int (x * y) :: st) sg) : PW tab own cc nL rt rF rL Post pc lv (.int y :: .int x :: st) sg := by
  intro p l e s m args below meth c dC dI ad cA A H locs ls hX hA hK hP hD hS h
  exact lv_imul hX.1 hX.2.1 hd (k p l e s m args below meth c dC dI ad cA A H locs ls hX hA hK hP hD hS h)
theorem pw_iand {x y : Int32} (hd : decode cc pc = .ok (.iand, 1)) (k : PW tab own cc nL rt rF rL Post (pc + 1) lv (.int (x &&& y) :: st) sg) : PW tab own cc nL rt rF rL Post pc lv (.int y :: .int x :: st) sg := by
  intro p l e s m args below meth c dC dI ad cA A H locs ls hX hA hK hP hD hS h
  exact lv_iand hX.1 hX.2.1 hd (k p l e s m args below meth c dC dI ad cA A H locs ls hX hA hK hP hD hS h)
theorem pw_ior {x y : Int32} (hd : decode cc pc = .ok (.ior, 1)) (k : PW tab own cc nL rt rF rL Post (pc + 1) lv (.int (x ||| y) :: st) sg) : PW tab own cc nL rt rF rL Post pc lv (.int y :: .int x :: st) sg := by
  intro p l e s m args below meth c dC dI ad cA A H locs ls hX hA hK hP hD hS h
  exact lv_ior hX.1 hX.2.1 hd (k p l e s m args below meth c dC dI ad cA A H locs ls hX hA hK hP hD hS h)
theorem pw_ixor {x y : Int32} (hd : decode cc pc = .ok (.ixor, 1)) (k : PW tab own cc nL rt rF rL Post (pc + 1) lv (.int (x ^^^ y) :: st) sg) : PW tab own cc nL rt rF rL Post pc lv (.int y :: .int x :: st) sg := by
  intro p l e s m args below meth c dC dI ad cA A H locs ls hX hA hK hP hD hS h
  exact lv_ixor hX.1 hX.2.1 hd (k p l e s m args below meth c dC dI ad cA A H locs ls hX hA hK hP hD hS h)
theorem pw_ishl {x y : Int32} (hd : decode cc pc = .ok (.ishl, 1)) (k : PW tab own cc nL rt rF rL Post (pc + 1) lv (.int (x <<< (y &&& 31)) :: st) sg) : PW tab own cc nL rt rF rL Post pc lv (.int y :: .int x :: st) sg := by
  intro p l e s m args below meth c dC dI ad cA A H locs ls hX hA hK hP hD hS h
  exact lv_ishl hX.1 hX.2.1 hd (k p l e s m args below meth c dC dI ad cA A H locs ls hX hA hK hP hD hS h)
theorem pw_ishr {x y : Int32} (hd : decode cc pc = .ok (.ishr, 1)) (k : PW tab own cc nL rt rF rL Post (pc + 1) lv (.int (x >>> (y &&& 31)) :: st) sg) : PW tab own cc nL rt rF rL Post pc lv (.int y :: .int x :: st) sg := by
  intro p l e s m args below meth c dC dI ad cA A H locs ls hX hA hK hP hD hS h
  exact lv_ishr hX.1 hX.2.1 hd (k p l e s m args below meth c dC dI ad cA A H locs ls hX hA hK hP hD hS h)
theorem pw_idiv {x y : Int32} (hd : decode cc pc = .ok (.idiv, 1)) (hne : ¬ y = 0) (k : PW tab own cc nL rt rF rL Post (pc + 1) lv (.int (x / y) :: st) sg) : PW tab own cc nL rt rF rL Post pc lv (.int y :: .int x :: st) sg := by
  intro p l e s m args below meth c dC dI ad cA A H locs ls hX hA hK hP hD hS h
  exact lv_idiv hX.1 hX.2.1 hd hne (k p l e s m args below meth c dC dI ad cA A H locs ls hX hA hK hP hD hS h)
theorem pw_irem {x y : Int32} (hd : decode cc pc = .ok (.irem, 1)) (hne : ¬ y = 0) (k : PW tab own cc nL rt rF rL Post (pc + 1) lv (.int (x - x / y * y) :: st) sg) : PW tab own cc nL rt rF rL Post pc lv (.int y :: .int x :: st) sg := by
  intro p l e s m args below meth c dC dI ad cA A H locs ls hX hA hK hP hD hS h
  exact lv_irem hX.1 hX.2.1 hd hne (k p l e s m args below meth c dC dI ad cA A H locs ls hX hA hK hP hD hS h)
theorem pw_iushr {x y : Int32} (hd : decode cc pc = .ok (.iushr, 1)) (k : PW tab own cc nL rt rF rL Post (pc + 1) lv (.int ((x.toUInt32 >>> (y.toUInt32 &&& Int32.toUInt32 31)).toInt32) :: st) sg) : PW tab own cc nL rt rF rL Post pc lv (.int y :: .int x :: st) sg := by
  intro p l e s m args below meth c dC dI ad cA A H locs ls hX hA hK hP hD hS h
  exact lv_iushr hX.1 hX.2.1 hd rfl (k p l e s m args below meth c dC dI ad cA A H locs ls hX hA hK hP hD hS h)
theorem pw_ladd {x y : Int64} (hd : decode cc pc = .ok (.ladd, 1)) (k : PW tab own cc nL rt rF rL Post (pc + 1) lv (.long (x + y) :: st) sg) : PW tab own cc nL rt rF rL Post pc lv (.long y :: .long x :: st) sg := by
  intro p l e s m args below meth c dC dI ad cA A H locs ls hX hA hK hP hD hS h
  exact lv_ladd hX.1 hX.2.1 hd (k p l e s m args below meth c dC dI ad cA A H locs ls hX hA hK hP hD hS h)
theorem pw_lmul {x y : Int64} (hd : decode cc pc = .ok (.lmul, 1)) (k : PW tab own cc nL rt rF rL Post (pc + 1) lv (.long (x * y) :: st) sg) : PW tab own cc nL rt rF rL Post pc lv (.long y :: .long x :: st) sg := by
  intro p l e s m args below meth c dC dI ad cA A H locs ls hX hA hK hP hD hS h
  exact lv_lmul hX.1 hX.2.1 hd (k p l e s m args below meth c dC dI ad cA A H locs ls hX hA hK hP hD hS h)
theorem pw_i2l {x : Int32} (hd : decode cc pc = .ok (.i2l, 1)) (k : PW tab own cc nL rt rF rL Post (pc + 1) lv (.long x.toInt64 :: st) sg) : PW tab own cc nL rt rF rL Post pc lv (.int x :: st) sg := by
  intro p l e s m args below meth c dC dI ad cA A H locs ls hX hA hK hP hD hS h
  exact lv_i2l hX.1 hX.2.1 hd rfl (k p l e s m args below meth c dC dI ad cA A H locs ls hX hA hK hP hD hS h)
theorem pw_ldc2 {idx : Nat} {v : Int64} (hd : decode cc pc = .ok (.ldc2_w idx, 3)) (hc : Cond.constantLong own idx v ∈ gl) (k : PW tab own cc nL rt rF rL Post (pc + 3) lv (.long v :: st) sg) : PW tab own cc nL rt rF rL Post pc lv st sg := by
  intro p l e s m args below meth c dC dI ad cA A H locs ls hX hA hK hP hD hS h
  exact lv_ldc2 hX.1 hX.2.1 hX.2.2.2.2.1 (hX.2.2.2.2.2.2 _ hc) hd (k p l e s m args below meth c dC dI ad cA A H locs ls hX hA hK hP hD hS h)
theorem pw_dup {va : Value} (hd : decode cc pc = .ok (.dup, 1)) (hva : va.category = 1) (k : PW tab own cc nL rt rF rL Post (pc + 1) lv (va :: va :: st) sg) : PW tab own cc nL rt rF rL Post pc lv (va :: st) sg := by
  intro p l e s m args below meth c dC dI ad cA A H locs ls hX hA hK hP hD hS h
  exact lv_dup hX.1 hX.2.1 hd ((cv_cat ad va).trans hva) (k p l e s m args below meth c dC dI ad cA A H locs ls hX hA hK hP hD hS h)
theorem pw_dup2 {va vb : Value} (hd : decode cc pc = .ok (.dup2, 1)) (hva : va.category = 1) (hvb : vb.category = 1) (k : PW tab own cc nL rt rF rL Post (pc + 1) lv (va :: vb :: va :: vb :: st) sg) : PW tab own cc nL rt rF rL Post pc lv (va :: vb :: st) sg := by
  intro p l e s m args below meth c dC dI ad cA A H locs ls hX hA hK hP hD hS h
  exact lv_dup2_11 hX.1 hX.2.1 hd ((cv_cat ad va).trans hva) ((cv_cat ad vb).trans hvb) (k p l e s m args below meth c dC dI ad cA A H locs ls hX hA hK hP hD hS h)
theorem pw_icmp_eq {x y : Int32} {off : Int} (tgt : Nat) (hd : decode cc pc = .ok (.if_icmp .eq off, 3)) (ht : (pc : Int) + off = (tgt : Int)) (kt : x = y → PW tab own cc nL rt rF rL Post tgt lv st sg) (kf : ¬ x = y → PW tab own cc nL rt rF rL Post (pc + 3) lv st sg) : PW tab own cc nL rt rF rL Post pc lv (.int y :: .int x :: st) sg := by
  intro p l e s m args below meth c dC dI ad cA A H locs ls hX hA hK hP hD hS h
  exact lv_icmp_eq hX.1 hX.2.1 hd ht (fun q => kt q p l e s m args below meth c dC dI ad cA A H locs ls hX hA hK hP hD hS h) (fun q => kf q p l e s m args below meth c dC dI ad cA A H locs ls hX hA hK hP hD hS h)
theorem pw_icmp_ne {x y : Int32} {off : Int} (tgt : Nat) (hd : decode cc pc = .ok (.if_icmp .ne off, 3)) (ht : (pc : Int) + off = (tgt : Int)) (kt : ¬ x = y → PW tab own cc nL rt rF rL Post tgt lv st sg) (kf : x = y → PW tab own cc nL rt rF rL Post (pc + 3) lv st sg) : PW tab own cc nL rt rF rL Post pc lv (.int y :: .int x :: st) sg := by
  intro p l e s m args below meth c dC dI ad cA A H locs ls hX hA hK hP hD hS h
  exact lv_icmp_ne hX.1 hX.2.1 hd ht (fun q => kt q p l e s m args below meth c dC dI ad cA A H locs ls hX hA hK hP hD hS h) (fun q => kf q p l e s m args below meth c dC dI ad cA A H locs ls hX hA hK hP hD hS h)
theorem pw_icmp_lt {x y : Int32} {off : Int} (tgt : Nat) (hd : decode cc pc = .ok (.if_icmp .lt off, 3)) (ht : (pc : Int) + off = (tgt : Int)) (kt : x < y → PW tab own cc nL rt rF rL Post tgt lv st sg) (kf : ¬ x < y → PW tab own cc nL rt rF rL Post (pc + 3) lv st sg) : PW tab own cc nL rt rF rL Post pc lv (.int y :: .int x :: st) sg := by
  intro p l e s m args below meth c dC dI ad cA A H locs ls hX hA hK hP hD hS h
  exact lv_icmp_lt hX.1 hX.2.1 hd ht (fun q => kt q p l e s m args below meth c dC dI ad cA A H locs ls hX hA hK hP hD hS h) (fun q => kf q p l e s m args below meth c dC dI ad cA A H locs ls hX hA hK hP hD hS h)
theorem pw_icmp_ge {x y : Int32} {off : Int} (tgt : Nat) (hd : decode cc pc = .ok (.if_icmp .ge off, 3)) (ht : (pc : Int) + off = (tgt : Int)) (kt : y ≤ x → PW tab own cc nL rt rF rL Post tgt lv st sg) (kf : ¬ y ≤ x → PW tab own cc nL rt rF rL Post (pc + 3) lv st sg) : PW tab own cc nL rt rF rL Post pc lv (.int y :: .int x :: st) sg := by
  intro p l e s m args below meth c dC dI ad cA A H locs ls hX hA hK hP hD hS h
  exact lv_icmp_ge hX.1 hX.2.1 hd ht (fun q => kt q p l e s m args below meth c dC dI ad cA A H locs ls hX hA hK hP hD hS h) (fun q => kf q p l e s m args below meth c dC dI ad cA A H locs ls hX hA hK hP hD hS h)
theorem pw_icmp_gt {x y : Int32} {off : Int} (tgt : Nat) (hd : decode cc pc = .ok (.if_icmp .gt off, 3)) (ht : (pc : Int) + off = (tgt : Int)) (kt : y < x → PW tab own cc nL rt rF rL Post tgt lv st sg) (kf : ¬ y < x → PW tab own cc nL rt rF rL Post (pc + 3) lv st sg) : PW tab own cc nL rt rF rL Post pc lv (.int y :: .int x :: st) sg := by
  intro p l e s m args below meth c dC dI ad cA A H locs ls hX hA hK hP hD hS h
  exact lv_icmp_gt hX.1 hX.2.1 hd ht (fun q => kt q p l e s m args below meth c dC dI ad cA A H locs ls hX hA hK hP hD hS h) (fun q => kf q p l e s m args below meth c dC dI ad cA A H locs ls hX hA hK hP hD hS h)
theorem pw_icmp_le {x y : Int32} {off : Int} (tgt : Nat) (hd : decode cc pc = .ok (.if_icmp .le off, 3)) (ht : (pc : Int) + off = (tgt : Int)) (kt : x ≤ y → PW tab own cc nL rt rF rL Post tgt lv st sg) (kf : ¬ x ≤ y → PW tab own cc nL rt rF rL Post (pc + 3) lv st sg) : PW tab own cc nL rt rF rL Post pc lv (.int y :: .int x :: st) sg := by
  intro p l e s m args below meth c dC dI ad cA A H locs ls hX hA hK hP hD hS h
  exact lv_icmp_le hX.1 hX.2.1 hd ht (fun q => kt q p l e s m args below meth c dC dI ad cA A H locs ls hX hA hK hP hD hS h) (fun q => kf q p l e s m args below meth c dC dI ad cA A H locs ls hX hA hK hP hD hS h)
theorem pw_if_eq {x : Int32} {off : Int} (tgt : Nat) (hd : decode cc pc = .ok (.ifCond .eq off, 3)) (ht : (pc : Int) + off = (tgt : Int)) (kt : x = 0 → PW tab own cc nL rt rF rL Post tgt lv st sg) (kf : ¬ x = 0 → PW tab own cc nL rt rF rL Post (pc + 3) lv st sg) : PW tab own cc nL rt rF rL Post pc lv (.int x :: st) sg := by
  intro p l e s m args below meth c dC dI ad cA A H locs ls hX hA hK hP hD hS h
  exact lv_if_eq hX.1 hX.2.1 hd ht (fun q => kt q p l e s m args below meth c dC dI ad cA A H locs ls hX hA hK hP hD hS h) (fun q => kf q p l e s m args below meth c dC dI ad cA A H locs ls hX hA hK hP hD hS h)
theorem pw_if_ne {x : Int32} {off : Int} (tgt : Nat) (hd : decode cc pc = .ok (.ifCond .ne off, 3)) (ht : (pc : Int) + off = (tgt : Int)) (kt : ¬ x = 0 → PW tab own cc nL rt rF rL Post tgt lv st sg) (kf : x = 0 → PW tab own cc nL rt rF rL Post (pc + 3) lv st sg) : PW tab own cc nL rt rF rL Post pc lv (.int x :: st) sg := by
  intro p l e s m args below meth c dC dI ad cA A H locs ls hX hA hK hP hD hS h
  exact lv_if_ne hX.1 hX.2.1 hd ht (fun q => kt q p l e s m args below meth c dC dI ad cA A H locs ls hX hA hK hP hD hS h) (fun q => kf q p l e s m args below meth c dC dI ad cA A H locs ls hX hA hK hP hD hS h)
theorem pw_if_lt {x : Int32} {off : Int} (tgt : Nat) (hd : decode cc pc = .ok (.ifCond .lt off, 3)) (ht : (pc : Int) + off = (tgt : Int)) (kt : x < 0 → PW tab own cc nL rt rF rL Post tgt lv st sg) (kf : ¬ x < 0 → PW tab own cc nL rt rF rL Post (pc + 3) lv st sg) : PW tab own cc nL rt rF rL Post pc lv (.int x :: st) sg := by
  intro p l e s m args below meth c dC dI ad cA A H locs ls hX hA hK hP hD hS h
  exact lv_if_lt hX.1 hX.2.1 hd ht (fun q => kt q p l e s m args below meth c dC dI ad cA A H locs ls hX hA hK hP hD hS h) (fun q => kf q p l e s m args below meth c dC dI ad cA A H locs ls hX hA hK hP hD hS h)
theorem pw_if_ge {x : Int32} {off : Int} (tgt : Nat) (hd : decode cc pc = .ok (.ifCond .ge off, 3)) (ht : (pc : Int) + off = (tgt : Int)) (kt : 0 ≤ x → PW tab own cc nL rt rF rL Post tgt lv st sg) (kf : ¬ 0 ≤ x → PW tab own cc nL rt rF rL Post (pc + 3) lv st sg) : PW tab own cc nL rt rF rL Post pc lv (.int x :: st) sg := by
  intro p l e s m args below meth c dC dI ad cA A H locs ls hX hA hK hP hD hS h
  exact lv_if_ge hX.1 hX.2.1 hd ht (fun q => kt q p l e s m args below meth c dC dI ad cA A H locs ls hX hA hK hP hD hS h) (fun q => kf q p l e s m args below meth c dC dI ad cA A H locs ls hX hA hK hP hD hS h)
theorem pw_if_gt {x : Int32} {off : Int} (tgt : Nat) (hd : decode cc pc = .ok (.ifCond .gt off, 3)) (ht : (pc : Int) + off = (tgt : Int)) (kt : 0 < x → PW tab own cc nL rt rF rL Post tgt lv st sg) (kf : ¬ 0 < x → PW tab own cc nL rt rF rL Post (pc + 3) lv st sg) : PW tab own cc nL rt rF rL Post pc lv (.int x :: st) sg := by
  intro p l e s m args below meth c dC dI ad cA A H locs ls hX hA hK hP hD hS h
  exact lv_if_gt hX.1 hX.2.1 hd ht (fun q => kt q p l e s m args below meth c dC dI ad cA A H locs ls hX hA hK hP hD hS h) (fun q => kf q p l e s m args below meth c dC dI ad cA A H locs ls hX hA hK hP hD hS h)
theorem pw_if_le {x : Int32} {off : Int} (tgt : Nat) (hd : decode cc pc = .ok (.ifCond .le off, 3)) (ht : (pc : Int) + off = (tgt : Int)) (kt : x ≤ 0 → PW tab own cc nL rt rF rL Post tgt lv st sg) (kf : ¬ x ≤ 0 → PW tab own cc nL rt rF rL Post (pc + 3) lv st sg) : PW tab own cc nL rt rF rL Post pc lv (.int x :: st) sg := by
  intro p l e s m args below meth c dC dI ad cA A H locs ls hX hA hK hP hD hS h
  exact lv_if_le hX.1 hX.2.1 hd ht (fun q => kt q p l e s m args below meth c dC dI ad cA A H locs ls hX hA hK hP hD hS h) (fun q => kf q p l e s m args below meth c dC dI ad cA A H locs ls hX hA hK hP hD hS h)
theorem pw_goto {off : Int} (tgt : Nat) (hd : decode cc pc = .ok (.goto off, 3)) (ht : (pc : Int) + off = (tgt : Int)) (k : PW tab own cc nL rt rF rL Post tgt lv st sg) : PW tab own cc nL rt rF rL Post pc lv st sg := by
  intro p l e s m args below meth c dC dI ad cA A H locs ls hX hA hK hP hD hS h
  exact lv_goto hX.1 hX.2.1 hd ht (k p l e s m args below meth c dC dI ad cA A H locs ls hX hA hK hP hD hS h)
theorem pw_tableIn {dflt lo hi : Int} {offs : Array Int} {len : Nat} {x : Int32} {off : Int} (tgt : Nat) (hd : decode cc pc = .ok (.tableswitch dflt lo hi offs, len)) (h1 : ¬ x.toInt < lo) (h2 : ¬ hi < x.toInt) (ho : offs[(x.toInt - lo).toNat]? = some off) (ht : (pc : Int) + off = (tgt : Int)) (k : PW tab own cc nL rt rF rL Post tgt lv st sg) : PW tab own cc nL rt rF rL Post pc lv (.int x :: st) sg := by
  intro p l e s m args below meth c dC dI ad cA A H locs ls hX hA hK hP hD hS h
  exact lv_tableIn hX.1 hX.2.1 hd h1 h2 ho ht (k p l e s m args below meth c dC dI ad cA A H locs ls hX hA hK hP hD hS h)
theorem pw_tableOut {dflt lo hi : Int} {offs : Array Int} {len : Nat} {x : Int32} (tgt : Nat) (hd : decode cc pc = .ok (.tableswitch dflt lo hi offs, len)) (hn : x.toInt < lo ∨ hi < x.toInt) (ht : (pc : Int) + dflt = (tgt : Int)) (k : PW tab own cc nL rt rF rL Post tgt lv st sg) : PW tab own cc nL rt rF rL Post pc lv (.int x :: st) sg := by
  intro p l e s m args below meth c dC dI ad cA A H locs ls hX hA hK hP hD hS h
  exact lv_tableOut hX.1 hX.2.1 hd hn ht (k p l e s m args below meth c dC dI ad cA A H locs ls hX hA hK hP hD hS h)
theorem pw_lookup {dflt : Int} {ps : Array (Int × Int)} {len : Nat} {x : Int32} {off : Int} (tgt : Nat) (hd : decode cc pc = .ok (.lookupswitch dflt ps, len)) (hp : (ps.toList.zip (ps.toList.drop 1)).all (fun (a, next) => a.1 < next.1) = true) (ho : Op.lookupswitch.offset ps.toList dflt x.toInt = off) (ht : (pc : Int) + off = (tgt : Int)) (k : PW tab own cc nL rt rF rL Post tgt lv st sg) : PW tab own cc nL rt rF rL Post pc lv (.int x :: st) sg := by
  intro p l e s m args below meth c dC dI ad cA A H locs ls hX hA hK hP hD hS h
  exact lv_lookup hX.1 hX.2.1 hd hp ho ht (k p l e s m args below meth c dC dI ad cA A H locs ls hX hA hK hP hD hS h)
theorem pw_iaload {q n : Nat} {i : Int32} (hd : decode cc pc = .ok (.iaload, 1)) (ht : tab[q]? = some (.inl n)) (hi : vp_in i n) (k : PW tab own cc nL rt rF rL Post (pc + 1) lv (.int (rd sg q i.toNatClampNeg) :: st) sg) : PW tab own cc nL rt rF rL Post pc lv (.int i :: .ref q :: st) sg := by
  intro p l e s m args below meth c dC dI ad cA A H locs ls hX hA hK hP hD hS h
  exact va_iald hX.1 hX.2.1 hK hP q 0 (wld_get ht) rfl hi hd (k p l e s m args below meth c dC dI ad cA A H locs ls hX hA hK hP hD hS h)
theorem pw_iastore {q n : Nat} {i x : Int32} (hd : decode cc pc = .ok (.iastore, 1)) (ht : tab[q]? = some (.inl n)) (hi : vp_in i n) (k : PW tab own cc nL rt rF rL Post (pc + 1) lv st (wr sg q i.toNatClampNeg x)) : PW tab own cc nL rt rF rL Post pc lv (.int x :: .int i :: .ref q :: st) sg := by
  intro p l e s m args below meth c dC dI ad cA A H locs ls hX hA hK hP hD hS h
  refine va_iast hX.1 hX.2.1 hK hP hD hS q 0 (wld_get ht) rfl hi hd (fun H locs hP hD hS => ?_)
  rw [← wld_wr ht] at hP hD
  exact k p l e s m args below meth c dC dI ad cA A H locs ls hX hA hK hP hD hS h
/-- what a class row of vwCl needs: its fields' words are in the tables, its types -/
def clOk (ci : Nat) (C : String) (T : u_T) (N : Nat) (ty : Nat → FieldType) : Prop := vwCl[ci]? = some (C, T, N) ∧ (∀ w ∈ u_ws C T N, w ∈ gl) ∧ (∀ k, k < N → parseFieldDescriptor (T k).2.2.1 = some (ty k)) ∧ (∀ a, a < N → ∀ b, b < N → a ≠ b → (T a).2.1 ≠ (T b).2.1)
theorem pw_getr {q ci N idx z : Nat} {C : String} {T : u_T} {ty : Nat → FieldType} {fk : List (Nat × Nat)} (j : Nat) (hd : decode cc pc = .ok (.getfield idx, 3)) (hcl : clOk ci C T N ty) (ht : tab[q]? = some (.inr (ci, fk))) (hN : j < N) (hlk : Cond.fieldLink own idx (T j).1 (T j).2.1 (T j).2.2.1 ∈ gl) (hj : fk[j]? = some (0, z)) (k : PW tab own cc nL rt rF rL Post (pc + 3) lv (.ref z :: st) sg) : PW tab own cc nL rt rF rL Post pc lv (.ref q :: st) sg := by
  intro p l e s m args below meth c dC dI ad cA A H locs ls hX hA hK hP hD hS h
  exact va_get hX.1 hX.2.1 hX.2.2.2.2.2.2 hcl.2.1 hX.2.2.2.2.1 hK hP q (wld_get ht) hcl.1 j hN (hX.2.2.2.2.2.2 _ hlk) (fun _ h9 => h9) (by rw [List.getElem?_mapIdx, hj]; rfl) hd (k p l e s m args below meth c dC dI ad cA A H locs ls hX hA hK hP hD hS h)
theorem pw_geti {q ci N idx z : Nat} {C : String} {T : u_T} {ty : Nat → FieldType} {fk : List (Nat × Nat)} (j : Nat) (hd : decode cc pc = .ok (.getfield idx, 3)) (hcl : clOk ci C T N ty) (ht : tab[q]? = some (.inr (ci, fk))) (hN : j < N) (hlk : Cond.fieldLink own idx (T j).1 (T j).2.1 (T j).2.2.1 ∈ gl) (hj : fk[j]? = some (1, z)) (k : PW tab own cc nL rt rF rL Post (pc + 3) lv (.int (rd sg q j) :: st) sg) : PW tab own cc nL rt rF rL Post pc lv (.ref q :: st) sg := by
  intro p l e s m args below meth c dC dI ad cA A H locs ls hX hA hK hP hD hS h
  exact va_get hX.1 hX.2.1 hX.2.2.2.2.2.2 hcl.2.1 hX.2.2.2.2.1 hK hP q (wld_get ht) hcl.1 j hN (hX.2.2.2.2.2.2 _ hlk) (fun _ h9 => h9) (by rw [List.getElem?_mapIdx, hj]; rfl) hd (k p l e s m args below meth c dC dI ad cA A H locs ls hX hA hK hP hD hS h)
theorem pw_getl {q ci N idx z : Nat} {C : String} {T : u_T} {ty : Nat → FieldType} {fk : List (Nat × Nat)} (j : Nat) (hd : decode cc pc = .ok (.getfield idx, 3)) (hcl : clOk ci C T N ty) (ht : tab[q]? = some (.inr (ci, fk))) (hN : j < N) (hlk : Cond.fieldLink own idx (T j).1 (T j).2.1 (T j).2.2.1 ∈ gl) (hj : fk[j]? = some (2, z)) (k : PW tab own cc nL rt rF rL Post (pc + 3) lv (.long (rdL sg q j) :: st) sg) : PW tab own cc nL rt rF rL Post pc lv (.ref q :: st) sg := by
  intro p l e s m args below meth c dC dI ad cA A H locs ls hX hA hK hP hD hS h
  exact va_get hX.1 hX.2.1 hX.2.2.2.2.2.2 hcl.2.1 hX.2.2.2.2.1 hK hP q (wld_get ht) hcl.1 j hN (hX.2.2.2.2.2.2 _ hlk) (fun _ h9 => h9) (by rw [List.getElem?_mapIdx, hj]; rfl) hd (k p l e s m args below meth c dC dI ad cA A H locs ls hX hA hK hP hD hS h)
theorem pw_puti {q ci N idx z : Nat} {C : String} {T : u_T} {ty : Nat → FieldType} {fk : List (Nat × Nat)} (j : Nat) {fty : FieldType} {v : Int32} (hd : decode cc pc = .ok (.putfield idx, 3)) (hcl : clOk ci C T N ty) (ht : tab[q]? = some (.inr (ci, fk))) (hN : j < N) (hlk : Cond.fieldLink own idx (T j).1 (T j).2.1 (T j).2.2.1 ∈ gl) (hj : fk[j]? = some (1, z)) (hfin : (T j).2.2.2 = false) (hty : parseFieldDescriptor (T j).2.2.1 = some fty) (hnr : narrow fty (.int v) = .int v) (hfit : fits fty (.int v) = true) (k : PW tab own cc nL rt rF rL Post (pc + 3) lv st (wr sg q j v)) : PW tab own cc nL rt rF rL Post pc lv (.int v :: .ref q :: st) sg := by
  intro p l e s m args below meth c dC dI ad cA A H locs ls hX hA hK hP hD hS h
  refine va_put hX.1 hX.2.1 hX.2.2.2.2.2.2 hcl.2.1 ty hcl.2.2.1 hcl.2.2.2 hX.2.2.2.2.1 hK hP hD hS q (wld_get ht) hcl.1 j hN (hX.2.2.2.2.2.2 _ hlk) (fun _ h9 => h9) hfin hty hnr hfit (by rw [List.length_mapIdx]; exact (List.getElem?_eq_some_iff.mp hj).1) hd (fun H locs hP hD hS => ?_)
  have hP : va_P (dC, dI) vwCl ((wld tab ad cA sg).set q (ad q, .inr (ci, (fk.mapIdx (fun j k => fv ad sg q j k)).set j (.int v)))) H := hP
  have hD : va_D A ((wld tab ad cA sg).set q (ad q, .inr (ci, (fk.mapIdx (fun j k => fv ad sg q j k)).set j (.int v)))) := hD
  rw [← wld_put ht hj] at hP hD
  exact k p l e s m args below meth c dC dI ad cA A H locs ls hX hA hK hP hD hS h
theorem pw_putl {q ci N idx z : Nat} {C : String} {T : u_T} {ty : Nat → FieldType} {fk : List (Nat × Nat)} (j : Nat) {fty : FieldType} {v : Int64} (hd : decode cc pc = .ok (.putfield idx, 3)) (hcl : clOk ci C T N ty) (ht : tab[q]? = some (.inr (ci, fk))) (hN : j < N) (hlk : Cond.fieldLink own idx (T j).1 (T j).2.1 (T j).2.2.1 ∈ gl) (hj : fk[j]? = some (2, z)) (hfin : (T j).2.2.2 = false) (hty : parseFieldDescriptor (T j).2.2.1 = some fty) (hnr : narrow fty (.long v) = .long v) (hfit : fits fty (.long v) = true) (k : PW tab own cc nL rt rF rL Post (pc + 3) lv st (wrL sg q j v)) : PW tab own cc nL rt rF rL Post pc lv (.long v :: .ref q :: st) sg := by
  intro p l e s m args below meth c dC dI ad cA A H locs ls hX hA hK hP hD hS h
  refine va_put hX.1 hX.2.1 hX.2.2.2.2.2.2 hcl.2.1 ty hcl.2.2.1 hcl.2.2.2 hX.2.2.2.2.1 hK hP hD hS q (wld_get ht) hcl.1 j hN (hX.2.2.2.2.2.2 _ hlk) (fun _ h9 => h9) hfin hty hnr hfit (by rw [List.length_mapIdx]; exact (List.getElem?_eq_some_iff.mp hj).1) hd (fun H locs hP hD hS => ?_)
  have hP : va_P (dC, dI) vwCl ((wld tab ad cA sg).set q (ad q, .inr (ci, (fk.mapIdx (fun j k => fv ad sg q j k)).set j (.long v)))) H := hP
  have hD : va_D A ((wld tab ad cA sg).set q (ad q, .inr (ci, (fk.mapIdx (fun j k => fv ad sg q j k)).set j (.long v)))) := hD
  rw [← wld_putL ht hj] at hP hD
  exact k p l e s m args below meth c dC dI ad cA A H locs ls hX hA hK hP hD hS h
theorem pw_ireturn {v : Int32} (hd : decode cc pc = .ok (.ireturn, 1)) (hr : rt = some .int) (hq : Post (some (.int v)) sg) : PW tab own cc nL rt rF rL Post pc lv [.int v] sg := by
  intro p l e s m args below meth c dC dI ad cA A H locs ls hX hA hK hP hD hS h
  have hlocks : meth.locks = false := hX.2.2.2.2.2.1
  exact W.iret hX.1 hX.2.1 (hX.2.2.2.1.trans hr) (fun t ht hW => ⟨⟨some (.int v), sg, rfl, hq, by rw [ht]; exact hP, va_K.moved hW.alike hK, hD⟩, hS.F ht⟩) hS.2.2 hd
theorem pw_zreturn {v : Int32} (hd : decode cc pc = .ok (.ireturn, 1)) (hr : rt = some .boolean) (hn : narrow .boolean (.int v) = .int v) (hq : Post (some (.int v)) sg) : PW tab own cc nL rt rF rL Post pc lv [.int v] sg := by
  intro p l e s m args below meth c dC dI ad cA A H locs ls hX hA hK hP hD hS h
  have hlocks : meth.locks = false := hX.2.2.2.2.2.1
  exact W.zret hX.1 hX.2.1 (hX.2.2.2.1.trans hr) hn (fun t ht hW => ⟨⟨some (.int v), sg, rfl, hq, by rw [ht]; exact hP, va_K.moved hW.alike hK, hD⟩, hS.F ht⟩) hS.2.2 hd
theorem pw_lreturn {v : Int64} (hd : decode cc pc = .ok (.lreturn, 1)) (hr : rt = some .long) (hq : Post (some (.long v)) sg) : PW tab own cc nL rt rF rL Post pc lv [.long v] sg := by
  intro p l e s m args below meth c dC dI ad cA A H locs ls hX hA hK hP hD hS h
  have hlocks : meth.locks = false := hX.2.2.2.2.2.1
  exact W.lret hX.1 hX.2.1 (hX.2.2.2.1.trans hr) (fun t ht hW => ⟨⟨some (.long v), sg, rfl, hq, by rw [ht]; exact hP, va_K.moved hW.alike hK, hD⟩, hS.F ht⟩) hS.2.2 hd
theorem pw_return (hd : decode cc pc = .ok (.return_, 1)) (hr : rt = none) (hq : Post none sg) : PW tab own cc nL rt rF rL Post pc lv [] sg := by
  intro p l e s m args below meth c dC dI ad cA A H locs ls hX hA hK hP hD hS h
  have hlocks : meth.locks = false := hX.2.2.2.2.2.1
  exact W.vret hX.1 hX.2.1 (hX.2.2.2.1.trans hr) (fun t ht hW => ⟨⟨none, sg, rfl, hq, by rw [ht]; exact hP, va_K.moved hW.alike hK, hD⟩, hS.F ht⟩) hS.2.2 hd
theorem tbl_good : GoodIn gl gl := goodIn_sub' (fun _ h => h) gl_all
theorem pw_call {p : Program} {l : Launch} {e : Env} {s : State} {m : MethodId} {args : Array Value} {below : List Frame} {meth : Method} {c : Code} {dC : Nat → ClassId} {dI : Nat → Nat → Nat} {ad : Nat → Nat} {cA : ClassId} {A : Nat → Prop} {H : Heap} {locs : List Loc} {ls : Array Slot} {st0 rest : List Value} {a : Array Value} {Q : State → Prop} {Post2 : Option Value → Sg → Prop}
    (hr : va_Run p l e (rmOf rF rL) s m args below meth c H locs 0 0 0 0 (F0 m pc ls st0) rest (pQ tab dC dI ad cA (va_A (wld tab ad cA sg) H.size) Post2 a) (va_A (wld tab ad cA sg) H.size))
    (hA : ∀ q, s.heap.size ≤ q → A q) (hD : va_D A (wld tab ad cA sg)) (hS : va_S A s.heap H locs)
    (kk : ∀ (v : Option Value) (sg2 : Sg) (H1 : Heap) (locs1 : List Loc), Post2 v sg2 → va_P (dC, dI) vwCl (wld tab ad cA sg2) H1 → va_D A (wld tab ad cA sg2) → va_S A s.heap H1 locs1 → W p l e (rmOf rF rL) s m args below meth c H1 locs1 0 0 Q (F0 m (pc + 3) ls ((v.map (cv ad)).toList ++ rest))) : W p l e (rmOf rF rL) s m args below meth c H locs 0 0 Q (F0 m pc ls st0) := by
  have hF : ∀ q, va_A (wld tab ad cA sg) H.size q → A q := by
    intro q h
    rcases h with ⟨k, e, h⟩ | h
    · exact hD.2 k (q, e) h
    · exact hA q (Nat.le_trans hS.1 h)
  intro T hT X
  obtain ⟨v, st₀, t, T', L, h0, X', hL, e1, e2, ⟨⟨v2, sg2, hv, hp, hP1, hK1, hD1⟩, hz, hk⟩, stp⟩ := hr T hT X
  cases hv
  rw [h0] at hz hk
  obtain ⟨t2, a1, b1⟩ := kk v2 sg2 T'.heap (locs ++ L) hp (by rw [e1]; exact hP1) (hD1.weaken (fun k q _ h => hF q.1 h))
    ⟨Nat.le_trans hS.1 (by rw [e1]; exact hz), fun q h1 h2 => by rw [e1, hk q (Nat.lt_of_lt_of_le h1 hS.1) (fun z => h2 (hF q z))]; exact hS.2.1 q h1 h2, fun q hq => by
      rcases List.mem_append.mp hq with h | h
      · exact hS.2.2 q h
      · exact hF _ (hL q h)⟩ T' rfl X'
  exact ⟨t2, stp t2 a1, b1⟩
theorem con_words {y : MethodName} {cc : ByteArray} {nL : Nat} {rt : Option FieldType} (hco : Cond.code y cc nL rt ∈ gl) : GoodIn gl (.code y cc nL rt :: gl) := by
  intro w hw
  rcases List.mem_cons.mp hw with h | h
  · rw [h]; exact tbl_good _ hco
  · exact tbl_good _ h
theorem con_blind {dC : Nat → ClassId} {dI : Nat → Nat → Nat} {cA : ClassId} {sz : Nat} {av : List Value} {wl : va_W} : FrameBlind (va_Pc av (fun U => U.heap.size = sz ∧ va_P (dC, dI) vwCl wl U.heap ∧ va_K (dC, dI) vwCl [(cA, .int)] U ∧ va_D (fun _ => True) wl)) := by
  intro a U g mk q
  obtain ⟨q0, q1, qP, qK, qD⟩ := q
  exact ⟨q0, q1, qP, va_K.moved (u := U) (U := U.calling g mk a) (Vm.Alike.refl U.vm) qK, qD⟩
theorem pw_callS {idx : Nat} {y : MethodName} {cc2 : ByteArray} {nL2 : Nat} {rt2 : Option FieldType} {rF2 rL2 : Nat} {Post2 : Option Value → Sg → Prop} (vs : List Value) (hd : decode cc pc = .ok (.invokestatic idx, 3)) (hlk : Cond.methodLink own idx y ∈ gl) (hst : Cond.static y ∈ gl) (hini : Cond.initialized y.cls ∈ gl) (hco : Cond.code y cc2 nL2 rt2 ∈ gl)
    (hy : y.cls ≠ "java/lang/invoke/MethodHandle" ∧ y.cls ≠ "java/lang/invoke/VarHandle" ∧ (parseMethodDescriptor y.desc).map (fun d => d.parameters.length) = some vs.length) (hR : rF2 + 1 ≤ rF ∧ 8 + (nL2 + 11) + rL2 ≤ rL) (hw : (st.map fun v => v.category).sum ≤ 8)
    (con : Con tab y cc2 nL2 rt2 rF2 rL2 vs sg Post2) (kk : ∀ (v : Option Value) (sg2 : Sg), Post2 v sg2 → PW tab own cc nL rt rF rL Post (pc + 3) lv (v.toList ++ st) sg2) : PW tab own cc nL rt rF rL Post pc lv (vs.reverse ++ st) sg := by
  intro p l e s m args below meth c dC dI ad cA A H locs ls hX hA hK hP hD hS h
  have hts := hX.2.2.2.2.2.2
  have cb := callB_of (R := rmOf rF rL) (rm := rmOf rF2 rL2) (mc := 0) (ms := 0) (index := idx) vs.length hts (con_words hco) rfl rfl rfl (hts _ hini) (hts _ hlk) hy hR
  have run := va_runS (As := vs.map (cv ad)) (rest := st.map (cv ad)) (g := F0 m pc ls ((vs.reverse ++ st).map (cv ad))) (H := H) (locs := locs) (cells := 0) (slots := 0) (below := below) (meth := meth) (e := e) ⟨hX.1, hX.2.1, hX.2.2.1, hX.2.2.2.2.1, hts⟩ (con l dC dI ad cA H.size) ⟨cb, hts _ hst⟩ ⟨con_blind, fun U hU hW => ⟨rfl, by rw [hU], by rw [hU]; exact hP, va_K.moved hW.alike hK, hD.weaken (fun _ _ _ _ => trivial)⟩⟩ rfl (List.length_map ..) h.1 (by rw [List.map_append, List.map_reverse]) (lv_room (by rw [cv_sum]; exact hw)) hd ⟨Nat.le_refl 0, Nat.le_refl 0⟩
  refine pw_call run hA hD hS (fun v sg2 H locs hp hP hD hS => ?_)
  have := kk v sg2 hp p l e s m args below meth c dC dI ad cA A H locs ls hX hA hK hP hD hS h
  rw [List.map_append] at this
  rw [show (v.map (cv ad)).toList = v.toList.map (cv ad) by cases v <;> rfl]
  exact this
theorem pw_callV {q ci N idx : Nat} {y : MethodName} {cc2 : ByteArray} {nL2 : Nat} {rt2 : Option FieldType} {rF2 rL2 : Nat} {fk : List (Nat × Nat)} {T : u_T} {Post2 : Option Value → Sg → Prop} (vs : List Value) (hd : decode cc pc = .ok (.invokevirtual idx, 3)) (ht : tab[q]? = some (.inr (ci, fk))) (hcl : vwCl[ci]? = some (y.cls, T, N)) (hlk : Cond.methodLink own idx y ∈ gl) (him : Cond.instanceMethod y ∈ gl) (hse : Cond.selects y.cls y y ∈ gl) (hini : Cond.initialized y.cls ∈ gl) (hco : Cond.code y cc2 nL2 rt2 ∈ gl)
    (hy : y.cls ≠ "java/lang/invoke/MethodHandle" ∧ y.cls ≠ "java/lang/invoke/VarHandle" ∧ (parseMethodDescriptor y.desc).map (fun d => d.parameters.length) = some vs.length) (hR : rF2 + 1 ≤ rF ∧ 8 + (nL2 + 11) + rL2 ≤ rL) (hw : (st.map fun v => v.category).sum ≤ 8)
    (con : Con tab y cc2 nL2 rt2 rF2 rL2 (.ref q :: vs) sg Post2) (kk : ∀ (v : Option Value) (sg2 : Sg), Post2 v sg2 → PW tab own cc nL rt rF rL Post (pc + 3) lv (v.toList ++ st) sg2) : PW tab own cc nL rt rF rL Post pc lv (vs.reverse ++ .ref q :: st) sg := by
  intro p l e s m args below meth c dC dI ad cA A H locs ls hX hA hK hP hD hS h
  have hts := hX.2.2.2.2.2.2
  have cb := callB_of (R := rmOf rF rL) (rm := rmOf rF2 rL2) (mc := 0) (ms := 0) (index := idx) vs.length hts (con_words hco) rfl rfl rfl (hts _ hini) (hts _ hlk) hy hR
  have run := va_runV (As := vs.map (cv ad)) (rest := st.map (cv ad)) (b := ad q) (C := y.cls) (g := F0 m pc ls ((vs.reverse ++ .ref q :: st).map (cv ad))) (H := H) (locs := locs) (cells := 0) (slots := 0) (below := below) (meth := meth) (e := e) ⟨hX.1, hX.2.1, hX.2.2.1, hX.2.2.2.2.1, hts⟩ (con l dC dI ad cA H.size) ⟨cb, hts _ him, hts _ hse⟩ ⟨con_blind, va_recv hK hP hcl (wld_get ht), fun U hU hW => ⟨rfl, by rw [hU], by rw [hU]; exact hP, va_K.moved hW.alike hK, hD.weaken (fun _ _ _ _ => trivial)⟩⟩ rfl (List.length_map ..) h.1 (by rw [List.map_append, List.map_reverse]; rfl) (lv_room (by rw [cv_sum]; exact hw)) hd ⟨Nat.le_refl 0, Nat.le_refl 0⟩
  refine pw_call run hA hD hS (fun v sg2 H locs hp hP hD hS => ?_)
  have := kk v sg2 hp p l e s m args below meth c dC dI ad cA A H locs ls hX hA hK hP hD hS h
  rw [List.map_append] at this
  rw [show (v.map (cv ad)).toList = v.toList.map (cv ad) by cases v <;> rfl]
  exact this
end PWR
end
section
/-! what the printed functions are made of -/
def gd {α : Type} (b : Bool) (x : Option α) : Option α := match b with
  | true => x
  | false => none
theorem gd_some {α : Type} {b : Bool} {x : Option α} {o : α} (h : gd b x = some o) : b = true ∧ x = some o := by
  cases b with
  | true => exact ⟨rfl, h⟩
  | false => cases h
def lt {α β : Type} (x : α) (f : α → Option β) : Option β := f x
theorem lt_use {α β : Type} {x y : α} {f : α → Option β} {o : β} (h : lt x f = some o) (e : y = x) : f y = some o := by
  subst e; exact h
def onE {A R β : Type} (u : A ⊕ R) (f : A → Option β) (g : R → Option β) : Option β := match u with
  | .inl t => f t
  | .inr r => g r
def inb (i : Int32) (n : Nat) : Bool := !(decide (i < 0)) && decide (i.toNatClampNeg < n)
theorem inb_in {i : Int32} {n : Nat} (h : inb i n = true) : vp_in i n := by
  unfold inb at h
  simp only [Bool.and_eq_true, Bool.not_eq_true', decide_eq_false_iff_not, decide_eq_true_eq] at h
  intro q
  rcases q with q | q
  · exact h.1 q
  · omega
def zb (v : Int32) : Bool := decide (v = 0) || decide (v = 1)
theorem zb_ok {v : Int32} (h : zb v = true) : narrow .boolean (.int v) = .int v := by
  unfold zb at h
  simp only [Bool.or_eq_true, decide_eq_true_eq] at h
  rcases h with h | h <;> subst h <;> rfl
def lpS {T : Type} (step : T → Option (T ⊕ T)) : Nat → T → Option T
  | 0, _ => none
  | n + 1, t => match step t with
    | none => none
    | some (.inl u) => some u
    | some (.inr u) => lpS step n u
def lpO {T R : Type} (step : T → Option (T ⊕ (R ⊕ T))) : Nat → T → Option (T ⊕ R)
  | 0, _ => none
  | n + 1, t => match step t with
    | none => none
    | some (.inl u) => some (.inl u)
    | some (.inr (.inl r)) => some (.inr r)
    | some (.inr (.inr u)) => lpO step n u
theorem lpS_pw {T : Type} {X E : T → Prop} {step : T → Option (T ⊕ T)} (hstep : ∀ t o, step t = some o → (∀ u, o = .inl u → E u) → (∀ u, o = .inr u → X u) → X t) : ∀ (n : Nat) (t u : T), lpS step n t = some u → E u → X t := by
  intro n
  induction n with
  | zero => intro t u h; cases h
  | succ n ih =>
    intro t u h hE
    unfold lpS at h
    cases hst : step t with
    | none => rw [hst] at h; cases h
    | some o =>
      rw [hst] at h
      refine hstep t o hst (fun v hv => ?_) (fun v hv => ?_)
      · subst hv
        have : v = u := Option.some.inj h
        rw [this]; exact hE
      · subst hv
        exact ih v u h hE
theorem lpO_pw {T R : Type} {X E : T → Prop} {PR : R → Prop} {step : T → Option (T ⊕ (R ⊕ T))} (hstep : ∀ t o, step t = some o → (∀ u, o = .inl u → E u) → (∀ r, o = .inr (.inl r) → PR r) → (∀ u, o = .inr (.inr u) → X u) → X t) : ∀ (n : Nat) (t : T) (u : T ⊕ R), lpO step n t = some u → (∀ v, u = .inl v → E v) → (∀ r, u = .inr r → PR r) → X t := by
  intro n
  induction n with
  | zero => intro t u h; cases h
  | succ n ih =>
    intro t u h hE hR
    unfold lpO at h
    cases hst : step t with
    | none => rw [hst] at h; cases h
    | some o =>
      rw [hst] at h
      refine hstep t o hst (fun v hv => ?_) (fun r hv => ?_) (fun v hv => ?_)
      · subst hv
        exact hE v (Option.some.inj h).symm
      · subst hv
        exact hR r (Option.some.inj h).symm
      · subst hv
        exact ih v u h hE hR
def PoI (o : Int32) (g : Sg) : Option Value → Sg → Prop := fun v h => v = some (.int o) ∧ h = g
def PoL (o : Int64) (g : Sg) : Option Value → Sg → Prop := fun v h => v = some (.long o) ∧ h = g
def PoV (g : Sg) : Option Value → Sg → Prop := fun v h => v = none ∧ h = g
section PWX
variable {tab : Tb} {own : String} {cc : ByteArray} {nL : Nat} {rt : Option FieldType} {rF rL : Nat} {Post : Option Value → Sg → Prop} {pc : Nat} {lv lv' : List (Nat × Value)} {st : List Value} {sg : Sg}
theorem pw_sg (k : ∀ g : Sg, g = sg → PW tab own cc nL rt rF rL Post pc lv st g) : PW tab own cc nL rt rF rL Post pc lv st sg := k sg rfl
theorem pw_topi {x : Int32} (k : ∀ y : Int32, y = x → PW tab own cc nL rt rF rL Post pc lv (.int y :: st) sg) : PW tab own cc nL rt rF rL Post pc lv (.int x :: st) sg := k x rfl
theorem pw_topl {x : Int64} (k : ∀ y : Int64, y = x → PW tab own cc nL rt rF rL Post pc lv (.long y :: st) sg) : PW tab own cc nL rt rF rL Post pc lv (.long x :: st) sg := k x rfl
theorem pw_ldcw {idx : Nat} {v : Int32} (hd : decode cc pc = .ok (.ldc_w idx, 3)) (hc : Cond.constant own idx v ∈ gl) (k : PW tab own cc nL rt rF rL Post (pc + 3) lv (.int v :: st) sg) : PW tab own cc nL rt rF rL Post pc lv st sg := by
  intro p l e s m args below meth c dC dI ad cA A H locs ls hX hA hK hP hD hS h
  exact lv_ldcw hX.1 hX.2.1 hX.2.2.2.2.1 (hX.2.2.2.2.2.2 _ hc) hd (k p l e s m args below meth c dC dI ad cA A H locs ls hX hA hK hP hD hS h)
section CS
variable {idx : Nat} {y : MethodName} {cc2 : ByteArray} {nL2 : Nat} {rt2 : Option FieldType} {rF2 rL2 : Nat} {sg2 : Sg}
theorem pw_callSi {r : Int32} (vs : List Value) (hd : decode cc pc = .ok (.invokestatic idx, 3)) (hlk : Cond.methodLink own idx y ∈ gl) (hst : Cond.static y ∈ gl) (hini : Cond.initialized y.cls ∈ gl) (hco : Cond.code y cc2 nL2 rt2 ∈ gl) (hy : y.cls ≠ "java/lang/invoke/MethodHandle" ∧ y.cls ≠ "java/lang/invoke/VarHandle" ∧ (parseMethodDescriptor y.desc).map (fun d => d.parameters.length) = some vs.length) (hR : rF2 + 1 ≤ rF ∧ 8 + (nL2 + 11) + rL2 ≤ rL) (hw : (st.map fun v => v.category).sum ≤ 8)
    (con : Con tab y cc2 nL2 rt2 rF2 rL2 vs sg (PoI r sg2)) (kk : PW tab own cc nL rt rF rL Post (pc + 3) lv (.int r :: st) sg2) : PW tab own cc nL rt rF rL Post pc lv (vs.reverse ++ st) sg := by
  refine pw_callS vs hd hlk hst hini hco hy hR hw con (fun v g hq => ?_)
  obtain ⟨rfl, rfl⟩ := hq
  exact kk
theorem pw_callSl {r : Int64} (vs : List Value) (hd : decode cc pc = .ok (.invokestatic idx, 3)) (hlk : Cond.methodLink own idx y ∈ gl) (hst : Cond.static y ∈ gl) (hini : Cond.initialized y.cls ∈ gl) (hco : Cond.code y cc2 nL2 rt2 ∈ gl) (hy : y.cls ≠ "java/lang/invoke/MethodHandle" ∧ y.cls ≠ "java/lang/invoke/VarHandle" ∧ (parseMethodDescriptor y.desc).map (fun d => d.parameters.length) = some vs.length) (hR : rF2 + 1 ≤ rF ∧ 8 + (nL2 + 11) + rL2 ≤ rL) (hw : (st.map fun v => v.category).sum ≤ 8)
    (con : Con tab y cc2 nL2 rt2 rF2 rL2 vs sg (PoL r sg2)) (kk : PW tab own cc nL rt rF rL Post (pc + 3) lv (.long r :: st) sg2) : PW tab own cc nL rt rF rL Post pc lv (vs.reverse ++ st) sg := by
  refine pw_callS vs hd hlk hst hini hco hy hR hw con (fun v g hq => ?_)
  obtain ⟨rfl, rfl⟩ := hq
  exact kk
variable {q ci N : Nat} {fk : List (Nat × Nat)} {T : u_T}
theorem pw_callVi {r : Int32} (vs : List Value) (hd : decode cc pc = .ok (.invokevirtual idx, 3)) (ht : tab[q]? = some (.inr (ci, fk))) (hcl : vwCl[ci]? = some (y.cls, T, N)) (hlk : Cond.methodLink own idx y ∈ gl) (him : Cond.instanceMethod y ∈ gl) (hse : Cond.selects y.cls y y ∈ gl) (hini : Cond.initialized y.cls ∈ gl) (hco : Cond.code y cc2 nL2 rt2 ∈ gl) (hy : y.cls ≠ "java/lang/invoke/MethodHandle" ∧ y.cls ≠ "java/lang/invoke/VarHandle" ∧ (parseMethodDescriptor y.desc).map (fun d => d.parameters.length) = some vs.length) (hR : rF2 + 1 ≤ rF ∧ 8 + (nL2 + 11) + rL2 ≤ rL) (hw : (st.map fun v => v.category).sum ≤ 8)
    (con : Con tab y cc2 nL2 rt2 rF2 rL2 (.ref q :: vs) sg (PoI r sg2)) (kk : PW tab own cc nL rt rF rL Post (pc + 3) lv (.int r :: st) sg2) : PW tab own cc nL rt rF rL Post pc lv (vs.reverse ++ .ref q :: st) sg := by
  refine pw_callV vs hd ht hcl hlk him hse hini hco hy hR hw con (fun v g hq => ?_)
  obtain ⟨rfl, rfl⟩ := hq
  exact kk
theorem pw_callVl {r : Int64} (vs : List Value) (hd : decode cc pc = .ok (.invokevirtual idx, 3)) (ht : tab[q]? = some (.inr (ci, fk))) (hcl : vwCl[ci]? = some (y.cls, T, N)) (hlk : Cond.methodLink own idx y ∈ gl) (him : Cond.instanceMethod y ∈ gl) (hse : Cond.selects y.cls y y ∈ gl) (hini : Cond.initialized y.cls ∈ gl) (hco : Cond.code y cc2 nL2 rt2 ∈ gl) (hy : y.cls ≠ "java/lang/invoke/MethodHandle" ∧ y.cls ≠ "java/lang/invoke/VarHandle" ∧ (parseMethodDescriptor y.desc).map (fun d => d.parameters.length) = some vs.length) (hR : rF2 + 1 ≤ rF ∧ 8 + (nL2 + 11) + rL2 ≤ rL) (hw : (st.map fun v => v.category).sum ≤ 8)
    (con : Con tab y cc2 nL2 rt2 rF2 rL2 (.ref q :: vs) sg (PoL r sg2)) (kk : PW tab own cc nL rt rF rL Post (pc + 3) lv (.long r :: st) sg2) : PW tab own cc nL rt rF rL Post pc lv (vs.reverse ++ .ref q :: st) sg := by
  refine pw_callV vs hd ht hcl hlk him hse hini hco hy hR hw con (fun v g hq => ?_)
  obtain ⟨rfl, rfl⟩ := hq
  exact kk
theorem pw_callVv (vs : List Value) (hd : decode cc pc = .ok (.invokevirtual idx, 3)) (ht : tab[q]? = some (.inr (ci, fk))) (hcl : vwCl[ci]? = some (y.cls, T, N)) (hlk : Cond.methodLink own idx y ∈ gl) (him : Cond.instanceMethod y ∈ gl) (hse : Cond.selects y.cls y y ∈ gl) (hini : Cond.initialized y.cls ∈ gl) (hco : Cond.code y cc2 nL2 rt2 ∈ gl) (hy : y.cls ≠ "java/lang/invoke/MethodHandle" ∧ y.cls ≠ "java/lang/invoke/VarHandle" ∧ (parseMethodDescriptor y.desc).map (fun d => d.parameters.length) = some vs.length) (hR : rF2 + 1 ≤ rF ∧ 8 + (nL2 + 11) + rL2 ≤ rL) (hw : (st.map fun v => v.category).sum ≤ 8)
    (con : Con tab y cc2 nL2 rt2 rF2 rL2 (.ref q :: vs) sg (PoV sg2)) (kk : PW tab own cc nL rt rF rL Post (pc + 3) lv st sg2) : PW tab own cc nL rt rF rL Post pc lv (vs.reverse ++ .ref q :: st) sg := by
  refine pw_callV vs hd ht hcl hlk him hse hini hco hy hR hw con (fun v g hq => ?_)
  obtain ⟨rfl, rfl⟩ := hq
  exact kk
end CS
end PWX
end
section
def tbC : Tb := [.inr (6, [(0, 1), (0, 3), (0, 8), (0, 14), (0, 17), (0, 21), (0, 25), (1, 0), (1, 0)]), .inr (3, [(0, 2), (1, 0)]), .inl 6, .inr (5, [(0, 4), (0, 5), (0, 6), (0, 7), (1, 0)]), .inl 72, .inl 12, .inl 72, .inl 12, .inr (0, [(0, 9), (0, 10), (0, 11), (0, 12), (0, 13), (1, 0)]), .inl 8, .inl 8, .inl 8, .inl 8, .inl 64, .inr (2, [(0, 15), (0, 16), (1, 0), (1, 0)]), .inl 8, .inl 8, .inr (1, [(0, 18), (0, 19), (0, 20)]), .inl 64, .inl 64, .inl 8, .inr (4, [(0, 22), (0, 23), (0, 24)]), .inl 128, .inl 16, .inl 16, .inl 64]
theorem tC0 : tbC[0]? = some (.inr (6, [(0, 1), (0, 3), (0, 8), (0, 14), (0, 17), (0, 21), (0, 25), (1, 0), (1, 0)])) := rfl
theorem tC1 : tbC[1]? = some (.inr (3, [(0, 2), (1, 0)])) := rfl
theorem tC2 : tbC[2]? = some (.inl 6) := rfl
theorem tC3 : tbC[3]? = some (.inr (5, [(0, 4), (0, 5), (0, 6), (0, 7), (1, 0)])) := rfl
theorem tC4 : tbC[4]? = some (.inl 72) := rfl
theorem tC5 : tbC[5]? = some (.inl 12) := rfl
theorem tC6 : tbC[6]? = some (.inl 72) := rfl
theorem tC7 : tbC[7]? = some (.inl 12) := rfl
theorem tC8 : tbC[8]? = some (.inr (0, [(0, 9), (0, 10), (0, 11), (0, 12), (0, 13), (1, 0)])) := rfl
theorem tC9 : tbC[9]? = some (.inl 8) := rfl
theorem tC10 : tbC[10]? = some (.inl 8) := rfl
theorem tC11 : tbC[11]? = some (.inl 8) := rfl
theorem tC12 : tbC[12]? = some (.inl 8) := rfl
theorem tC13 : tbC[13]? = some (.inl 64) := rfl
theorem tC14 : tbC[14]? = some (.inr (2, [(0, 15), (0, 16), (1, 0), (1, 0)])) := rfl
theorem tC15 : tbC[15]? = some (.inl 8) := rfl
theorem tC16 : tbC[16]? = some (.inl 8) := rfl
theorem tC17 : tbC[17]? = some (.inr (1, [(0, 18), (0, 19), (0, 20)])) := rfl
theorem tC18 : tbC[18]? = some (.inl 64) := rfl
theorem tC19 : tbC[19]? = some (.inl 64) := rfl
theorem tC20 : tbC[20]? = some (.inl 8) := rfl
theorem tC21 : tbC[21]? = some (.inr (4, [(0, 22), (0, 23), (0, 24)])) := rfl
theorem tC22 : tbC[22]? = some (.inl 128) := rfl
theorem tC23 : tbC[23]? = some (.inl 16) := rfl
theorem tC24 : tbC[24]? = some (.inl 16) := rfl
theorem tC25 : tbC[25]? = some (.inl 64) := rfl
def tbM : Tb := [.inr (7, [(1, 0), (0, 1), (1, 0), (0, 2), (0, 3), (1, 0), (0, 4), (1, 0), (1, 0), (0, 5), (0, 6), (0, 7), (0, 8), (1, 0), (0, 9), (1, 0), (0, 10), (1, 0), (0, 11), (0, 12), (0, 13), (0, 14), (1, 0), (0, 15), (2, 0)]), .inl 6, .inl 96, .inl 12, .inl 64, .inl 96, .inl 12, .inl 8, .inl 8, .inl 8, .inl 8, .inl 64, .inl 64, .inl 64, .inl 8, .inl 16]
theorem tM0 : tbM[0]? = some (.inr (7, [(1, 0), (0, 1), (1, 0), (0, 2), (0, 3), (1, 0), (0, 4), (1, 0), (1, 0), (0, 5), (0, 6), (0, 7), (0, 8), (1, 0), (0, 9), (1, 0), (0, 10), (1, 0), (0, 11), (0, 12), (0, 13), (0, 14), (1, 0), (0, 15), (2, 0)])) := rfl
theorem tM1 : tbM[1]? = some (.inl 6) := rfl
theorem tM2 : tbM[2]? = some (.inl 96) := rfl
theorem tM3 : tbM[3]? = some (.inl 12) := rfl
theorem tM4 : tbM[4]? = some (.inl 64) := rfl
theorem tM5 : tbM[5]? = some (.inl 96) := rfl
theorem tM6 : tbM[6]? = some (.inl 12) := rfl
theorem tM7 : tbM[7]? = some (.inl 8) := rfl
theorem tM8 : tbM[8]? = some (.inl 8) := rfl
theorem tM9 : tbM[9]? = some (.inl 8) := rfl
theorem tM10 : tbM[10]? = some (.inl 8) := rfl
theorem tM11 : tbM[11]? = some (.inl 64) := rfl
theorem tM12 : tbM[12]? = some (.inl 64) := rfl
theorem tM13 : tbM[13]? = some (.inl 64) := rfl
theorem tM14 : tbM[14]? = some (.inl 8) := rfl
theorem tM15 : tbM[15]? = some (.inl 16) := rfl
theorem wiRX1 : ∀ w ∈ u_ws RX1 TX1 6, w ∈ gl := by
  have h : ∀ k, k < 6 → tables_1[([90, 92, 94, 96, 98, 100] : List Nat).getD k 0]? = some (u_lay RX1 TX1 k) ∧ goodWord (u_lay RX1 TX1 k) = true := by decide +kernel
  intro w hw
  obtain ⟨k, hk, rfl⟩ := List.mem_map.mp hw
  exact tb _ (h k (List.mem_range.mp hk)).1 (h k (List.mem_range.mp hk)).2
theorem clRX1 : clOk 0 RX1 TX1 6 tyX1 := ⟨rfl, wiRX1, tyX1_ok, nmX1⟩
theorem wiRX2 : ∀ w ∈ u_ws RX2 TX2 3, w ∈ gl := by
  have h : ∀ k, k < 3 → tables_1[([139, 141, 143] : List Nat).getD k 0]? = some (u_lay RX2 TX2 k) ∧ goodWord (u_lay RX2 TX2 k) = true := by decide +kernel
  intro w hw
  obtain ⟨k, hk, rfl⟩ := List.mem_map.mp hw
  exact tb _ (h k (List.mem_range.mp hk)).1 (h k (List.mem_range.mp hk)).2
theorem clRX2 : clOk 1 RX2 TX2 3 tyX2 := ⟨rfl, wiRX2, tyX2_ok, nmX2⟩
theorem wiRX3 : ∀ w ∈ u_ws RX3 TX3 4, w ∈ gl := by
  have h : ∀ k, k < 4 → tables_1[([118, 120, 122, 124] : List Nat).getD k 0]? = some (u_lay RX3 TX3 k) ∧ goodWord (u_lay RX3 TX3 k) = true := by decide +kernel
  intro w hw
  obtain ⟨k, hk, rfl⟩ := List.mem_map.mp hw
  exact tb _ (h k (List.mem_range.mp hk)).1 (h k (List.mem_range.mp hk)).2
theorem clRX3 : clOk 2 RX3 TX3 4 tyX3 := ⟨rfl, wiRX3, tyX3_ok, nmX3⟩
theorem wiRX4 : ∀ w ∈ u_ws RX4 TX4 2, w ∈ gl := by
  have h : ∀ k, k < 2 → tables_1[([32, 34] : List Nat).getD k 0]? = some (u_lay RX4 TX4 k) ∧ goodWord (u_lay RX4 TX4 k) = true := by decide +kernel
  intro w hw
  obtain ⟨k, hk, rfl⟩ := List.mem_map.mp hw
  exact tb _ (h k (List.mem_range.mp hk)).1 (h k (List.mem_range.mp hk)).2
theorem clRX4 : clOk 3 RX4 TX4 2 tyX4 := ⟨rfl, wiRX4, tyX4_ok, nmX4⟩
theorem wiRX5 : ∀ w ∈ u_ws RX5 TX5 3, w ∈ gl := by
  have h : ∀ k, k < 3 → tables_1[([155, 157, 159] : List Nat).getD k 0]? = some (u_lay RX5 TX5 k) ∧ goodWord (u_lay RX5 TX5 k) = true := by decide +kernel
  intro w hw
  obtain ⟨k, hk, rfl⟩ := List.mem_map.mp hw
  exact tb _ (h k (List.mem_range.mp hk)).1 (h k (List.mem_range.mp hk)).2
theorem clRX5 : clOk 4 RX5 TX5 3 tyX5 := ⟨rfl, wiRX5, tyX5_ok, nmX5⟩
theorem wiRX6 : ∀ w ∈ u_ws RX6 TX6 5, w ∈ gl := by
  have h : ∀ k, k < 5 → tables_1[([58, 60, 62, 64, 66] : List Nat).getD k 0]? = some (u_lay RX6 TX6 k) ∧ goodWord (u_lay RX6 TX6 k) = true := by decide +kernel
  intro w hw
  obtain ⟨k, hk, rfl⟩ := List.mem_map.mp hw
  exact tb _ (h k (List.mem_range.mp hk)).1 (h k (List.mem_range.mp hk)).2
theorem clRX6 : clOk 5 RX6 TX6 5 tyX6 := ⟨rfl, wiRX6, tyX6_ok, nmX6⟩
theorem wiRX7 : ∀ w ∈ u_ws RX7 TX7 9, w ∈ gl := by
  have h : ∀ k, k < 9 → tables_1[([261, 263, 265, 267, 269, 271, 273, 275, 277] : List Nat).getD k 0]? = some (u_lay RX7 TX7 k) ∧ goodWord (u_lay RX7 TX7 k) = true := by decide +kernel
  intro w hw
  obtain ⟨k, hk, rfl⟩ := List.mem_map.mp hw
  exact tb _ (h k (List.mem_range.mp hk)).1 (h k (List.mem_range.mp hk)).2
theorem clRX7 : clOk 6 RX7 TX7 9 tyX7 := ⟨rfl, wiRX7, tyX7_ok, nmX7⟩
theorem wiRX8 : ∀ w ∈ u_ws RX8 TX8 25, w ∈ gl := by
  have h : ∀ k, k < 25 → tables_1[([495, 497, 499, 501, 503, 505, 507, 509, 511, 513, 515, 517, 519, 521, 523, 525, 527, 529, 531, 533, 535, 537, 539, 541, 543] : List Nat).getD k 0]? = some (u_lay RX8 TX8 k) ∧ goodWord (u_lay RX8 TX8 k) = true := by decide +kernel
  intro w hw
  obtain ⟨k, hk, rfl⟩ := List.mem_map.mp hw
  exact tb _ (h k (List.mem_range.mp hk)).1 (h k (List.mem_range.mp hk)).2
theorem clRX8 : clOk 7 RX8 TX8 25 tyX8 := ⟨rfl, wiRX8, tyX8_ok, nmX8⟩
theorem fRX7_10 : Cond.fieldLink RX7 10 "HillWays" "page" "LHillWays$Page;" ∈ gl := tb 252 (by decide +kernel) rfl
theorem fRX7_19 : Cond.fieldLink RX7 19 "HillWays" "ways" "LHillWays$Ways;" ∈ gl := tb 253 (by decide +kernel) rfl
theorem fRX7_26 : Cond.fieldLink RX7 26 "HillWays" "links" "LHillWays$Links;" ∈ gl := tb 254 (by decide +kernel) rfl
theorem fRX7_33 : Cond.fieldLink RX7 33 "HillWays" "order" "LHillWays$Order;" ∈ gl := tb 255 (by decide +kernel) rfl
theorem fRX7_40 : Cond.fieldLink RX7 40 "HillWays" "names" "LHillWays$Names;" ∈ gl := tb 256 (by decide +kernel) rfl
theorem fRX7_47 : Cond.fieldLink RX7 47 "HillWays" "rows" "LHillWays$Rows;" ∈ gl := tb 257 (by decide +kernel) rfl
theorem fRX7_51 : Cond.fieldLink RX7 51 "HillWays" "told" "[I" ∈ gl := tb 258 (by decide +kernel) rfl
theorem fRX7_55 : Cond.fieldLink RX7 55 "HillWays" "exchanges" "I" ∈ gl := tb 259 (by decide +kernel) rfl
theorem fRX7_59 : Cond.fieldLink RX7 59 "HillWays" "readings" "I" ∈ gl := tb 260 (by decide +kernel) rfl
theorem fRX7_65 : Cond.fieldLink RX7 65 "HillWays$Page" "size" "I" ∈ gl := tb 30 (by decide +kernel) rfl
theorem fRX7_80 : Cond.fieldLink RX7 80 "HillWays$Ways" "count" "I" ∈ gl := tb 57 (by decide +kernel) rfl
theorem fRX7_87 : Cond.fieldLink RX7 87 "HillWays$Page" "nets" "[I" ∈ gl := tb 28 (by decide +kernel) rfl
theorem fRX7_118 : Cond.fieldLink RX7 118 "HillWays$Links" "degree" "[I" ∈ gl := tb 81 (by decide +kernel) rfl
theorem fRX7_121 : Cond.fieldLink RX7 121 "HillWays$Links" "transit" "[I" ∈ gl := tb 84 (by decide +kernel) rfl
theorem fRX7_124 : Cond.fieldLink RX7 124 "HillWays$Order" "placeOf" "[I" ∈ gl := tb 112 (by decide +kernel) rfl
theorem fRX7_127 : Cond.fieldLink RX7 127 "HillWays$Order" "top" "I" ∈ gl := tb 117 (by decide +kernel) rfl
theorem fRX7_133 : Cond.fieldLink RX7 133 "HillWays$Order" "size" "I" ∈ gl := tb 114 (by decide +kernel) rfl
theorem fRX7_134 : Cond.fieldLink RX7 134 "HillWays$Order" "netAt" "[I" ∈ gl := tb 110 (by decide +kernel) rfl
theorem fRX7_137 : Cond.fieldLink RX7 137 "HillWays$Names" "name" "[I" ∈ gl := tb 137 (by decide +kernel) rfl
theorem fRX7_140 : Cond.fieldLink RX7 140 "HillWays$Names" "votes" "[I" ∈ gl := tb 134 (by decide +kernel) rfl
theorem fRX7_143 : Cond.fieldLink RX7 143 "HillWays$Links" "inWays" "[I" ∈ gl := tb 86 (by decide +kernel) rfl
theorem fRX7_149 : Cond.fieldLink RX7 149 "HillWays$Ways" "cutSizes" "[I" ∈ gl := tb 53 (by decide +kernel) rfl
theorem fRX7_152 : Cond.fieldLink RX7 152 "HillWays$Ways" "cut" "[I" ∈ gl := tb 49 (by decide +kernel) rfl
theorem fRX7_207 : Cond.fieldLink RX7 207 "HillWays$Links" "seenNets" "I" ∈ gl := tb 89 (by decide +kernel) rfl
theorem fRX1_9 : Cond.fieldLink RX1 9 "HillWays$Links" "linked" "[I" ∈ gl := tb 75 (by decide +kernel) rfl
theorem fRX1_15 : Cond.fieldLink RX1 15 "HillWays$Links" "passed" "[I" ∈ gl := tb 78 (by decide +kernel) rfl
theorem fRX1_18 : Cond.fieldLink RX1 18 "HillWays$Links" "degree" "[I" ∈ gl := tb 79 (by decide +kernel) rfl
theorem fRX1_21 : Cond.fieldLink RX1 21 "HillWays$Links" "transit" "[I" ∈ gl := tb 82 (by decide +kernel) rfl
theorem fRX1_24 : Cond.fieldLink RX1 24 "HillWays$Links" "inWays" "[I" ∈ gl := tb 85 (by decide +kernel) rfl
theorem fRX1_27 : Cond.fieldLink RX1 27 "HillWays$Links" "seenNets" "I" ∈ gl := tb 87 (by decide +kernel) rfl
theorem fRX1_34 : Cond.fieldLink RX1 34 "HillWays$Ways" "count" "I" ∈ gl := tb 56 (by decide +kernel) rfl
theorem fRX1_39 : Cond.fieldLink RX1 39 "HillWays$Ways" "cut" "[I" ∈ gl := tb 48 (by decide +kernel) rfl
theorem fRX1_42 : Cond.fieldLink RX1 42 "HillWays$Ways" "cutSizes" "[I" ∈ gl := tb 52 (by decide +kernel) rfl
theorem fRX2_9 : Cond.fieldLink RX2 9 "HillWays$Names" "votes" "[I" ∈ gl := tb 133 (by decide +kernel) rfl
theorem fRX2_15 : Cond.fieldLink RX2 15 "HillWays$Names" "name" "[I" ∈ gl := tb 135 (by decide +kernel) rfl
theorem fRX2_18 : Cond.fieldLink RX2 18 "HillWays$Names" "payers" "[I" ∈ gl := tb 138 (by decide +kernel) rfl
theorem fRX2_21 : Cond.fieldLink RX2 21 "HillWays$Ways" "count" "I" ∈ gl := tb 55 (by decide +kernel) rfl
theorem fRX2_27 : Cond.fieldLink RX2 27 "HillWays$Ways" "cut" "[I" ∈ gl := tb 47 (by decide +kernel) rfl
theorem fRX2_30 : Cond.fieldLink RX2 30 "HillWays$Ways" "cutSizes" "[I" ∈ gl := tb 51 (by decide +kernel) rfl
theorem fRX2_37 : Cond.fieldLink RX2 37 "HillWays$Links" "linked" "[I" ∈ gl := tb 76 (by decide +kernel) rfl
theorem fRX2_48 : Cond.fieldLink RX2 48 "HillWays$Order" "top" "I" ∈ gl := tb 116 (by decide +kernel) rfl
theorem fRX3_9 : Cond.fieldLink RX3 9 "HillWays$Order" "netAt" "[I" ∈ gl := tb 109 (by decide +kernel) rfl
theorem fRX3_15 : Cond.fieldLink RX3 15 "HillWays$Order" "placeOf" "[I" ∈ gl := tb 111 (by decide +kernel) rfl
theorem fRX3_18 : Cond.fieldLink RX3 18 "HillWays$Order" "size" "I" ∈ gl := tb 113 (by decide +kernel) rfl
theorem fRX3_22 : Cond.fieldLink RX3 22 "HillWays$Order" "top" "I" ∈ gl := tb 115 (by decide +kernel) rfl
theorem fRX3_25 : Cond.fieldLink RX3 25 "HillWays$Links" "seenNets" "I" ∈ gl := tb 88 (by decide +kernel) rfl
theorem fRX3_53 : Cond.fieldLink RX3 53 "HillWays$Links" "transit" "[I" ∈ gl := tb 83 (by decide +kernel) rfl
theorem fRX3_56 : Cond.fieldLink RX3 56 "HillWays$Links" "degree" "[I" ∈ gl := tb 80 (by decide +kernel) rfl
theorem fRX3_66 : Cond.fieldLink RX3 66 "HillWays$Links" "linked" "[I" ∈ gl := tb 77 (by decide +kernel) rfl
theorem fRX4_9 : Cond.fieldLink RX4 9 "HillWays$Page" "nets" "[I" ∈ gl := tb 26 (by decide +kernel) rfl
theorem fRX4_15 : Cond.fieldLink RX4 15 "HillWays$Page" "size" "I" ∈ gl := tb 29 (by decide +kernel) rfl
theorem fRX5_11 : Cond.fieldLink RX5 11 "HillWays$Rows" "fewest" "[I" ∈ gl := tb 152 (by decide +kernel) rfl
theorem fRX5_15 : Cond.fieldLink RX5 15 "HillWays$Rows" "reached" "[I" ∈ gl := tb 153 (by decide +kernel) rfl
theorem fRX5_18 : Cond.fieldLink RX5 18 "HillWays$Rows" "reachedNow" "[I" ∈ gl := tb 154 (by decide +kernel) rfl
theorem fRX5_29 : Cond.fieldLink RX5 29 "HillWays$Names" "name" "[I" ∈ gl := tb 136 (by decide +kernel) rfl
theorem fRX6_9 : Cond.fieldLink RX6 9 "HillWays$Ways" "nets" "[I" ∈ gl := tb 44 (by decide +kernel) rfl
theorem fRX6_15 : Cond.fieldLink RX6 15 "HillWays$Ways" "sizes" "[I" ∈ gl := tb 45 (by decide +kernel) rfl
theorem fRX6_18 : Cond.fieldLink RX6 18 "HillWays$Ways" "cut" "[I" ∈ gl := tb 46 (by decide +kernel) rfl
theorem fRX6_21 : Cond.fieldLink RX6 21 "HillWays$Ways" "cutSizes" "[I" ∈ gl := tb 50 (by decide +kernel) rfl
theorem fRX6_24 : Cond.fieldLink RX6 24 "HillWays$Ways" "count" "I" ∈ gl := tb 54 (by decide +kernel) rfl
theorem fRX6_28 : Cond.fieldLink RX6 28 "HillWays$Page" "size" "I" ∈ gl := tb 31 (by decide +kernel) rfl
theorem fRX6_33 : Cond.fieldLink RX6 33 "HillWays$Page" "nets" "[I" ∈ gl := tb 27 (by decide +kernel) rfl
theorem fRX8_7 : Cond.fieldLink RX8 7 "HillWaysModel" "page" "[I" ∈ gl := tb 471 (by decide +kernel) rfl
theorem fRX8_13 : Cond.fieldLink RX8 13 "HillWaysModel" "wayAt" "[I" ∈ gl := tb 473 (by decide +kernel) rfl
theorem fRX8_16 : Cond.fieldLink RX8 16 "HillWaysModel" "wayLong" "[I" ∈ gl := tb 474 (by decide +kernel) rfl
theorem fRX8_19 : Cond.fieldLink RX8 19 "HillWaysModel" "toldAt" "[I" ∈ gl := tb 476 (by decide +kernel) rfl
theorem fRX8_22 : Cond.fieldLink RX8 22 "HillWaysModel" "bareAt" "[I" ∈ gl := tb 479 (by decide +kernel) rfl
theorem fRX8_25 : Cond.fieldLink RX8 25 "HillWaysModel" "bareLong" "[I" ∈ gl := tb 480 (by decide +kernel) rfl
theorem fRX8_28 : Cond.fieldLink RX8 28 "HillWaysModel" "linked" "[I" ∈ gl := tb 481 (by decide +kernel) rfl
theorem fRX8_31 : Cond.fieldLink RX8 31 "HillWaysModel" "beside" "[I" ∈ gl := tb 482 (by decide +kernel) rfl
theorem fRX8_34 : Cond.fieldLink RX8 34 "HillWaysModel" "ranked" "[I" ∈ gl := tb 484 (by decide +kernel) rfl
theorem fRX8_37 : Cond.fieldLink RX8 37 "HillWaysModel" "placeOf" "[I" ∈ gl := tb 486 (by decide +kernel) rfl
theorem fRX8_40 : Cond.fieldLink RX8 40 "HillWaysModel" "votes" "[I" ∈ gl := tb 488 (by decide +kernel) rfl
theorem fRX8_43 : Cond.fieldLink RX8 43 "HillWaysModel" "often" "[I" ∈ gl := tb 489 (by decide +kernel) rfl
theorem fRX8_46 : Cond.fieldLink RX8 46 "HillWaysModel" "names" "[I" ∈ gl := tb 490 (by decide +kernel) rfl
theorem fRX8_49 : Cond.fieldLink RX8 49 "HillWaysModel" "row" "[I" ∈ gl := tb 491 (by decide +kernel) rfl
theorem fRX8_52 : Cond.fieldLink RX8 52 "HillWaysModel" "far" "[I" ∈ gl := tb 493 (by decide +kernel) rfl
theorem fRX8_59 : Cond.fieldLink RX8 59 "HillWaysModel" "pageLength" "I" ∈ gl := tb 470 (by decide +kernel) rfl
theorem fRX8_75 : Cond.fieldLink RX8 75 "HillWaysModel" "ways" "I" ∈ gl := tb 472 (by decide +kernel) rfl
theorem fRX8_78 : Cond.fieldLink RX8 78 "HillWaysModel" "waysRead" "I" ∈ gl := tb 477 (by decide +kernel) rfl
theorem fRX8_81 : Cond.fieldLink RX8 81 "HillWaysModel" "isLaid" "Z" ∈ gl := tb 478 (by decide +kernel) rfl
theorem fRX8_88 : Cond.fieldLink RX8 88 "HillWaysModel" "exchanges" "I" ∈ gl := tb 475 (by decide +kernel) rfl
theorem fRX8_99 : Cond.fieldLink RX8 99 "HillWaysModel" "seenBits" "I" ∈ gl := tb 483 (by decide +kernel) rfl
theorem fRX8_112 : Cond.fieldLink RX8 112 "HillWaysModel" "rankedMany" "I" ∈ gl := tb 485 (by decide +kernel) rfl
theorem fRX8_118 : Cond.fieldLink RX8 118 "HillWaysModel" "topBits" "I" ∈ gl := tb 487 (by decide +kernel) rfl
theorem fRX8_174 : Cond.fieldLink RX8 174 "HillWaysModel" "rowLong" "I" ∈ gl := tb 492 (by decide +kernel) rfl
theorem fRX8_207 : Cond.fieldLink RX8 207 "HillWaysModel" "h" "J" ∈ gl := tb 494 (by decide +kernel) rfl
theorem mRX7_62 : Cond.methodLink RX7 62 yX7_refresh ∈ gl := tb 162 (by decide +kernel) rfl
theorem mRX7_68 : Cond.methodLink RX7 68 yX4_append ∈ gl := tb 284 (by decide +kernel) rfl
theorem mRX7_72 : Cond.methodLink RX7 72 yX4_firstFault ∈ gl := tb 296 (by decide +kernel) rfl
theorem mRX7_76 : Cond.methodLink RX7 76 yX4_isWay ∈ gl := tb 308 (by decide +kernel) rfl
theorem mRX7_83 : Cond.methodLink RX7 83 yX6_add ∈ gl := tb 313 (by decide +kernel) rfl
theorem mRX7_90 : Cond.methodLink RX7 90 yX2_firstValley ∈ gl := tb 321 (by decide +kernel) rfl
theorem mRX7_94 : Cond.methodLink RX7 94 yX6_has ∈ gl := tb 330 (by decide +kernel) rfl
theorem mRX7_98 : Cond.methodLink RX7 98 yX6_remove ∈ gl := tb 334 (by decide +kernel) rfl
theorem mRX7_101 : Cond.methodLink RX7 101 yX0_isNet ∈ gl := tb 343 (by decide +kernel) rfl
theorem mRX7_106 : Cond.methodLink RX7 106 yX0_at ∈ gl := tb 344 (by decide +kernel) rfl
theorem mRX7_110 : Cond.methodLink RX7 110 yX7_arePair ∈ gl := tb 351 (by decide +kernel) rfl
theorem mRX7_114 : Cond.methodLink RX7 114 yX2_turned ∈ gl := tb 354 (by decide +kernel) rfl
theorem mRX7_130 : Cond.methodLink RX7 130 yX2_cone ∈ gl := tb 361 (by decide +kernel) rfl
theorem mRX7_146 : Cond.methodLink RX7 146 yX2_contradictedAt ∈ gl := tb 381 (by decide +kernel) rfl
theorem mRX7_155 : Cond.methodLink RX7 155 yX3_firstOf ∈ gl := tb 396 (by decide +kernel) rfl
theorem mRX7_158 : Cond.methodLink RX7 158 yX5_fewestLinks ∈ gl := tb 401 (by decide +kernel) rfl
theorem mRX7_162 : Cond.methodLink RX7 162 yX5_leastSecond ∈ gl := tb 405 (by decide +kernel) rfl
theorem mRX7_166 : Cond.methodLink RX7 166 yX1_total ∈ gl := tb 414 (by decide +kernel) rfl
theorem mRX7_169 : Cond.methodLink RX7 169 yX2_named ∈ gl := tb 418 (by decide +kernel) rfl
theorem mRX7_172 : Cond.methodLink RX7 172 yX2_contradictions ∈ gl := tb 422 (by decide +kernel) rfl
theorem mRX7_175 : Cond.methodLink RX7 175 yX7_waysWithValley ∈ gl := tb 426 (by decide +kernel) rfl
theorem mRX7_178 : Cond.methodLink RX7 178 yX7_toldLinks ∈ gl := tb 430 (by decide +kernel) rfl
theorem mRX7_184 : Cond.methodLink RX7 184 yX7_digestOfNets ∈ gl := tb 439 (by decide +kernel) rfl
theorem mRX7_188 : Cond.methodLink RX7 188 yX7_digestOfPairs ∈ gl := tb 447 (by decide +kernel) rfl
theorem mRX7_191 : Cond.methodLink RX7 191 yX7_digestOfTheRest ∈ gl := tb 453 (by decide +kernel) rfl
theorem mRX7_194 : Cond.methodLink RX7 194 yX6_cutOut ∈ gl := tb 166 (by decide +kernel) rfl
theorem mRX7_197 : Cond.methodLink RX7 197 yX1_read ∈ gl := tb 173 (by decide +kernel) rfl
theorem mRX7_201 : Cond.methodLink RX7 201 yX3_read ∈ gl := tb 195 (by decide +kernel) rfl
theorem mRX7_204 : Cond.methodLink RX7 204 yX2_read ∈ gl := tb 219 (by decide +kernel) rfl
theorem mRX7_210 : Cond.methodLink RX7 210 yX5_read ∈ gl := tb 236 (by decide +kernel) rfl
theorem mRX7_215 : Cond.methodLink RX7 215 yX7_net ∈ gl := tb 444 (by decide +kernel) rfl
theorem mRX7_218 : Cond.methodLink RX7 218 yX7_rank ∈ gl := tb 445 (by decide +kernel) rfl
theorem mRX7_221 : Cond.methodLink RX7 221 yX7_top ∈ gl := tb 446 (by decide +kernel) rfl
theorem mRX7_223 : Cond.methodLink RX7 223 yX7_link ∈ gl := tb 451 (by decide +kernel) rfl
theorem mRX7_226 : Cond.methodLink RX7 226 yX7_near ∈ gl := tb 452 (by decide +kernel) rfl
theorem mRX7_229 : Cond.methodLink RX7 229 yX7_contradicted ∈ gl := tb 457 (by decide +kernel) rfl
theorem mRX7_232 : Cond.methodLink RX7 232 yX7_seen ∈ gl := tb 458 (by decide +kernel) rfl
theorem mRX7_235 : Cond.methodLink RX7 235 yX4_codeAt ∈ gl := tb 459 (by decide +kernel) rfl
theorem mRX7_238 : Cond.methodLink RX7 238 yX7_count ∈ gl := tb 463 (by decide +kernel) rfl
theorem mRX1_31 : Cond.methodLink RX1 31 yX1_clear ∈ gl := tb 177 (by decide +kernel) rfl
theorem mRX1_45 : Cond.methodLink RX1 45 yX1_readRow ∈ gl := tb 181 (by decide +kernel) rfl
theorem mRX1_49 : Cond.methodLink RX1 49 yJ6_bitCount_0f7a4 ∈ gl := tb 189 (by decide +kernel) rfl
theorem mRX1_55 : Cond.methodLink RX1 55 yX1_join ∈ gl := tb 185 (by decide +kernel) rfl
theorem mRX2_33 : Cond.methodLink RX2 33 yX2_vote ∈ gl := tb 223 (by decide +kernel) rfl
theorem mRX2_42 : Cond.methodLink RX2 42 yX0_has ∈ gl := tb 231 (by decide +kernel) rfl
theorem mRX2_53 : Cond.methodLink RX2 53 yX2_nameOf ∈ gl := tb 232 (by decide +kernel) rfl
theorem mRX2_57 : Cond.methodLink RX2 57 yX3_firstOf ∈ gl := tb 227 (by decide +kernel) rfl
theorem mRX2_61 : Cond.methodLink RX2 61 yX2_after ∈ gl := tb 325 (by decide +kernel) rfl
theorem mRX2_65 : Cond.methodLink RX2 65 yX2_lesserVotes ∈ gl := tb 385 (by decide +kernel) rfl
theorem mRX2_68 : Cond.methodLink RX2 68 yJ9_min_7cf53 ∈ gl := tb 389 (by decide +kernel) rfl
theorem mRX3_30 : Cond.methodLink RX3 30 yJ6_bitCount_0f7a4 ∈ gl := tb 199 (by decide +kernel) rfl
theorem mRX3_36 : Cond.methodLink RX3 36 yX0_has ∈ gl := tb 200 (by decide +kernel) rfl
theorem mRX3_42 : Cond.methodLink RX3 42 yX3_countAhead ∈ gl := tb 201 (by decide +kernel) rfl
theorem mRX3_46 : Cond.methodLink RX3 46 yX3_bestSet ∈ gl := tb 207 (by decide +kernel) rfl
theorem mRX3_49 : Cond.methodLink RX3 49 yX3_isAhead ∈ gl := tb 204 (by decide +kernel) rfl
theorem mRX3_59 : Cond.methodLink RX3 59 yX3_isAllLinked ∈ gl := tb 210 (by decide +kernel) rfl
theorem mRX3_63 : Cond.methodLink RX3 63 yX3_isBetter ∈ gl := tb 213 (by decide +kernel) rfl
theorem mRX3_69 : Cond.methodLink RX3 69 yX3_degreeSum ∈ gl := tb 216 (by decide +kernel) rfl
theorem mRX4_19 : Cond.methodLink RX4 19 yX0_isNet ∈ gl := tb 300 (by decide +kernel) rfl
theorem mRX4_25 : Cond.methodLink RX4 25 yX0_has ∈ gl := tb 303 (by decide +kernel) rfl
theorem mRX4_29 : Cond.methodLink RX4 29 yX4_firstFault ∈ gl := tb 312 (by decide +kernel) rfl
theorem mRX5_21 : Cond.methodLink RX5 21 yX5_settle ∈ gl := tb 240 (by decide +kernel) rfl
theorem mRX5_25 : Cond.methodLink RX5 25 yX5_reachedByOneMore ∈ gl := tb 245 (by decide +kernel) rfl
theorem mRX5_34 : Cond.methodLink RX5 34 yX2_after ∈ gl := tb 249 (by decide +kernel) rfl
theorem mRX5_38 : Cond.methodLink RX5 38 yX0_has ∈ gl := tb 244 (by decide +kernel) rfl
theorem mRX5_44 : Cond.methodLink RX5 44 yX5_fewestLinks ∈ gl := tb 409 (by decide +kernel) rfl
theorem mRX6_34 : Cond.methodLink RX6 34 yX6_has ∈ gl := tb 338 (by decide +kernel) rfl
theorem mRX6_38 : Cond.methodLink RX6 38 yX0_has ∈ gl := tb 170 (by decide +kernel) rfl
theorem mRX8_55 : Cond.methodLink RX8 55 yX8_within ∈ gl := tb 550 (by decide +kernel) rfl
theorem mRX8_63 : Cond.methodLink RX8 63 yX8_isRight ∈ gl := tb 565 (by decide +kernel) rfl
theorem mRX8_67 : Cond.methodLink RX8 67 yX8_rightLetters ∈ gl := tb 561 (by decide +kernel) rfl
theorem mRX8_71 : Cond.methodLink RX8 71 yX8_isWayThere ∈ gl := tb 573 (by decide +kernel) rfl
theorem mRX8_85 : Cond.methodLink RX8 85 yX8_isNet ∈ gl := tb 585 (by decide +kernel) rfl
theorem mRX8_91 : Cond.methodLink RX8 91 yX8_areTwo ∈ gl := tb 592 (by decide +kernel) rfl
theorem mRX8_95 : Cond.methodLink RX8 95 yX8_turned ∈ gl := tb 595 (by decide +kernel) rfl
theorem mRX8_102 : Cond.methodLink RX8 102 yX8_has ∈ gl := tb 614 (by decide +kernel) rfl
theorem mRX8_105 : Cond.methodLink RX8 105 yX8_layTwo ∈ gl := tb 617 (by decide +kernel) rfl
theorem mRX8_109 : Cond.methodLink RX8 109 yX8_ones ∈ gl := tb 625 (by decide +kernel) rfl
theorem mRX8_115 : Cond.methodLink RX8 115 yX8_weightOf ∈ gl := tb 628 (by decide +kernel) rfl
theorem mRX8_121 : Cond.methodLink RX8 121 yX8_areAllLinked ∈ gl := tb 636 (by decide +kernel) rfl
theorem mRX8_124 : Cond.methodLink RX8 124 yX8_degrees ∈ gl := tb 640 (by decide +kernel) rfl
theorem mRX8_127 : Cond.methodLink RX8 127 yX8_hillOf ∈ gl := tb 648 (by decide +kernel) rfl
theorem mRX8_130 : Cond.methodLink RX8 130 yX8_areTops ∈ gl := tb 652 (by decide +kernel) rfl
theorem mRX8_133 : Cond.methodLink RX8 133 yX8_layWays ∈ gl := tb 610 (by decide +kernel) rfl
theorem mRX8_136 : Cond.methodLink RX8 136 yX8_layRanks ∈ gl := tb 621 (by decide +kernel) rfl
theorem mRX8_139 : Cond.methodLink RX8 139 yX8_layTop ∈ gl := tb 632 (by decide +kernel) rfl
theorem mRX8_142 : Cond.methodLink RX8 142 yX8_layVotes ∈ gl := tb 644 (by decide +kernel) rfl
theorem mRX8_145 : Cond.methodLink RX8 145 yX8_nameBy ∈ gl := tb 656 (by decide +kernel) rfl
theorem mRX8_149 : Cond.methodLink RX8 149 yX8_lay ∈ gl := tb 606 (by decide +kernel) rfl
theorem mRX8_152 : Cond.methodLink RX8 152 yX8_coneOf ∈ gl := tb 660 (by decide +kernel) rfl
theorem mRX8_155 : Cond.methodLink RX8 155 yX8_netNow ∈ gl := tb 602 (by decide +kernel) rfl
theorem mRX8_158 : Cond.methodLink RX8 158 yX8_rankNow ∈ gl := tb 668 (by decide +kernel) rfl
theorem mRX8_161 : Cond.methodLink RX8 161 yX8_topNow ∈ gl := tb 676 (by decide +kernel) rfl
theorem mRX8_164 : Cond.methodLink RX8 164 yX8_linkNow ∈ gl := tb 684 (by decide +kernel) rfl
theorem mRX8_168 : Cond.methodLink RX8 168 yX8_lesserOf ∈ gl := tb 696 (by decide +kernel) rfl
theorem mRX8_171 : Cond.methodLink RX8 171 yX8_contradictedNow ∈ gl := tb 692 (by decide +kernel) rfl
theorem mRX8_177 : Cond.methodLink RX8 177 yX8_valleyOf ∈ gl := tb 704 (by decide +kernel) rfl
theorem mRX8_180 : Cond.methodLink RX8 180 yX8_valleyOfWay ∈ gl := tb 716 (by decide +kernel) rfl
theorem mRX8_183 : Cond.methodLink RX8 183 yX8_seenNow ∈ gl := tb 712 (by decide +kernel) rfl
theorem mRX8_186 : Cond.methodLink RX8 186 yX8_behind ∈ gl := tb 732 (by decide +kernel) rfl
theorem mRX8_189 : Cond.methodLink RX8 189 yX8_layFar ∈ gl := tb 728 (by decide +kernel) rfl
theorem mRX8_193 : Cond.methodLink RX8 193 yX8_nearNow ∈ gl := tb 724 (by decide +kernel) rfl
theorem mRX8_196 : Cond.methodLink RX8 196 yX8_withValley ∈ gl := tb 743 (by decide +kernel) rfl
theorem mRX8_199 : Cond.methodLink RX8 199 yX8_linksOf ∈ gl := tb 747 (by decide +kernel) rfl
theorem mRX8_202 : Cond.methodLink RX8 202 yX8_howMany ∈ gl := tb 739 (by decide +kernel) rfl
theorem mRX8_211 : Cond.methodLink RX8 211 yX8_mix ∈ gl := tb 760 (by decide +kernel) rfl
theorem mRX8_217 : Cond.methodLink RX8 217 yX8_mixNets ∈ gl := tb 756 (by decide +kernel) rfl
theorem kRX7_182 : Cond.constantLong RX7 182 1747 ∈ gl := tb 438 (by decide +kernel) rfl
theorem kRX7_213 : Cond.constantLong RX7 213 31 ∈ gl := tb 443 (by decide +kernel) rfl
theorem kRX8_205 : Cond.constantLong RX8 205 31 ∈ gl := tb 764 (by decide +kernel) rfl
theorem kRX8_215 : Cond.constantLong RX8 215 1747 ∈ gl := tb 755 (by decide +kernel) rfl
theorem kRJ6_265 : Cond.constant RJ6 265 1431655765 ∈ gl := tb 192 (by decide +kernel) rfl
theorem kRJ6_266 : Cond.constant RJ6 266 858993459 ∈ gl := tb 193 (by decide +kernel) rfl
theorem kRJ6_267 : Cond.constant RJ6 267 252645135 ∈ gl := tb 194 (by decide +kernel) rfl
theorem coJ6_bitCount_0f7a4 : Cond.code yJ6_bitCount_0f7a4 cJ6_bitCount_0f7a4 1 (some .int) ∈ gl := tb 191 (by decide +kernel) rfl
theorem hyJ6_bitCount_0f7a4 : yJ6_bitCount_0f7a4.cls ≠ "java/lang/invoke/MethodHandle" ∧ yJ6_bitCount_0f7a4.cls ≠ "java/lang/invoke/VarHandle" ∧ (parseMethodDescriptor yJ6_bitCount_0f7a4.desc).map (fun d => d.parameters.length) = some 1 := by decide +kernel
theorem stJ6_bitCount_0f7a4 : Cond.static yJ6_bitCount_0f7a4 ∈ gl := tb 190 (by decide +kernel) rfl
theorem coJ9_min_7cf53 : Cond.code yJ9_min_7cf53 cJ9_min_7cf53 2 (some .int) ∈ gl := tb 391 (by decide +kernel) rfl
theorem hyJ9_min_7cf53 : yJ9_min_7cf53.cls ≠ "java/lang/invoke/MethodHandle" ∧ yJ9_min_7cf53.cls ≠ "java/lang/invoke/VarHandle" ∧ (parseMethodDescriptor yJ9_min_7cf53.desc).map (fun d => d.parameters.length) = some 2 := by decide +kernel
theorem stJ9_min_7cf53 : Cond.static yJ9_min_7cf53 ∈ gl := tb 390 (by decide +kernel) rfl
theorem coX0_at : Cond.code yX0_at cX0_at 2 (some .int) ∈ gl := tb 346 (by decide +kernel) rfl
theorem hyX0_at : yX0_at.cls ≠ "java/lang/invoke/MethodHandle" ∧ yX0_at.cls ≠ "java/lang/invoke/VarHandle" ∧ (parseMethodDescriptor yX0_at.desc).map (fun d => d.parameters.length) = some 2 := by decide +kernel
theorem stX0_at : Cond.static yX0_at ∈ gl := tb 345 (by decide +kernel) rfl
theorem coX0_has : Cond.code yX0_has cX0_has 2 (some .boolean) ∈ gl := tb 172 (by decide +kernel) rfl
theorem hyX0_has : yX0_has.cls ≠ "java/lang/invoke/MethodHandle" ∧ yX0_has.cls ≠ "java/lang/invoke/VarHandle" ∧ (parseMethodDescriptor yX0_has.desc).map (fun d => d.parameters.length) = some 2 := by decide +kernel
theorem stX0_has : Cond.static yX0_has ∈ gl := tb 171 (by decide +kernel) rfl
theorem coX0_isNet : Cond.code yX0_isNet cX0_isNet 1 (some .boolean) ∈ gl := tb 302 (by decide +kernel) rfl
theorem hyX0_isNet : yX0_isNet.cls ≠ "java/lang/invoke/MethodHandle" ∧ yX0_isNet.cls ≠ "java/lang/invoke/VarHandle" ∧ (parseMethodDescriptor yX0_isNet.desc).map (fun d => d.parameters.length) = some 1 := by decide +kernel
theorem stX0_isNet : Cond.static yX0_isNet ∈ gl := tb 301 (by decide +kernel) rfl
theorem coX1_clear : Cond.code yX1_clear cX1_clear 2 none ∈ gl := tb 180 (by decide +kernel) rfl
theorem hyX1_clear : yX1_clear.cls ≠ "java/lang/invoke/MethodHandle" ∧ yX1_clear.cls ≠ "java/lang/invoke/VarHandle" ∧ (parseMethodDescriptor yX1_clear.desc).map (fun d => d.parameters.length) = some 0 := by decide +kernel
theorem imX1_clear : Cond.instanceMethod yX1_clear ∈ gl := tb 179 (by decide +kernel) rfl
theorem seX1_clear : Cond.selects yX1_clear.cls yX1_clear yX1_clear ∈ gl := ts 1 (by decide +kernel) rfl
theorem coX1_join : Cond.code yX1_join cX1_join 3 none ∈ gl := tb 188 (by decide +kernel) rfl
theorem hyX1_join : yX1_join.cls ≠ "java/lang/invoke/MethodHandle" ∧ yX1_join.cls ≠ "java/lang/invoke/VarHandle" ∧ (parseMethodDescriptor yX1_join.desc).map (fun d => d.parameters.length) = some 2 := by decide +kernel
theorem imX1_join : Cond.instanceMethod yX1_join ∈ gl := tb 187 (by decide +kernel) rfl
theorem seX1_join : Cond.selects yX1_join.cls yX1_join yX1_join ∈ gl := ts 3 (by decide +kernel) rfl
theorem coX1_read : Cond.code yX1_read cX1_read 3 none ∈ gl := tb 176 (by decide +kernel) rfl
theorem hyX1_read : yX1_read.cls ≠ "java/lang/invoke/MethodHandle" ∧ yX1_read.cls ≠ "java/lang/invoke/VarHandle" ∧ (parseMethodDescriptor yX1_read.desc).map (fun d => d.parameters.length) = some 1 := by decide +kernel
theorem imX1_read : Cond.instanceMethod yX1_read ∈ gl := tb 174 (by decide +kernel) rfl
theorem seX1_read : Cond.selects yX1_read.cls yX1_read yX1_read ∈ gl := tb 175 (by decide +kernel) rfl
theorem coX1_readRow : Cond.code yX1_readRow cX1_readRow 6 none ∈ gl := tb 184 (by decide +kernel) rfl
theorem hyX1_readRow : yX1_readRow.cls ≠ "java/lang/invoke/MethodHandle" ∧ yX1_readRow.cls ≠ "java/lang/invoke/VarHandle" ∧ (parseMethodDescriptor yX1_readRow.desc).map (fun d => d.parameters.length) = some 3 := by decide +kernel
theorem imX1_readRow : Cond.instanceMethod yX1_readRow ∈ gl := tb 183 (by decide +kernel) rfl
theorem seX1_readRow : Cond.selects yX1_readRow.cls yX1_readRow yX1_readRow ∈ gl := ts 2 (by decide +kernel) rfl
theorem coX1_total : Cond.code yX1_total cX1_total 3 (some .int) ∈ gl := tb 417 (by decide +kernel) rfl
theorem hyX1_total : yX1_total.cls ≠ "java/lang/invoke/MethodHandle" ∧ yX1_total.cls ≠ "java/lang/invoke/VarHandle" ∧ (parseMethodDescriptor yX1_total.desc).map (fun d => d.parameters.length) = some 0 := by decide +kernel
theorem imX1_total : Cond.instanceMethod yX1_total ∈ gl := tb 415 (by decide +kernel) rfl
theorem seX1_total : Cond.selects yX1_total.cls yX1_total yX1_total ∈ gl := tb 416 (by decide +kernel) rfl
theorem coX2_after : Cond.code yX2_after cX2_after 2 (some .int) ∈ gl := tb 251 (by decide +kernel) rfl
theorem hyX2_after : yX2_after.cls ≠ "java/lang/invoke/MethodHandle" ∧ yX2_after.cls ≠ "java/lang/invoke/VarHandle" ∧ (parseMethodDescriptor yX2_after.desc).map (fun d => d.parameters.length) = some 2 := by decide +kernel
theorem stX2_after : Cond.static yX2_after ∈ gl := tb 250 (by decide +kernel) rfl
theorem coX2_cone : Cond.code yX2_cone cX2_cone 5 (some .int) ∈ gl := tb 364 (by decide +kernel) rfl
theorem hyX2_cone : yX2_cone.cls ≠ "java/lang/invoke/MethodHandle" ∧ yX2_cone.cls ≠ "java/lang/invoke/VarHandle" ∧ (parseMethodDescriptor yX2_cone.desc).map (fun d => d.parameters.length) = some 1 := by decide +kernel
theorem imX2_cone : Cond.instanceMethod yX2_cone ∈ gl := tb 362 (by decide +kernel) rfl
theorem seX2_cone : Cond.selects yX2_cone.cls yX2_cone yX2_cone ∈ gl := tb 363 (by decide +kernel) rfl
theorem coX2_contradictedAt : Cond.code yX2_contradictedAt cX2_contradictedAt 6 (some .int) ∈ gl := tb 384 (by decide +kernel) rfl
theorem hyX2_contradictedAt : yX2_contradictedAt.cls ≠ "java/lang/invoke/MethodHandle" ∧ yX2_contradictedAt.cls ≠ "java/lang/invoke/VarHandle" ∧ (parseMethodDescriptor yX2_contradictedAt.desc).map (fun d => d.parameters.length) = some 1 := by decide +kernel
theorem imX2_contradictedAt : Cond.instanceMethod yX2_contradictedAt ∈ gl := tb 382 (by decide +kernel) rfl
theorem seX2_contradictedAt : Cond.selects yX2_contradictedAt.cls yX2_contradictedAt yX2_contradictedAt ∈ gl := tb 383 (by decide +kernel) rfl
theorem coX2_contradictions : Cond.code yX2_contradictions cX2_contradictions 4 (some .int) ∈ gl := tb 425 (by decide +kernel) rfl
theorem hyX2_contradictions : yX2_contradictions.cls ≠ "java/lang/invoke/MethodHandle" ∧ yX2_contradictions.cls ≠ "java/lang/invoke/VarHandle" ∧ (parseMethodDescriptor yX2_contradictions.desc).map (fun d => d.parameters.length) = some 0 := by decide +kernel
theorem imX2_contradictions : Cond.instanceMethod yX2_contradictions ∈ gl := tb 423 (by decide +kernel) rfl
theorem seX2_contradictions : Cond.selects yX2_contradictions.cls yX2_contradictions yX2_contradictions ∈ gl := tb 424 (by decide +kernel) rfl
theorem coX2_firstValley : Cond.code yX2_firstValley cX2_firstValley 7 (some .int) ∈ gl := tb 324 (by decide +kernel) rfl
theorem hyX2_firstValley : yX2_firstValley.cls ≠ "java/lang/invoke/MethodHandle" ∧ yX2_firstValley.cls ≠ "java/lang/invoke/VarHandle" ∧ (parseMethodDescriptor yX2_firstValley.desc).map (fun d => d.parameters.length) = some 3 := by decide +kernel
theorem imX2_firstValley : Cond.instanceMethod yX2_firstValley ∈ gl := tb 322 (by decide +kernel) rfl
theorem seX2_firstValley : Cond.selects yX2_firstValley.cls yX2_firstValley yX2_firstValley ∈ gl := tb 323 (by decide +kernel) rfl
theorem coX2_lesserVotes : Cond.code yX2_lesserVotes cX2_lesserVotes 3 (some .int) ∈ gl := tb 388 (by decide +kernel) rfl
theorem hyX2_lesserVotes : yX2_lesserVotes.cls ≠ "java/lang/invoke/MethodHandle" ∧ yX2_lesserVotes.cls ≠ "java/lang/invoke/VarHandle" ∧ (parseMethodDescriptor yX2_lesserVotes.desc).map (fun d => d.parameters.length) = some 2 := by decide +kernel
theorem imX2_lesserVotes : Cond.instanceMethod yX2_lesserVotes ∈ gl := tb 387 (by decide +kernel) rfl
theorem seX2_lesserVotes : Cond.selects yX2_lesserVotes.cls yX2_lesserVotes yX2_lesserVotes ∈ gl := ts 8 (by decide +kernel) rfl
theorem coX2_nameOf : Cond.code yX2_nameOf cX2_nameOf 5 (some .int) ∈ gl := tb 235 (by decide +kernel) rfl
theorem hyX2_nameOf : yX2_nameOf.cls ≠ "java/lang/invoke/MethodHandle" ∧ yX2_nameOf.cls ≠ "java/lang/invoke/VarHandle" ∧ (parseMethodDescriptor yX2_nameOf.desc).map (fun d => d.parameters.length) = some 3 := by decide +kernel
theorem imX2_nameOf : Cond.instanceMethod yX2_nameOf ∈ gl := tb 234 (by decide +kernel) rfl
theorem seX2_nameOf : Cond.selects yX2_nameOf.cls yX2_nameOf yX2_nameOf ∈ gl := ts 5 (by decide +kernel) rfl
theorem coX2_named : Cond.code yX2_named cX2_named 5 (some .int) ∈ gl := tb 421 (by decide +kernel) rfl
theorem hyX2_named : yX2_named.cls ≠ "java/lang/invoke/MethodHandle" ∧ yX2_named.cls ≠ "java/lang/invoke/VarHandle" ∧ (parseMethodDescriptor yX2_named.desc).map (fun d => d.parameters.length) = some 1 := by decide +kernel
theorem imX2_named : Cond.instanceMethod yX2_named ∈ gl := tb 419 (by decide +kernel) rfl
theorem seX2_named : Cond.selects yX2_named.cls yX2_named yX2_named ∈ gl := tb 420 (by decide +kernel) rfl
theorem coX2_read : Cond.code yX2_read cX2_read 7 none ∈ gl := tb 222 (by decide +kernel) rfl
theorem hyX2_read : yX2_read.cls ≠ "java/lang/invoke/MethodHandle" ∧ yX2_read.cls ≠ "java/lang/invoke/VarHandle" ∧ (parseMethodDescriptor yX2_read.desc).map (fun d => d.parameters.length) = some 3 := by decide +kernel
theorem imX2_read : Cond.instanceMethod yX2_read ∈ gl := tb 220 (by decide +kernel) rfl
theorem seX2_read : Cond.selects yX2_read.cls yX2_read yX2_read ∈ gl := tb 221 (by decide +kernel) rfl
theorem coX2_turned : Cond.code yX2_turned cX2_turned 1 (some .int) ∈ gl := tb 356 (by decide +kernel) rfl
theorem hyX2_turned : yX2_turned.cls ≠ "java/lang/invoke/MethodHandle" ∧ yX2_turned.cls ≠ "java/lang/invoke/VarHandle" ∧ (parseMethodDescriptor yX2_turned.desc).map (fun d => d.parameters.length) = some 1 := by decide +kernel
theorem stX2_turned : Cond.static yX2_turned ∈ gl := tb 355 (by decide +kernel) rfl
theorem coX2_vote : Cond.code yX2_vote cX2_vote 9 none ∈ gl := tb 226 (by decide +kernel) rfl
theorem hyX2_vote : yX2_vote.cls ≠ "java/lang/invoke/MethodHandle" ∧ yX2_vote.cls ≠ "java/lang/invoke/VarHandle" ∧ (parseMethodDescriptor yX2_vote.desc).map (fun d => d.parameters.length) = some 4 := by decide +kernel
theorem imX2_vote : Cond.instanceMethod yX2_vote ∈ gl := tb 225 (by decide +kernel) rfl
theorem seX2_vote : Cond.selects yX2_vote.cls yX2_vote yX2_vote ∈ gl := ts 4 (by decide +kernel) rfl
theorem coX3_bestSet : Cond.code yX3_bestSet cX3_bestSet 4 (some .int) ∈ gl := tb 209 (by decide +kernel) rfl
theorem hyX3_bestSet : yX3_bestSet.cls ≠ "java/lang/invoke/MethodHandle" ∧ yX3_bestSet.cls ≠ "java/lang/invoke/VarHandle" ∧ (parseMethodDescriptor yX3_bestSet.desc).map (fun d => d.parameters.length) = some 2 := by decide +kernel
theorem stX3_bestSet : Cond.static yX3_bestSet ∈ gl := tb 208 (by decide +kernel) rfl
theorem coX3_countAhead : Cond.code yX3_countAhead cX3_countAhead 4 (some .int) ∈ gl := tb 203 (by decide +kernel) rfl
theorem hyX3_countAhead : yX3_countAhead.cls ≠ "java/lang/invoke/MethodHandle" ∧ yX3_countAhead.cls ≠ "java/lang/invoke/VarHandle" ∧ (parseMethodDescriptor yX3_countAhead.desc).map (fun d => d.parameters.length) = some 2 := by decide +kernel
theorem stX3_countAhead : Cond.static yX3_countAhead ∈ gl := tb 202 (by decide +kernel) rfl
theorem coX3_degreeSum : Cond.code yX3_degreeSum cX3_degreeSum 4 (some .int) ∈ gl := tb 218 (by decide +kernel) rfl
theorem hyX3_degreeSum : yX3_degreeSum.cls ≠ "java/lang/invoke/MethodHandle" ∧ yX3_degreeSum.cls ≠ "java/lang/invoke/VarHandle" ∧ (parseMethodDescriptor yX3_degreeSum.desc).map (fun d => d.parameters.length) = some 2 := by decide +kernel
theorem stX3_degreeSum : Cond.static yX3_degreeSum ∈ gl := tb 217 (by decide +kernel) rfl
theorem coX3_firstOf : Cond.code yX3_firstOf cX3_firstOf 6 (some .int) ∈ gl := tb 230 (by decide +kernel) rfl
theorem hyX3_firstOf : yX3_firstOf.cls ≠ "java/lang/invoke/MethodHandle" ∧ yX3_firstOf.cls ≠ "java/lang/invoke/VarHandle" ∧ (parseMethodDescriptor yX3_firstOf.desc).map (fun d => d.parameters.length) = some 3 := by decide +kernel
theorem imX3_firstOf : Cond.instanceMethod yX3_firstOf ∈ gl := tb 228 (by decide +kernel) rfl
theorem seX3_firstOf : Cond.selects yX3_firstOf.cls yX3_firstOf yX3_firstOf ∈ gl := tb 229 (by decide +kernel) rfl
theorem coX3_isAhead : Cond.code yX3_isAhead cX3_isAhead 3 (some .boolean) ∈ gl := tb 206 (by decide +kernel) rfl
theorem hyX3_isAhead : yX3_isAhead.cls ≠ "java/lang/invoke/MethodHandle" ∧ yX3_isAhead.cls ≠ "java/lang/invoke/VarHandle" ∧ (parseMethodDescriptor yX3_isAhead.desc).map (fun d => d.parameters.length) = some 3 := by decide +kernel
theorem stX3_isAhead : Cond.static yX3_isAhead ∈ gl := tb 205 (by decide +kernel) rfl
theorem coX3_isAllLinked : Cond.code yX3_isAllLinked cX3_isAllLinked 4 (some .boolean) ∈ gl := tb 212 (by decide +kernel) rfl
theorem hyX3_isAllLinked : yX3_isAllLinked.cls ≠ "java/lang/invoke/MethodHandle" ∧ yX3_isAllLinked.cls ≠ "java/lang/invoke/VarHandle" ∧ (parseMethodDescriptor yX3_isAllLinked.desc).map (fun d => d.parameters.length) = some 2 := by decide +kernel
theorem stX3_isAllLinked : Cond.static yX3_isAllLinked ∈ gl := tb 211 (by decide +kernel) rfl
theorem coX3_isBetter : Cond.code yX3_isBetter cX3_isBetter 4 (some .boolean) ∈ gl := tb 215 (by decide +kernel) rfl
theorem hyX3_isBetter : yX3_isBetter.cls ≠ "java/lang/invoke/MethodHandle" ∧ yX3_isBetter.cls ≠ "java/lang/invoke/VarHandle" ∧ (parseMethodDescriptor yX3_isBetter.desc).map (fun d => d.parameters.length) = some 3 := by decide +kernel
theorem stX3_isBetter : Cond.static yX3_isBetter ∈ gl := tb 214 (by decide +kernel) rfl
theorem coX3_read : Cond.code yX3_read cX3_read 3 none ∈ gl := tb 198 (by decide +kernel) rfl
theorem hyX3_read : yX3_read.cls ≠ "java/lang/invoke/MethodHandle" ∧ yX3_read.cls ≠ "java/lang/invoke/VarHandle" ∧ (parseMethodDescriptor yX3_read.desc).map (fun d => d.parameters.length) = some 1 := by decide +kernel
theorem imX3_read : Cond.instanceMethod yX3_read ∈ gl := tb 196 (by decide +kernel) rfl
theorem seX3_read : Cond.selects yX3_read.cls yX3_read yX3_read ∈ gl := tb 197 (by decide +kernel) rfl
theorem coX4_append : Cond.code yX4_append cX4_append 2 none ∈ gl := tb 287 (by decide +kernel) rfl
theorem hyX4_append : yX4_append.cls ≠ "java/lang/invoke/MethodHandle" ∧ yX4_append.cls ≠ "java/lang/invoke/VarHandle" ∧ (parseMethodDescriptor yX4_append.desc).map (fun d => d.parameters.length) = some 1 := by decide +kernel
theorem imX4_append : Cond.instanceMethod yX4_append ∈ gl := tb 285 (by decide +kernel) rfl
theorem seX4_append : Cond.selects yX4_append.cls yX4_append yX4_append ∈ gl := tb 286 (by decide +kernel) rfl
theorem coX4_codeAt : Cond.code yX4_codeAt cX4_codeAt 2 (some .int) ∈ gl := tb 462 (by decide +kernel) rfl
theorem hyX4_codeAt : yX4_codeAt.cls ≠ "java/lang/invoke/MethodHandle" ∧ yX4_codeAt.cls ≠ "java/lang/invoke/VarHandle" ∧ (parseMethodDescriptor yX4_codeAt.desc).map (fun d => d.parameters.length) = some 1 := by decide +kernel
theorem imX4_codeAt : Cond.instanceMethod yX4_codeAt ∈ gl := tb 460 (by decide +kernel) rfl
theorem seX4_codeAt : Cond.selects yX4_codeAt.cls yX4_codeAt yX4_codeAt ∈ gl := tb 461 (by decide +kernel) rfl
theorem coX4_firstFault : Cond.code yX4_firstFault cX4_firstFault 4 (some .int) ∈ gl := tb 299 (by decide +kernel) rfl
theorem hyX4_firstFault : yX4_firstFault.cls ≠ "java/lang/invoke/MethodHandle" ∧ yX4_firstFault.cls ≠ "java/lang/invoke/VarHandle" ∧ (parseMethodDescriptor yX4_firstFault.desc).map (fun d => d.parameters.length) = some 0 := by decide +kernel
theorem imX4_firstFault : Cond.instanceMethod yX4_firstFault ∈ gl := tb 297 (by decide +kernel) rfl
theorem seX4_firstFault : Cond.selects yX4_firstFault.cls yX4_firstFault yX4_firstFault ∈ gl := tb 298 (by decide +kernel) rfl
theorem coX4_isWay : Cond.code yX4_isWay cX4_isWay 1 (some .boolean) ∈ gl := tb 311 (by decide +kernel) rfl
theorem hyX4_isWay : yX4_isWay.cls ≠ "java/lang/invoke/MethodHandle" ∧ yX4_isWay.cls ≠ "java/lang/invoke/VarHandle" ∧ (parseMethodDescriptor yX4_isWay.desc).map (fun d => d.parameters.length) = some 0 := by decide +kernel
theorem imX4_isWay : Cond.instanceMethod yX4_isWay ∈ gl := tb 309 (by decide +kernel) rfl
theorem seX4_isWay : Cond.selects yX4_isWay.cls yX4_isWay yX4_isWay ∈ gl := tb 310 (by decide +kernel) rfl
theorem coX5_fewestLinks : Cond.code yX5_fewestLinks cX5_fewestLinks 4 (some .int) ∈ gl := tb 404 (by decide +kernel) rfl
theorem hyX5_fewestLinks : yX5_fewestLinks.cls ≠ "java/lang/invoke/MethodHandle" ∧ yX5_fewestLinks.cls ≠ "java/lang/invoke/VarHandle" ∧ (parseMethodDescriptor yX5_fewestLinks.desc).map (fun d => d.parameters.length) = some 3 := by decide +kernel
theorem imX5_fewestLinks : Cond.instanceMethod yX5_fewestLinks ∈ gl := tb 402 (by decide +kernel) rfl
theorem seX5_fewestLinks : Cond.selects yX5_fewestLinks.cls yX5_fewestLinks yX5_fewestLinks ∈ gl := tb 403 (by decide +kernel) rfl
theorem coX5_leastSecond : Cond.code yX5_leastSecond cX5_leastSecond 7 (some .int) ∈ gl := tb 408 (by decide +kernel) rfl
theorem hyX5_leastSecond : yX5_leastSecond.cls ≠ "java/lang/invoke/MethodHandle" ∧ yX5_leastSecond.cls ≠ "java/lang/invoke/VarHandle" ∧ (parseMethodDescriptor yX5_leastSecond.desc).map (fun d => d.parameters.length) = some 3 := by decide +kernel
theorem imX5_leastSecond : Cond.instanceMethod yX5_leastSecond ∈ gl := tb 406 (by decide +kernel) rfl
theorem seX5_leastSecond : Cond.selects yX5_leastSecond.cls yX5_leastSecond yX5_leastSecond ∈ gl := tb 407 (by decide +kernel) rfl
theorem coX5_reachedByOneMore : Cond.code yX5_reachedByOneMore cX5_reachedByOneMore 6 (some .int) ∈ gl := tb 248 (by decide +kernel) rfl
theorem hyX5_reachedByOneMore : yX5_reachedByOneMore.cls ≠ "java/lang/invoke/MethodHandle" ∧ yX5_reachedByOneMore.cls ≠ "java/lang/invoke/VarHandle" ∧ (parseMethodDescriptor yX5_reachedByOneMore.desc).map (fun d => d.parameters.length) = some 2 := by decide +kernel
theorem imX5_reachedByOneMore : Cond.instanceMethod yX5_reachedByOneMore ∈ gl := tb 247 (by decide +kernel) rfl
theorem seX5_reachedByOneMore : Cond.selects yX5_reachedByOneMore.cls yX5_reachedByOneMore yX5_reachedByOneMore ∈ gl := ts 7 (by decide +kernel) rfl
theorem coX5_read : Cond.code yX5_read cX5_read 6 none ∈ gl := tb 239 (by decide +kernel) rfl
theorem hyX5_read : yX5_read.cls ≠ "java/lang/invoke/MethodHandle" ∧ yX5_read.cls ≠ "java/lang/invoke/VarHandle" ∧ (parseMethodDescriptor yX5_read.desc).map (fun d => d.parameters.length) = some 2 := by decide +kernel
theorem imX5_read : Cond.instanceMethod yX5_read ∈ gl := tb 237 (by decide +kernel) rfl
theorem seX5_read : Cond.selects yX5_read.cls yX5_read yX5_read ∈ gl := tb 238 (by decide +kernel) rfl
theorem coX5_settle : Cond.code yX5_settle cX5_settle 6 (some .boolean) ∈ gl := tb 243 (by decide +kernel) rfl
theorem hyX5_settle : yX5_settle.cls ≠ "java/lang/invoke/MethodHandle" ∧ yX5_settle.cls ≠ "java/lang/invoke/VarHandle" ∧ (parseMethodDescriptor yX5_settle.desc).map (fun d => d.parameters.length) = some 1 := by decide +kernel
theorem imX5_settle : Cond.instanceMethod yX5_settle ∈ gl := tb 242 (by decide +kernel) rfl
theorem seX5_settle : Cond.selects yX5_settle.cls yX5_settle yX5_settle ∈ gl := ts 6 (by decide +kernel) rfl
theorem coX6_add : Cond.code yX6_add cX6_add 3 none ∈ gl := tb 316 (by decide +kernel) rfl
theorem hyX6_add : yX6_add.cls ≠ "java/lang/invoke/MethodHandle" ∧ yX6_add.cls ≠ "java/lang/invoke/VarHandle" ∧ (parseMethodDescriptor yX6_add.desc).map (fun d => d.parameters.length) = some 1 := by decide +kernel
theorem imX6_add : Cond.instanceMethod yX6_add ∈ gl := tb 314 (by decide +kernel) rfl
theorem seX6_add : Cond.selects yX6_add.cls yX6_add yX6_add ∈ gl := tb 315 (by decide +kernel) rfl
theorem coX6_cutOut : Cond.code yX6_cutOut cX6_cutOut 6 none ∈ gl := tb 169 (by decide +kernel) rfl
theorem hyX6_cutOut : yX6_cutOut.cls ≠ "java/lang/invoke/MethodHandle" ∧ yX6_cutOut.cls ≠ "java/lang/invoke/VarHandle" ∧ (parseMethodDescriptor yX6_cutOut.desc).map (fun d => d.parameters.length) = some 1 := by decide +kernel
theorem imX6_cutOut : Cond.instanceMethod yX6_cutOut ∈ gl := tb 167 (by decide +kernel) rfl
theorem seX6_cutOut : Cond.selects yX6_cutOut.cls yX6_cutOut yX6_cutOut ∈ gl := tb 168 (by decide +kernel) rfl
theorem coX6_has : Cond.code yX6_has cX6_has 2 (some .boolean) ∈ gl := tb 333 (by decide +kernel) rfl
theorem hyX6_has : yX6_has.cls ≠ "java/lang/invoke/MethodHandle" ∧ yX6_has.cls ≠ "java/lang/invoke/VarHandle" ∧ (parseMethodDescriptor yX6_has.desc).map (fun d => d.parameters.length) = some 1 := by decide +kernel
theorem imX6_has : Cond.instanceMethod yX6_has ∈ gl := tb 331 (by decide +kernel) rfl
theorem seX6_has : Cond.selects yX6_has.cls yX6_has yX6_has ∈ gl := tb 332 (by decide +kernel) rfl
theorem coX6_remove : Cond.code yX6_remove cX6_remove 4 none ∈ gl := tb 337 (by decide +kernel) rfl
theorem hyX6_remove : yX6_remove.cls ≠ "java/lang/invoke/MethodHandle" ∧ yX6_remove.cls ≠ "java/lang/invoke/VarHandle" ∧ (parseMethodDescriptor yX6_remove.desc).map (fun d => d.parameters.length) = some 1 := by decide +kernel
theorem imX6_remove : Cond.instanceMethod yX6_remove ∈ gl := tb 335 (by decide +kernel) rfl
theorem seX6_remove : Cond.selects yX6_remove.cls yX6_remove yX6_remove ∈ gl := tb 336 (by decide +kernel) rfl
theorem coX7_arePair : Cond.code yX7_arePair cX7_arePair 2 (some .boolean) ∈ gl := tb 353 (by decide +kernel) rfl
theorem hyX7_arePair : yX7_arePair.cls ≠ "java/lang/invoke/MethodHandle" ∧ yX7_arePair.cls ≠ "java/lang/invoke/VarHandle" ∧ (parseMethodDescriptor yX7_arePair.desc).map (fun d => d.parameters.length) = some 2 := by decide +kernel
theorem stX7_arePair : Cond.static yX7_arePair ∈ gl := tb 352 (by decide +kernel) rfl
theorem coX7_blank : Cond.code yX7_blank cX7_blank 2 (some .int) ∈ gl := tb 291 (by decide +kernel) rfl
theorem hyX7_blank : yX7_blank.cls ≠ "java/lang/invoke/MethodHandle" ∧ yX7_blank.cls ≠ "java/lang/invoke/VarHandle" ∧ (parseMethodDescriptor yX7_blank.desc).map (fun d => d.parameters.length) = some 0 := by decide +kernel
theorem imX7_blank : Cond.instanceMethod yX7_blank ∈ gl := tb 289 (by decide +kernel) rfl
theorem seX7_blank : Cond.selects yX7_blank.cls yX7_blank yX7_blank ∈ gl := tb 290 (by decide +kernel) rfl
theorem coX7_contradicted : Cond.code yX7_contradicted cX7_contradicted 2 (some .int) ∈ gl := tb 380 (by decide +kernel) rfl
theorem hyX7_contradicted : yX7_contradicted.cls ≠ "java/lang/invoke/MethodHandle" ∧ yX7_contradicted.cls ≠ "java/lang/invoke/VarHandle" ∧ (parseMethodDescriptor yX7_contradicted.desc).map (fun d => d.parameters.length) = some 1 := by decide +kernel
theorem imX7_contradicted : Cond.instanceMethod yX7_contradicted ∈ gl := tb 378 (by decide +kernel) rfl
theorem seX7_contradicted : Cond.selects yX7_contradicted.cls yX7_contradicted yX7_contradicted ∈ gl := tb 379 (by decide +kernel) rfl
theorem coX7_count : Cond.code yX7_count cX7_count 2 (some .int) ∈ gl := tb 413 (by decide +kernel) rfl
theorem hyX7_count : yX7_count.cls ≠ "java/lang/invoke/MethodHandle" ∧ yX7_count.cls ≠ "java/lang/invoke/VarHandle" ∧ (parseMethodDescriptor yX7_count.desc).map (fun d => d.parameters.length) = some 1 := by decide +kernel
theorem imX7_count : Cond.instanceMethod yX7_count ∈ gl := tb 411 (by decide +kernel) rfl
theorem seX7_count : Cond.selects yX7_count.cls yX7_count yX7_count ∈ gl := tb 412 (by decide +kernel) rfl
theorem coX7_digest : Cond.code yX7_digest cX7_digest 3 (some .long) ∈ gl := tb 437 (by decide +kernel) rfl
theorem hyX7_digest : yX7_digest.cls ≠ "java/lang/invoke/MethodHandle" ∧ yX7_digest.cls ≠ "java/lang/invoke/VarHandle" ∧ (parseMethodDescriptor yX7_digest.desc).map (fun d => d.parameters.length) = some 0 := by decide +kernel
theorem imX7_digest : Cond.instanceMethod yX7_digest ∈ gl := tb 435 (by decide +kernel) rfl
theorem seX7_digest : Cond.selects yX7_digest.cls yX7_digest yX7_digest ∈ gl := tb 436 (by decide +kernel) rfl
theorem coX7_digestOfNets : Cond.code yX7_digestOfNets cX7_digestOfNets 7 (some .long) ∈ gl := tb 442 (by decide +kernel) rfl
theorem hyX7_digestOfNets : yX7_digestOfNets.cls ≠ "java/lang/invoke/MethodHandle" ∧ yX7_digestOfNets.cls ≠ "java/lang/invoke/VarHandle" ∧ (parseMethodDescriptor yX7_digestOfNets.desc).map (fun d => d.parameters.length) = some 1 := by decide +kernel
theorem imX7_digestOfNets : Cond.instanceMethod yX7_digestOfNets ∈ gl := tb 441 (by decide +kernel) rfl
theorem seX7_digestOfNets : Cond.selects yX7_digestOfNets.cls yX7_digestOfNets yX7_digestOfNets ∈ gl := ts 11 (by decide +kernel) rfl
theorem coX7_digestOfPairs : Cond.code yX7_digestOfPairs cX7_digestOfPairs 8 (some .long) ∈ gl := tb 450 (by decide +kernel) rfl
theorem hyX7_digestOfPairs : yX7_digestOfPairs.cls ≠ "java/lang/invoke/MethodHandle" ∧ yX7_digestOfPairs.cls ≠ "java/lang/invoke/VarHandle" ∧ (parseMethodDescriptor yX7_digestOfPairs.desc).map (fun d => d.parameters.length) = some 1 := by decide +kernel
theorem imX7_digestOfPairs : Cond.instanceMethod yX7_digestOfPairs ∈ gl := tb 449 (by decide +kernel) rfl
theorem seX7_digestOfPairs : Cond.selects yX7_digestOfPairs.cls yX7_digestOfPairs yX7_digestOfPairs ∈ gl := ts 12 (by decide +kernel) rfl
theorem coX7_digestOfTheRest : Cond.code yX7_digestOfTheRest cX7_digestOfTheRest 7 (some .long) ∈ gl := tb 456 (by decide +kernel) rfl
theorem hyX7_digestOfTheRest : yX7_digestOfTheRest.cls ≠ "java/lang/invoke/MethodHandle" ∧ yX7_digestOfTheRest.cls ≠ "java/lang/invoke/VarHandle" ∧ (parseMethodDescriptor yX7_digestOfTheRest.desc).map (fun d => d.parameters.length) = some 1 := by decide +kernel
theorem imX7_digestOfTheRest : Cond.instanceMethod yX7_digestOfTheRest ∈ gl := tb 455 (by decide +kernel) rfl
theorem seX7_digestOfTheRest : Cond.selects yX7_digestOfTheRest.cls yX7_digestOfTheRest yX7_digestOfTheRest ∈ gl := ts 13 (by decide +kernel) rfl
theorem coX7_drop : Cond.code yX7_drop cX7_drop 2 (some .int) ∈ gl := tb 329 (by decide +kernel) rfl
theorem hyX7_drop : yX7_drop.cls ≠ "java/lang/invoke/MethodHandle" ∧ yX7_drop.cls ≠ "java/lang/invoke/VarHandle" ∧ (parseMethodDescriptor yX7_drop.desc).map (fun d => d.parameters.length) = some 1 := by decide +kernel
theorem imX7_drop : Cond.instanceMethod yX7_drop ∈ gl := tb 327 (by decide +kernel) rfl
theorem seX7_drop : Cond.selects yX7_drop.cls yX7_drop yX7_drop ∈ gl := tb 328 (by decide +kernel) rfl
theorem coX7_exchange : Cond.code yX7_exchange cX7_exchange 4 (some .int) ∈ gl := tb 342 (by decide +kernel) rfl
theorem hyX7_exchange : yX7_exchange.cls ≠ "java/lang/invoke/MethodHandle" ∧ yX7_exchange.cls ≠ "java/lang/invoke/VarHandle" ∧ (parseMethodDescriptor yX7_exchange.desc).map (fun d => d.parameters.length) = some 2 := by decide +kernel
theorem imX7_exchange : Cond.instanceMethod yX7_exchange ∈ gl := tb 340 (by decide +kernel) rfl
theorem seX7_exchange : Cond.selects yX7_exchange.cls yX7_exchange yX7_exchange ∈ gl := tb 341 (by decide +kernel) rfl
theorem coX7_fault : Cond.code yX7_fault cX7_fault 1 (some .int) ∈ gl := tb 295 (by decide +kernel) rfl
theorem hyX7_fault : yX7_fault.cls ≠ "java/lang/invoke/MethodHandle" ∧ yX7_fault.cls ≠ "java/lang/invoke/VarHandle" ∧ (parseMethodDescriptor yX7_fault.desc).map (fun d => d.parameters.length) = some 0 := by decide +kernel
theorem imX7_fault : Cond.instanceMethod yX7_fault ∈ gl := tb 293 (by decide +kernel) rfl
theorem seX7_fault : Cond.selects yX7_fault.cls yX7_fault yX7_fault ∈ gl := tb 294 (by decide +kernel) rfl
theorem coX7_letter : Cond.code yX7_letter cX7_letter 2 (some .int) ∈ gl := tb 283 (by decide +kernel) rfl
theorem hyX7_letter : yX7_letter.cls ≠ "java/lang/invoke/MethodHandle" ∧ yX7_letter.cls ≠ "java/lang/invoke/VarHandle" ∧ (parseMethodDescriptor yX7_letter.desc).map (fun d => d.parameters.length) = some 1 := by decide +kernel
theorem imX7_letter : Cond.instanceMethod yX7_letter ∈ gl := tb 281 (by decide +kernel) rfl
theorem seX7_letter : Cond.selects yX7_letter.cls yX7_letter yX7_letter ∈ gl := tb 282 (by decide +kernel) rfl
theorem coX7_link : Cond.code yX7_link cX7_link 4 (some .int) ∈ gl := tb 376 (by decide +kernel) rfl
theorem hyX7_link : yX7_link.cls ≠ "java/lang/invoke/MethodHandle" ∧ yX7_link.cls ≠ "java/lang/invoke/VarHandle" ∧ (parseMethodDescriptor yX7_link.desc).map (fun d => d.parameters.length) = some 3 := by decide +kernel
theorem imX7_link : Cond.instanceMethod yX7_link ∈ gl := tb 374 (by decide +kernel) rfl
theorem seX7_link : Cond.selects yX7_link.cls yX7_link yX7_link ∈ gl := tb 375 (by decide +kernel) rfl
theorem coX7_near : Cond.code yX7_near cX7_near 4 (some .int) ∈ gl := tb 400 (by decide +kernel) rfl
theorem hyX7_near : yX7_near.cls ≠ "java/lang/invoke/MethodHandle" ∧ yX7_near.cls ≠ "java/lang/invoke/VarHandle" ∧ (parseMethodDescriptor yX7_near.desc).map (fun d => d.parameters.length) = some 3 := by decide +kernel
theorem imX7_near : Cond.instanceMethod yX7_near ∈ gl := tb 398 (by decide +kernel) rfl
theorem seX7_near : Cond.selects yX7_near.cls yX7_near yX7_near ∈ gl := tb 399 (by decide +kernel) rfl
theorem coX7_net : Cond.code yX7_net cX7_net 3 (some .int) ∈ gl := tb 360 (by decide +kernel) rfl
theorem hyX7_net : yX7_net.cls ≠ "java/lang/invoke/MethodHandle" ∧ yX7_net.cls ≠ "java/lang/invoke/VarHandle" ∧ (parseMethodDescriptor yX7_net.desc).map (fun d => d.parameters.length) = some 2 := by decide +kernel
theorem imX7_net : Cond.instanceMethod yX7_net ∈ gl := tb 358 (by decide +kernel) rfl
theorem seX7_net : Cond.selects yX7_net.cls yX7_net yX7_net ∈ gl := tb 359 (by decide +kernel) rfl
theorem coX7_rank : Cond.code yX7_rank cX7_rank 2 (some .int) ∈ gl := tb 368 (by decide +kernel) rfl
theorem hyX7_rank : yX7_rank.cls ≠ "java/lang/invoke/MethodHandle" ∧ yX7_rank.cls ≠ "java/lang/invoke/VarHandle" ∧ (parseMethodDescriptor yX7_rank.desc).map (fun d => d.parameters.length) = some 1 := by decide +kernel
theorem imX7_rank : Cond.instanceMethod yX7_rank ∈ gl := tb 366 (by decide +kernel) rfl
theorem seX7_rank : Cond.selects yX7_rank.cls yX7_rank yX7_rank ∈ gl := tb 367 (by decide +kernel) rfl
theorem coX7_refresh : Cond.code yX7_refresh cX7_refresh 1 none ∈ gl := tb 165 (by decide +kernel) rfl
theorem hyX7_refresh : yX7_refresh.cls ≠ "java/lang/invoke/MethodHandle" ∧ yX7_refresh.cls ≠ "java/lang/invoke/VarHandle" ∧ (parseMethodDescriptor yX7_refresh.desc).map (fun d => d.parameters.length) = some 0 := by decide +kernel
theorem imX7_refresh : Cond.instanceMethod yX7_refresh ∈ gl := tb 164 (by decide +kernel) rfl
theorem seX7_refresh : Cond.selects yX7_refresh.cls yX7_refresh yX7_refresh ∈ gl := ts 0 (by decide +kernel) rfl
theorem coX7_seen : Cond.code yX7_seen cX7_seen 6 (some .int) ∈ gl := tb 395 (by decide +kernel) rfl
theorem hyX7_seen : yX7_seen.cls ≠ "java/lang/invoke/MethodHandle" ∧ yX7_seen.cls ≠ "java/lang/invoke/VarHandle" ∧ (parseMethodDescriptor yX7_seen.desc).map (fun d => d.parameters.length) = some 2 := by decide +kernel
theorem imX7_seen : Cond.instanceMethod yX7_seen ∈ gl := tb 393 (by decide +kernel) rfl
theorem seX7_seen : Cond.selects yX7_seen.cls yX7_seen yX7_seen ∈ gl := tb 394 (by decide +kernel) rfl
theorem coX7_tell : Cond.code yX7_tell cX7_tell 5 (some .int) ∈ gl := tb 350 (by decide +kernel) rfl
theorem hyX7_tell : yX7_tell.cls ≠ "java/lang/invoke/MethodHandle" ∧ yX7_tell.cls ≠ "java/lang/invoke/VarHandle" ∧ (parseMethodDescriptor yX7_tell.desc).map (fun d => d.parameters.length) = some 3 := by decide +kernel
theorem imX7_tell : Cond.instanceMethod yX7_tell ∈ gl := tb 348 (by decide +kernel) rfl
theorem seX7_tell : Cond.selects yX7_tell.cls yX7_tell yX7_tell ∈ gl := tb 349 (by decide +kernel) rfl
theorem coX7_toldLinks : Cond.code yX7_toldLinks cX7_toldLinks 7 (some .int) ∈ gl := tb 433 (by decide +kernel) rfl
theorem hyX7_toldLinks : yX7_toldLinks.cls ≠ "java/lang/invoke/MethodHandle" ∧ yX7_toldLinks.cls ≠ "java/lang/invoke/VarHandle" ∧ (parseMethodDescriptor yX7_toldLinks.desc).map (fun d => d.parameters.length) = some 1 := by decide +kernel
theorem imX7_toldLinks : Cond.instanceMethod yX7_toldLinks ∈ gl := tb 432 (by decide +kernel) rfl
theorem seX7_toldLinks : Cond.selects yX7_toldLinks.cls yX7_toldLinks yX7_toldLinks ∈ gl := ts 10 (by decide +kernel) rfl
theorem coX7_top : Cond.code yX7_top cX7_top 1 (some .int) ∈ gl := tb 372 (by decide +kernel) rfl
theorem hyX7_top : yX7_top.cls ≠ "java/lang/invoke/MethodHandle" ∧ yX7_top.cls ≠ "java/lang/invoke/VarHandle" ∧ (parseMethodDescriptor yX7_top.desc).map (fun d => d.parameters.length) = some 0 := by decide +kernel
theorem imX7_top : Cond.instanceMethod yX7_top ∈ gl := tb 370 (by decide +kernel) rfl
theorem seX7_top : Cond.selects yX7_top.cls yX7_top yX7_top ∈ gl := tb 371 (by decide +kernel) rfl
theorem coX7_valley : Cond.code yX7_valley cX7_valley 1 (some .int) ∈ gl := tb 320 (by decide +kernel) rfl
theorem hyX7_valley : yX7_valley.cls ≠ "java/lang/invoke/MethodHandle" ∧ yX7_valley.cls ≠ "java/lang/invoke/VarHandle" ∧ (parseMethodDescriptor yX7_valley.desc).map (fun d => d.parameters.length) = some 0 := by decide +kernel
theorem imX7_valley : Cond.instanceMethod yX7_valley ∈ gl := tb 318 (by decide +kernel) rfl
theorem seX7_valley : Cond.selects yX7_valley.cls yX7_valley yX7_valley ∈ gl := tb 319 (by decide +kernel) rfl
theorem coX7_way : Cond.code yX7_way cX7_way 1 (some .int) ∈ gl := tb 307 (by decide +kernel) rfl
theorem hyX7_way : yX7_way.cls ≠ "java/lang/invoke/MethodHandle" ∧ yX7_way.cls ≠ "java/lang/invoke/VarHandle" ∧ (parseMethodDescriptor yX7_way.desc).map (fun d => d.parameters.length) = some 0 := by decide +kernel
theorem imX7_way : Cond.instanceMethod yX7_way ∈ gl := tb 305 (by decide +kernel) rfl
theorem seX7_way : Cond.selects yX7_way.cls yX7_way yX7_way ∈ gl := tb 306 (by decide +kernel) rfl
theorem coX7_waysWithValley : Cond.code yX7_waysWithValley cX7_waysWithValley 3 (some .int) ∈ gl := tb 429 (by decide +kernel) rfl
theorem hyX7_waysWithValley : yX7_waysWithValley.cls ≠ "java/lang/invoke/MethodHandle" ∧ yX7_waysWithValley.cls ≠ "java/lang/invoke/VarHandle" ∧ (parseMethodDescriptor yX7_waysWithValley.desc).map (fun d => d.parameters.length) = some 0 := by decide +kernel
theorem imX7_waysWithValley : Cond.instanceMethod yX7_waysWithValley ∈ gl := tb 428 (by decide +kernel) rfl
theorem seX7_waysWithValley : Cond.selects yX7_waysWithValley.cls yX7_waysWithValley yX7_waysWithValley ∈ gl := ts 9 (by decide +kernel) rfl
theorem coX8_areAllLinked : Cond.code yX8_areAllLinked cX8_areAllLinked 4 (some .boolean) ∈ gl := tb 639 (by decide +kernel) rfl
theorem hyX8_areAllLinked : yX8_areAllLinked.cls ≠ "java/lang/invoke/MethodHandle" ∧ yX8_areAllLinked.cls ≠ "java/lang/invoke/VarHandle" ∧ (parseMethodDescriptor yX8_areAllLinked.desc).map (fun d => d.parameters.length) = some 1 := by decide +kernel
theorem imX8_areAllLinked : Cond.instanceMethod yX8_areAllLinked ∈ gl := tb 638 (by decide +kernel) rfl
theorem seX8_areAllLinked : Cond.selects yX8_areAllLinked.cls yX8_areAllLinked yX8_areAllLinked ∈ gl := ts 24 (by decide +kernel) rfl
theorem coX8_areTops : Cond.code yX8_areTops cX8_areTops 3 (some .boolean) ∈ gl := tb 655 (by decide +kernel) rfl
theorem hyX8_areTops : yX8_areTops.cls ≠ "java/lang/invoke/MethodHandle" ∧ yX8_areTops.cls ≠ "java/lang/invoke/VarHandle" ∧ (parseMethodDescriptor yX8_areTops.desc).map (fun d => d.parameters.length) = some 2 := by decide +kernel
theorem imX8_areTops : Cond.instanceMethod yX8_areTops ∈ gl := tb 654 (by decide +kernel) rfl
theorem seX8_areTops : Cond.selects yX8_areTops.cls yX8_areTops yX8_areTops ∈ gl := ts 28 (by decide +kernel) rfl
theorem coX8_areTwo : Cond.code yX8_areTwo cX8_areTwo 2 (some .boolean) ∈ gl := tb 594 (by decide +kernel) rfl
theorem hyX8_areTwo : yX8_areTwo.cls ≠ "java/lang/invoke/MethodHandle" ∧ yX8_areTwo.cls ≠ "java/lang/invoke/VarHandle" ∧ (parseMethodDescriptor yX8_areTwo.desc).map (fun d => d.parameters.length) = some 2 := by decide +kernel
theorem stX8_areTwo : Cond.static yX8_areTwo ∈ gl := tb 593 (by decide +kernel) rfl
theorem coX8_behind : Cond.code yX8_behind cX8_behind 2 (some .int) ∈ gl := tb 734 (by decide +kernel) rfl
theorem hyX8_behind : yX8_behind.cls ≠ "java/lang/invoke/MethodHandle" ∧ yX8_behind.cls ≠ "java/lang/invoke/VarHandle" ∧ (parseMethodDescriptor yX8_behind.desc).map (fun d => d.parameters.length) = some 2 := by decide +kernel
theorem stX8_behind : Cond.static yX8_behind ∈ gl := tb 733 (by decide +kernel) rfl
theorem coX8_blank : Cond.code yX8_blank cX8_blank 2 (some .int) ∈ gl := tb 556 (by decide +kernel) rfl
theorem hyX8_blank : yX8_blank.cls ≠ "java/lang/invoke/MethodHandle" ∧ yX8_blank.cls ≠ "java/lang/invoke/VarHandle" ∧ (parseMethodDescriptor yX8_blank.desc).map (fun d => d.parameters.length) = some 0 := by decide +kernel
theorem imX8_blank : Cond.instanceMethod yX8_blank ∈ gl := tb 554 (by decide +kernel) rfl
theorem seX8_blank : Cond.selects yX8_blank.cls yX8_blank yX8_blank ∈ gl := tb 555 (by decide +kernel) rfl
theorem coX8_coneOf : Cond.code yX8_coneOf cX8_coneOf 5 (some .int) ∈ gl := tb 663 (by decide +kernel) rfl
theorem hyX8_coneOf : yX8_coneOf.cls ≠ "java/lang/invoke/MethodHandle" ∧ yX8_coneOf.cls ≠ "java/lang/invoke/VarHandle" ∧ (parseMethodDescriptor yX8_coneOf.desc).map (fun d => d.parameters.length) = some 1 := by decide +kernel
theorem imX8_coneOf : Cond.instanceMethod yX8_coneOf ∈ gl := tb 662 (by decide +kernel) rfl
theorem seX8_coneOf : Cond.selects yX8_coneOf.cls yX8_coneOf yX8_coneOf ∈ gl := ts 30 (by decide +kernel) rfl
theorem coX8_contradicted : Cond.code yX8_contradicted cX8_contradicted 2 (some .int) ∈ gl := tb 691 (by decide +kernel) rfl
theorem hyX8_contradicted : yX8_contradicted.cls ≠ "java/lang/invoke/MethodHandle" ∧ yX8_contradicted.cls ≠ "java/lang/invoke/VarHandle" ∧ (parseMethodDescriptor yX8_contradicted.desc).map (fun d => d.parameters.length) = some 1 := by decide +kernel
theorem imX8_contradicted : Cond.instanceMethod yX8_contradicted ∈ gl := tb 689 (by decide +kernel) rfl
theorem seX8_contradicted : Cond.selects yX8_contradicted.cls yX8_contradicted yX8_contradicted ∈ gl := tb 690 (by decide +kernel) rfl
theorem coX8_contradictedNow : Cond.code yX8_contradictedNow cX8_contradictedNow 5 (some .int) ∈ gl := tb 695 (by decide +kernel) rfl
theorem hyX8_contradictedNow : yX8_contradictedNow.cls ≠ "java/lang/invoke/MethodHandle" ∧ yX8_contradictedNow.cls ≠ "java/lang/invoke/VarHandle" ∧ (parseMethodDescriptor yX8_contradictedNow.desc).map (fun d => d.parameters.length) = some 1 := by decide +kernel
theorem imX8_contradictedNow : Cond.instanceMethod yX8_contradictedNow ∈ gl := tb 694 (by decide +kernel) rfl
theorem seX8_contradictedNow : Cond.selects yX8_contradictedNow.cls yX8_contradictedNow yX8_contradictedNow ∈ gl := ts 34 (by decide +kernel) rfl
theorem coX8_count : Cond.code yX8_count cX8_count 2 (some .int) ∈ gl := tb 738 (by decide +kernel) rfl
theorem hyX8_count : yX8_count.cls ≠ "java/lang/invoke/MethodHandle" ∧ yX8_count.cls ≠ "java/lang/invoke/VarHandle" ∧ (parseMethodDescriptor yX8_count.desc).map (fun d => d.parameters.length) = some 1 := by decide +kernel
theorem imX8_count : Cond.instanceMethod yX8_count ∈ gl := tb 736 (by decide +kernel) rfl
theorem seX8_count : Cond.selects yX8_count.cls yX8_count yX8_count ∈ gl := tb 737 (by decide +kernel) rfl
theorem coX8_degrees : Cond.code yX8_degrees cX8_degrees 4 (some .int) ∈ gl := tb 643 (by decide +kernel) rfl
theorem hyX8_degrees : yX8_degrees.cls ≠ "java/lang/invoke/MethodHandle" ∧ yX8_degrees.cls ≠ "java/lang/invoke/VarHandle" ∧ (parseMethodDescriptor yX8_degrees.desc).map (fun d => d.parameters.length) = some 1 := by decide +kernel
theorem imX8_degrees : Cond.instanceMethod yX8_degrees ∈ gl := tb 642 (by decide +kernel) rfl
theorem seX8_degrees : Cond.selects yX8_degrees.cls yX8_degrees yX8_degrees ∈ gl := ts 25 (by decide +kernel) rfl
theorem coX8_digest : Cond.code yX8_digest cX8_digest 3 (some .long) ∈ gl := tb 754 (by decide +kernel) rfl
theorem hyX8_digest : yX8_digest.cls ≠ "java/lang/invoke/MethodHandle" ∧ yX8_digest.cls ≠ "java/lang/invoke/VarHandle" ∧ (parseMethodDescriptor yX8_digest.desc).map (fun d => d.parameters.length) = some 0 := by decide +kernel
theorem imX8_digest : Cond.instanceMethod yX8_digest ∈ gl := tb 752 (by decide +kernel) rfl
theorem seX8_digest : Cond.selects yX8_digest.cls yX8_digest yX8_digest ∈ gl := tb 753 (by decide +kernel) rfl
theorem coX8_drop : Cond.code yX8_drop cX8_drop 4 (some .int) ∈ gl := tb 580 (by decide +kernel) rfl
theorem hyX8_drop : yX8_drop.cls ≠ "java/lang/invoke/MethodHandle" ∧ yX8_drop.cls ≠ "java/lang/invoke/VarHandle" ∧ (parseMethodDescriptor yX8_drop.desc).map (fun d => d.parameters.length) = some 1 := by decide +kernel
theorem imX8_drop : Cond.instanceMethod yX8_drop ∈ gl := tb 578 (by decide +kernel) rfl
theorem seX8_drop : Cond.selects yX8_drop.cls yX8_drop yX8_drop ∈ gl := tb 579 (by decide +kernel) rfl
theorem coX8_exchange : Cond.code yX8_exchange cX8_exchange 4 (some .int) ∈ gl := tb 584 (by decide +kernel) rfl
theorem hyX8_exchange : yX8_exchange.cls ≠ "java/lang/invoke/MethodHandle" ∧ yX8_exchange.cls ≠ "java/lang/invoke/VarHandle" ∧ (parseMethodDescriptor yX8_exchange.desc).map (fun d => d.parameters.length) = some 2 := by decide +kernel
theorem imX8_exchange : Cond.instanceMethod yX8_exchange ∈ gl := tb 582 (by decide +kernel) rfl
theorem seX8_exchange : Cond.selects yX8_exchange.cls yX8_exchange yX8_exchange ∈ gl := tb 583 (by decide +kernel) rfl
theorem coX8_fault : Cond.code yX8_fault cX8_fault 1 (some .int) ∈ gl := tb 560 (by decide +kernel) rfl
theorem hyX8_fault : yX8_fault.cls ≠ "java/lang/invoke/MethodHandle" ∧ yX8_fault.cls ≠ "java/lang/invoke/VarHandle" ∧ (parseMethodDescriptor yX8_fault.desc).map (fun d => d.parameters.length) = some 0 := by decide +kernel
theorem imX8_fault : Cond.instanceMethod yX8_fault ∈ gl := tb 558 (by decide +kernel) rfl
theorem seX8_fault : Cond.selects yX8_fault.cls yX8_fault yX8_fault ∈ gl := tb 559 (by decide +kernel) rfl
theorem coX8_has : Cond.code yX8_has cX8_has 2 (some .boolean) ∈ gl := tb 616 (by decide +kernel) rfl
theorem hyX8_has : yX8_has.cls ≠ "java/lang/invoke/MethodHandle" ∧ yX8_has.cls ≠ "java/lang/invoke/VarHandle" ∧ (parseMethodDescriptor yX8_has.desc).map (fun d => d.parameters.length) = some 2 := by decide +kernel
theorem stX8_has : Cond.static yX8_has ∈ gl := tb 615 (by decide +kernel) rfl
theorem coX8_hillOf : Cond.code yX8_hillOf cX8_hillOf 5 (some .int) ∈ gl := tb 651 (by decide +kernel) rfl
theorem hyX8_hillOf : yX8_hillOf.cls ≠ "java/lang/invoke/MethodHandle" ∧ yX8_hillOf.cls ≠ "java/lang/invoke/VarHandle" ∧ (parseMethodDescriptor yX8_hillOf.desc).map (fun d => d.parameters.length) = some 1 := by decide +kernel
theorem imX8_hillOf : Cond.instanceMethod yX8_hillOf ∈ gl := tb 650 (by decide +kernel) rfl
theorem seX8_hillOf : Cond.selects yX8_hillOf.cls yX8_hillOf yX8_hillOf ∈ gl := ts 27 (by decide +kernel) rfl
theorem coX8_howMany : Cond.code yX8_howMany cX8_howMany 2 (some .int) ∈ gl := tb 742 (by decide +kernel) rfl
theorem hyX8_howMany : yX8_howMany.cls ≠ "java/lang/invoke/MethodHandle" ∧ yX8_howMany.cls ≠ "java/lang/invoke/VarHandle" ∧ (parseMethodDescriptor yX8_howMany.desc).map (fun d => d.parameters.length) = some 1 := by decide +kernel
theorem imX8_howMany : Cond.instanceMethod yX8_howMany ∈ gl := tb 741 (by decide +kernel) rfl
theorem seX8_howMany : Cond.selects yX8_howMany.cls yX8_howMany yX8_howMany ∈ gl := ts 41 (by decide +kernel) rfl
theorem coX8_isNet : Cond.code yX8_isNet cX8_isNet 1 (some .boolean) ∈ gl := tb 587 (by decide +kernel) rfl
theorem hyX8_isNet : yX8_isNet.cls ≠ "java/lang/invoke/MethodHandle" ∧ yX8_isNet.cls ≠ "java/lang/invoke/VarHandle" ∧ (parseMethodDescriptor yX8_isNet.desc).map (fun d => d.parameters.length) = some 1 := by decide +kernel
theorem stX8_isNet : Cond.static yX8_isNet ∈ gl := tb 586 (by decide +kernel) rfl
theorem coX8_isRight : Cond.code yX8_isRight cX8_isRight 4 (some .boolean) ∈ gl := tb 568 (by decide +kernel) rfl
theorem hyX8_isRight : yX8_isRight.cls ≠ "java/lang/invoke/MethodHandle" ∧ yX8_isRight.cls ≠ "java/lang/invoke/VarHandle" ∧ (parseMethodDescriptor yX8_isRight.desc).map (fun d => d.parameters.length) = some 1 := by decide +kernel
theorem imX8_isRight : Cond.instanceMethod yX8_isRight ∈ gl := tb 567 (by decide +kernel) rfl
theorem seX8_isRight : Cond.selects yX8_isRight.cls yX8_isRight yX8_isRight ∈ gl := ts 15 (by decide +kernel) rfl
theorem coX8_isWayThere : Cond.code yX8_isWayThere cX8_isWayThere 1 (some .boolean) ∈ gl := tb 576 (by decide +kernel) rfl
theorem hyX8_isWayThere : yX8_isWayThere.cls ≠ "java/lang/invoke/MethodHandle" ∧ yX8_isWayThere.cls ≠ "java/lang/invoke/VarHandle" ∧ (parseMethodDescriptor yX8_isWayThere.desc).map (fun d => d.parameters.length) = some 0 := by decide +kernel
theorem imX8_isWayThere : Cond.instanceMethod yX8_isWayThere ∈ gl := tb 575 (by decide +kernel) rfl
theorem seX8_isWayThere : Cond.selects yX8_isWayThere.cls yX8_isWayThere yX8_isWayThere ∈ gl := ts 16 (by decide +kernel) rfl
theorem coX8_lay : Cond.code yX8_lay cX8_lay 2 none ∈ gl := tb 609 (by decide +kernel) rfl
theorem hyX8_lay : yX8_lay.cls ≠ "java/lang/invoke/MethodHandle" ∧ yX8_lay.cls ≠ "java/lang/invoke/VarHandle" ∧ (parseMethodDescriptor yX8_lay.desc).map (fun d => d.parameters.length) = some 0 := by decide +kernel
theorem imX8_lay : Cond.instanceMethod yX8_lay ∈ gl := tb 608 (by decide +kernel) rfl
theorem seX8_lay : Cond.selects yX8_lay.cls yX8_lay yX8_lay ∈ gl := ts 18 (by decide +kernel) rfl
theorem coX8_layFar : Cond.code yX8_layFar cX8_layFar 7 none ∈ gl := tb 731 (by decide +kernel) rfl
theorem hyX8_layFar : yX8_layFar.cls ≠ "java/lang/invoke/MethodHandle" ∧ yX8_layFar.cls ≠ "java/lang/invoke/VarHandle" ∧ (parseMethodDescriptor yX8_layFar.desc).map (fun d => d.parameters.length) = some 1 := by decide +kernel
theorem imX8_layFar : Cond.instanceMethod yX8_layFar ∈ gl := tb 730 (by decide +kernel) rfl
theorem seX8_layFar : Cond.selects yX8_layFar.cls yX8_layFar yX8_layFar ∈ gl := ts 40 (by decide +kernel) rfl
theorem coX8_layRanks : Cond.code yX8_layRanks cX8_layRanks 4 none ∈ gl := tb 624 (by decide +kernel) rfl
theorem hyX8_layRanks : yX8_layRanks.cls ≠ "java/lang/invoke/MethodHandle" ∧ yX8_layRanks.cls ≠ "java/lang/invoke/VarHandle" ∧ (parseMethodDescriptor yX8_layRanks.desc).map (fun d => d.parameters.length) = some 0 := by decide +kernel
theorem imX8_layRanks : Cond.instanceMethod yX8_layRanks ∈ gl := tb 623 (by decide +kernel) rfl
theorem seX8_layRanks : Cond.selects yX8_layRanks.cls yX8_layRanks yX8_layRanks ∈ gl := ts 21 (by decide +kernel) rfl
theorem coX8_layTop : Cond.code yX8_layTop cX8_layTop 5 none ∈ gl := tb 635 (by decide +kernel) rfl
theorem hyX8_layTop : yX8_layTop.cls ≠ "java/lang/invoke/MethodHandle" ∧ yX8_layTop.cls ≠ "java/lang/invoke/VarHandle" ∧ (parseMethodDescriptor yX8_layTop.desc).map (fun d => d.parameters.length) = some 0 := by decide +kernel
theorem imX8_layTop : Cond.instanceMethod yX8_layTop ∈ gl := tb 634 (by decide +kernel) rfl
theorem seX8_layTop : Cond.selects yX8_layTop.cls yX8_layTop yX8_layTop ∈ gl := ts 23 (by decide +kernel) rfl
theorem coX8_layTwo : Cond.code yX8_layTwo cX8_layTwo 5 none ∈ gl := tb 620 (by decide +kernel) rfl
theorem hyX8_layTwo : yX8_layTwo.cls ≠ "java/lang/invoke/MethodHandle" ∧ yX8_layTwo.cls ≠ "java/lang/invoke/VarHandle" ∧ (parseMethodDescriptor yX8_layTwo.desc).map (fun d => d.parameters.length) = some 2 := by decide +kernel
theorem imX8_layTwo : Cond.instanceMethod yX8_layTwo ∈ gl := tb 619 (by decide +kernel) rfl
theorem seX8_layTwo : Cond.selects yX8_layTwo.cls yX8_layTwo yX8_layTwo ∈ gl := ts 20 (by decide +kernel) rfl
theorem coX8_layVotes : Cond.code yX8_layVotes cX8_layVotes 8 none ∈ gl := tb 647 (by decide +kernel) rfl
theorem hyX8_layVotes : yX8_layVotes.cls ≠ "java/lang/invoke/MethodHandle" ∧ yX8_layVotes.cls ≠ "java/lang/invoke/VarHandle" ∧ (parseMethodDescriptor yX8_layVotes.desc).map (fun d => d.parameters.length) = some 0 := by decide +kernel
theorem imX8_layVotes : Cond.instanceMethod yX8_layVotes ∈ gl := tb 646 (by decide +kernel) rfl
theorem seX8_layVotes : Cond.selects yX8_layVotes.cls yX8_layVotes yX8_layVotes ∈ gl := ts 26 (by decide +kernel) rfl
theorem coX8_layWays : Cond.code yX8_layWays cX8_layWays 4 none ∈ gl := tb 613 (by decide +kernel) rfl
theorem hyX8_layWays : yX8_layWays.cls ≠ "java/lang/invoke/MethodHandle" ∧ yX8_layWays.cls ≠ "java/lang/invoke/VarHandle" ∧ (parseMethodDescriptor yX8_layWays.desc).map (fun d => d.parameters.length) = some 0 := by decide +kernel
theorem imX8_layWays : Cond.instanceMethod yX8_layWays ∈ gl := tb 612 (by decide +kernel) rfl
theorem seX8_layWays : Cond.selects yX8_layWays.cls yX8_layWays yX8_layWays ∈ gl := ts 19 (by decide +kernel) rfl
theorem coX8_lesserOf : Cond.code yX8_lesserOf cX8_lesserOf 6 (some .int) ∈ gl := tb 699 (by decide +kernel) rfl
theorem hyX8_lesserOf : yX8_lesserOf.cls ≠ "java/lang/invoke/MethodHandle" ∧ yX8_lesserOf.cls ≠ "java/lang/invoke/VarHandle" ∧ (parseMethodDescriptor yX8_lesserOf.desc).map (fun d => d.parameters.length) = some 1 := by decide +kernel
theorem imX8_lesserOf : Cond.instanceMethod yX8_lesserOf ∈ gl := tb 698 (by decide +kernel) rfl
theorem seX8_lesserOf : Cond.selects yX8_lesserOf.cls yX8_lesserOf yX8_lesserOf ∈ gl := ts 35 (by decide +kernel) rfl
theorem coX8_letter : Cond.code yX8_letter cX8_letter 2 (some .int) ∈ gl := tb 549 (by decide +kernel) rfl
theorem hyX8_letter : yX8_letter.cls ≠ "java/lang/invoke/MethodHandle" ∧ yX8_letter.cls ≠ "java/lang/invoke/VarHandle" ∧ (parseMethodDescriptor yX8_letter.desc).map (fun d => d.parameters.length) = some 1 := by decide +kernel
theorem imX8_letter : Cond.instanceMethod yX8_letter ∈ gl := tb 547 (by decide +kernel) rfl
theorem seX8_letter : Cond.selects yX8_letter.cls yX8_letter yX8_letter ∈ gl := tb 548 (by decide +kernel) rfl
theorem coX8_link : Cond.code yX8_link cX8_link 4 (some .int) ∈ gl := tb 683 (by decide +kernel) rfl
theorem hyX8_link : yX8_link.cls ≠ "java/lang/invoke/MethodHandle" ∧ yX8_link.cls ≠ "java/lang/invoke/VarHandle" ∧ (parseMethodDescriptor yX8_link.desc).map (fun d => d.parameters.length) = some 3 := by decide +kernel
theorem imX8_link : Cond.instanceMethod yX8_link ∈ gl := tb 681 (by decide +kernel) rfl
theorem seX8_link : Cond.selects yX8_link.cls yX8_link yX8_link ∈ gl := tb 682 (by decide +kernel) rfl
theorem coX8_linkNow : Cond.code yX8_linkNow cX8_linkNow 5 (some .int) ∈ gl := tb 687 (by decide +kernel) rfl
theorem hyX8_linkNow : yX8_linkNow.cls ≠ "java/lang/invoke/MethodHandle" ∧ yX8_linkNow.cls ≠ "java/lang/invoke/VarHandle" ∧ (parseMethodDescriptor yX8_linkNow.desc).map (fun d => d.parameters.length) = some 3 := by decide +kernel
theorem imX8_linkNow : Cond.instanceMethod yX8_linkNow ∈ gl := tb 686 (by decide +kernel) rfl
theorem seX8_linkNow : Cond.selects yX8_linkNow.cls yX8_linkNow yX8_linkNow ∈ gl := ts 33 (by decide +kernel) rfl
theorem coX8_linksOf : Cond.code yX8_linksOf cX8_linksOf 7 (some .int) ∈ gl := tb 750 (by decide +kernel) rfl
theorem hyX8_linksOf : yX8_linksOf.cls ≠ "java/lang/invoke/MethodHandle" ∧ yX8_linksOf.cls ≠ "java/lang/invoke/VarHandle" ∧ (parseMethodDescriptor yX8_linksOf.desc).map (fun d => d.parameters.length) = some 1 := by decide +kernel
theorem imX8_linksOf : Cond.instanceMethod yX8_linksOf ∈ gl := tb 749 (by decide +kernel) rfl
theorem seX8_linksOf : Cond.selects yX8_linksOf.cls yX8_linksOf yX8_linksOf ∈ gl := ts 43 (by decide +kernel) rfl
theorem coX8_mix : Cond.code yX8_mix cX8_mix 3 none ∈ gl := tb 763 (by decide +kernel) rfl
theorem hyX8_mix : yX8_mix.cls ≠ "java/lang/invoke/MethodHandle" ∧ yX8_mix.cls ≠ "java/lang/invoke/VarHandle" ∧ (parseMethodDescriptor yX8_mix.desc).map (fun d => d.parameters.length) = some 1 := by decide +kernel
theorem imX8_mix : Cond.instanceMethod yX8_mix ∈ gl := tb 762 (by decide +kernel) rfl
theorem seX8_mix : Cond.selects yX8_mix.cls yX8_mix yX8_mix ∈ gl := ts 45 (by decide +kernel) rfl
theorem coX8_mixNets : Cond.code yX8_mixNets cX8_mixNets 4 none ∈ gl := tb 759 (by decide +kernel) rfl
theorem hyX8_mixNets : yX8_mixNets.cls ≠ "java/lang/invoke/MethodHandle" ∧ yX8_mixNets.cls ≠ "java/lang/invoke/VarHandle" ∧ (parseMethodDescriptor yX8_mixNets.desc).map (fun d => d.parameters.length) = some 0 := by decide +kernel
theorem imX8_mixNets : Cond.instanceMethod yX8_mixNets ∈ gl := tb 758 (by decide +kernel) rfl
theorem seX8_mixNets : Cond.selects yX8_mixNets.cls yX8_mixNets yX8_mixNets ∈ gl := ts 44 (by decide +kernel) rfl
theorem coX8_nameBy : Cond.code yX8_nameBy cX8_nameBy 5 (some .int) ∈ gl := tb 659 (by decide +kernel) rfl
theorem hyX8_nameBy : yX8_nameBy.cls ≠ "java/lang/invoke/MethodHandle" ∧ yX8_nameBy.cls ≠ "java/lang/invoke/VarHandle" ∧ (parseMethodDescriptor yX8_nameBy.desc).map (fun d => d.parameters.length) = some 2 := by decide +kernel
theorem imX8_nameBy : Cond.instanceMethod yX8_nameBy ∈ gl := tb 658 (by decide +kernel) rfl
theorem seX8_nameBy : Cond.selects yX8_nameBy.cls yX8_nameBy yX8_nameBy ∈ gl := ts 29 (by decide +kernel) rfl
theorem coX8_near : Cond.code yX8_near cX8_near 4 (some .int) ∈ gl := tb 723 (by decide +kernel) rfl
theorem hyX8_near : yX8_near.cls ≠ "java/lang/invoke/MethodHandle" ∧ yX8_near.cls ≠ "java/lang/invoke/VarHandle" ∧ (parseMethodDescriptor yX8_near.desc).map (fun d => d.parameters.length) = some 3 := by decide +kernel
theorem imX8_near : Cond.instanceMethod yX8_near ∈ gl := tb 721 (by decide +kernel) rfl
theorem seX8_near : Cond.selects yX8_near.cls yX8_near yX8_near ∈ gl := tb 722 (by decide +kernel) rfl
theorem coX8_nearNow : Cond.code yX8_nearNow cX8_nearNow 6 (some .int) ∈ gl := tb 727 (by decide +kernel) rfl
theorem hyX8_nearNow : yX8_nearNow.cls ≠ "java/lang/invoke/MethodHandle" ∧ yX8_nearNow.cls ≠ "java/lang/invoke/VarHandle" ∧ (parseMethodDescriptor yX8_nearNow.desc).map (fun d => d.parameters.length) = some 3 := by decide +kernel
theorem imX8_nearNow : Cond.instanceMethod yX8_nearNow ∈ gl := tb 726 (by decide +kernel) rfl
theorem seX8_nearNow : Cond.selects yX8_nearNow.cls yX8_nearNow yX8_nearNow ∈ gl := ts 39 (by decide +kernel) rfl
theorem coX8_net : Cond.code yX8_net cX8_net 3 (some .int) ∈ gl := tb 601 (by decide +kernel) rfl
theorem hyX8_net : yX8_net.cls ≠ "java/lang/invoke/MethodHandle" ∧ yX8_net.cls ≠ "java/lang/invoke/VarHandle" ∧ (parseMethodDescriptor yX8_net.desc).map (fun d => d.parameters.length) = some 2 := by decide +kernel
theorem imX8_net : Cond.instanceMethod yX8_net ∈ gl := tb 599 (by decide +kernel) rfl
theorem seX8_net : Cond.selects yX8_net.cls yX8_net yX8_net ∈ gl := tb 600 (by decide +kernel) rfl
theorem coX8_netNow : Cond.code yX8_netNow cX8_netNow 3 (some .int) ∈ gl := tb 605 (by decide +kernel) rfl
theorem hyX8_netNow : yX8_netNow.cls ≠ "java/lang/invoke/MethodHandle" ∧ yX8_netNow.cls ≠ "java/lang/invoke/VarHandle" ∧ (parseMethodDescriptor yX8_netNow.desc).map (fun d => d.parameters.length) = some 2 := by decide +kernel
theorem imX8_netNow : Cond.instanceMethod yX8_netNow ∈ gl := tb 604 (by decide +kernel) rfl
theorem seX8_netNow : Cond.selects yX8_netNow.cls yX8_netNow yX8_netNow ∈ gl := ts 17 (by decide +kernel) rfl
theorem coX8_ones : Cond.code yX8_ones cX8_ones 3 (some .int) ∈ gl := tb 627 (by decide +kernel) rfl
theorem hyX8_ones : yX8_ones.cls ≠ "java/lang/invoke/MethodHandle" ∧ yX8_ones.cls ≠ "java/lang/invoke/VarHandle" ∧ (parseMethodDescriptor yX8_ones.desc).map (fun d => d.parameters.length) = some 1 := by decide +kernel
theorem stX8_ones : Cond.static yX8_ones ∈ gl := tb 626 (by decide +kernel) rfl
theorem coX8_rank : Cond.code yX8_rank cX8_rank 2 (some .int) ∈ gl := tb 667 (by decide +kernel) rfl
theorem hyX8_rank : yX8_rank.cls ≠ "java/lang/invoke/MethodHandle" ∧ yX8_rank.cls ≠ "java/lang/invoke/VarHandle" ∧ (parseMethodDescriptor yX8_rank.desc).map (fun d => d.parameters.length) = some 1 := by decide +kernel
theorem imX8_rank : Cond.instanceMethod yX8_rank ∈ gl := tb 665 (by decide +kernel) rfl
theorem seX8_rank : Cond.selects yX8_rank.cls yX8_rank yX8_rank ∈ gl := tb 666 (by decide +kernel) rfl
theorem coX8_rankNow : Cond.code yX8_rankNow cX8_rankNow 2 (some .int) ∈ gl := tb 671 (by decide +kernel) rfl
theorem hyX8_rankNow : yX8_rankNow.cls ≠ "java/lang/invoke/MethodHandle" ∧ yX8_rankNow.cls ≠ "java/lang/invoke/VarHandle" ∧ (parseMethodDescriptor yX8_rankNow.desc).map (fun d => d.parameters.length) = some 1 := by decide +kernel
theorem imX8_rankNow : Cond.instanceMethod yX8_rankNow ∈ gl := tb 670 (by decide +kernel) rfl
theorem seX8_rankNow : Cond.selects yX8_rankNow.cls yX8_rankNow yX8_rankNow ∈ gl := ts 31 (by decide +kernel) rfl
theorem coX8_rightLetters : Cond.code yX8_rightLetters cX8_rightLetters 2 (some .int) ∈ gl := tb 564 (by decide +kernel) rfl
theorem hyX8_rightLetters : yX8_rightLetters.cls ≠ "java/lang/invoke/MethodHandle" ∧ yX8_rightLetters.cls ≠ "java/lang/invoke/VarHandle" ∧ (parseMethodDescriptor yX8_rightLetters.desc).map (fun d => d.parameters.length) = some 0 := by decide +kernel
theorem imX8_rightLetters : Cond.instanceMethod yX8_rightLetters ∈ gl := tb 563 (by decide +kernel) rfl
theorem seX8_rightLetters : Cond.selects yX8_rightLetters.cls yX8_rightLetters yX8_rightLetters ∈ gl := ts 14 (by decide +kernel) rfl
theorem coX8_seen : Cond.code yX8_seen cX8_seen 3 (some .int) ∈ gl := tb 711 (by decide +kernel) rfl
theorem hyX8_seen : yX8_seen.cls ≠ "java/lang/invoke/MethodHandle" ∧ yX8_seen.cls ≠ "java/lang/invoke/VarHandle" ∧ (parseMethodDescriptor yX8_seen.desc).map (fun d => d.parameters.length) = some 2 := by decide +kernel
theorem imX8_seen : Cond.instanceMethod yX8_seen ∈ gl := tb 709 (by decide +kernel) rfl
theorem seX8_seen : Cond.selects yX8_seen.cls yX8_seen yX8_seen ∈ gl := tb 710 (by decide +kernel) rfl
theorem coX8_seenNow : Cond.code yX8_seenNow cX8_seenNow 3 (some .int) ∈ gl := tb 715 (by decide +kernel) rfl
theorem hyX8_seenNow : yX8_seenNow.cls ≠ "java/lang/invoke/MethodHandle" ∧ yX8_seenNow.cls ≠ "java/lang/invoke/VarHandle" ∧ (parseMethodDescriptor yX8_seenNow.desc).map (fun d => d.parameters.length) = some 2 := by decide +kernel
theorem imX8_seenNow : Cond.instanceMethod yX8_seenNow ∈ gl := tb 714 (by decide +kernel) rfl
theorem seX8_seenNow : Cond.selects yX8_seenNow.cls yX8_seenNow yX8_seenNow ∈ gl := ts 37 (by decide +kernel) rfl
theorem coX8_tell : Cond.code yX8_tell cX8_tell 5 (some .int) ∈ gl := tb 591 (by decide +kernel) rfl
theorem hyX8_tell : yX8_tell.cls ≠ "java/lang/invoke/MethodHandle" ∧ yX8_tell.cls ≠ "java/lang/invoke/VarHandle" ∧ (parseMethodDescriptor yX8_tell.desc).map (fun d => d.parameters.length) = some 3 := by decide +kernel
theorem imX8_tell : Cond.instanceMethod yX8_tell ∈ gl := tb 589 (by decide +kernel) rfl
theorem seX8_tell : Cond.selects yX8_tell.cls yX8_tell yX8_tell ∈ gl := tb 590 (by decide +kernel) rfl
theorem coX8_top : Cond.code yX8_top cX8_top 1 (some .int) ∈ gl := tb 675 (by decide +kernel) rfl
theorem hyX8_top : yX8_top.cls ≠ "java/lang/invoke/MethodHandle" ∧ yX8_top.cls ≠ "java/lang/invoke/VarHandle" ∧ (parseMethodDescriptor yX8_top.desc).map (fun d => d.parameters.length) = some 0 := by decide +kernel
theorem imX8_top : Cond.instanceMethod yX8_top ∈ gl := tb 673 (by decide +kernel) rfl
theorem seX8_top : Cond.selects yX8_top.cls yX8_top yX8_top ∈ gl := tb 674 (by decide +kernel) rfl
theorem coX8_topNow : Cond.code yX8_topNow cX8_topNow 1 (some .int) ∈ gl := tb 679 (by decide +kernel) rfl
theorem hyX8_topNow : yX8_topNow.cls ≠ "java/lang/invoke/MethodHandle" ∧ yX8_topNow.cls ≠ "java/lang/invoke/VarHandle" ∧ (parseMethodDescriptor yX8_topNow.desc).map (fun d => d.parameters.length) = some 0 := by decide +kernel
theorem imX8_topNow : Cond.instanceMethod yX8_topNow ∈ gl := tb 678 (by decide +kernel) rfl
theorem seX8_topNow : Cond.selects yX8_topNow.cls yX8_topNow yX8_topNow ∈ gl := ts 32 (by decide +kernel) rfl
theorem coX8_turned : Cond.code yX8_turned cX8_turned 1 (some .int) ∈ gl := tb 597 (by decide +kernel) rfl
theorem hyX8_turned : yX8_turned.cls ≠ "java/lang/invoke/MethodHandle" ∧ yX8_turned.cls ≠ "java/lang/invoke/VarHandle" ∧ (parseMethodDescriptor yX8_turned.desc).map (fun d => d.parameters.length) = some 1 := by decide +kernel
theorem stX8_turned : Cond.static yX8_turned ∈ gl := tb 596 (by decide +kernel) rfl
theorem coX8_valley : Cond.code yX8_valley cX8_valley 2 (some .int) ∈ gl := tb 703 (by decide +kernel) rfl
theorem hyX8_valley : yX8_valley.cls ≠ "java/lang/invoke/MethodHandle" ∧ yX8_valley.cls ≠ "java/lang/invoke/VarHandle" ∧ (parseMethodDescriptor yX8_valley.desc).map (fun d => d.parameters.length) = some 0 := by decide +kernel
theorem imX8_valley : Cond.instanceMethod yX8_valley ∈ gl := tb 701 (by decide +kernel) rfl
theorem seX8_valley : Cond.selects yX8_valley.cls yX8_valley yX8_valley ∈ gl := tb 702 (by decide +kernel) rfl
theorem coX8_valleyOf : Cond.code yX8_valleyOf cX8_valleyOf 4 (some .int) ∈ gl := tb 707 (by decide +kernel) rfl
theorem hyX8_valleyOf : yX8_valleyOf.cls ≠ "java/lang/invoke/MethodHandle" ∧ yX8_valleyOf.cls ≠ "java/lang/invoke/VarHandle" ∧ (parseMethodDescriptor yX8_valleyOf.desc).map (fun d => d.parameters.length) = some 0 := by decide +kernel
theorem imX8_valleyOf : Cond.instanceMethod yX8_valleyOf ∈ gl := tb 706 (by decide +kernel) rfl
theorem seX8_valleyOf : Cond.selects yX8_valleyOf.cls yX8_valleyOf yX8_valleyOf ∈ gl := ts 36 (by decide +kernel) rfl
theorem coX8_valleyOfWay : Cond.code yX8_valleyOfWay cX8_valleyOfWay 3 (some .int) ∈ gl := tb 719 (by decide +kernel) rfl
theorem hyX8_valleyOfWay : yX8_valleyOfWay.cls ≠ "java/lang/invoke/MethodHandle" ∧ yX8_valleyOfWay.cls ≠ "java/lang/invoke/VarHandle" ∧ (parseMethodDescriptor yX8_valleyOfWay.desc).map (fun d => d.parameters.length) = some 1 := by decide +kernel
theorem imX8_valleyOfWay : Cond.instanceMethod yX8_valleyOfWay ∈ gl := tb 718 (by decide +kernel) rfl
theorem seX8_valleyOfWay : Cond.selects yX8_valleyOfWay.cls yX8_valleyOfWay yX8_valleyOfWay ∈ gl := ts 38 (by decide +kernel) rfl
theorem coX8_way : Cond.code yX8_way cX8_way 2 (some .int) ∈ gl := tb 572 (by decide +kernel) rfl
theorem hyX8_way : yX8_way.cls ≠ "java/lang/invoke/MethodHandle" ∧ yX8_way.cls ≠ "java/lang/invoke/VarHandle" ∧ (parseMethodDescriptor yX8_way.desc).map (fun d => d.parameters.length) = some 0 := by decide +kernel
theorem imX8_way : Cond.instanceMethod yX8_way ∈ gl := tb 570 (by decide +kernel) rfl
theorem seX8_way : Cond.selects yX8_way.cls yX8_way yX8_way ∈ gl := tb 571 (by decide +kernel) rfl
theorem coX8_weightOf : Cond.code yX8_weightOf cX8_weightOf 2 (some .int) ∈ gl := tb 631 (by decide +kernel) rfl
theorem hyX8_weightOf : yX8_weightOf.cls ≠ "java/lang/invoke/MethodHandle" ∧ yX8_weightOf.cls ≠ "java/lang/invoke/VarHandle" ∧ (parseMethodDescriptor yX8_weightOf.desc).map (fun d => d.parameters.length) = some 1 := by decide +kernel
theorem imX8_weightOf : Cond.instanceMethod yX8_weightOf ∈ gl := tb 630 (by decide +kernel) rfl
theorem seX8_weightOf : Cond.selects yX8_weightOf.cls yX8_weightOf yX8_weightOf ∈ gl := ts 22 (by decide +kernel) rfl
theorem coX8_withValley : Cond.code yX8_withValley cX8_withValley 3 (some .int) ∈ gl := tb 746 (by decide +kernel) rfl
theorem hyX8_withValley : yX8_withValley.cls ≠ "java/lang/invoke/MethodHandle" ∧ yX8_withValley.cls ≠ "java/lang/invoke/VarHandle" ∧ (parseMethodDescriptor yX8_withValley.desc).map (fun d => d.parameters.length) = some 0 := by decide +kernel
theorem imX8_withValley : Cond.instanceMethod yX8_withValley ∈ gl := tb 745 (by decide +kernel) rfl
theorem seX8_withValley : Cond.selects yX8_withValley.cls yX8_withValley yX8_withValley ∈ gl := ts 42 (by decide +kernel) rfl
theorem coX8_within : Cond.code yX8_within cX8_within 3 (some .boolean) ∈ gl := tb 552 (by decide +kernel) rfl
theorem hyX8_within : yX8_within.cls ≠ "java/lang/invoke/MethodHandle" ∧ yX8_within.cls ≠ "java/lang/invoke/VarHandle" ∧ (parseMethodDescriptor yX8_within.desc).map (fun d => d.parameters.length) = some 3 := by decide +kernel
theorem stX8_within : Cond.static yX8_within ∈ gl := tb 551 (by decide +kernel) rfl
theorem inRX7 : Cond.initialized RX7 ∈ gl := tb 1 (by decide +kernel) rfl
theorem inRX0 : Cond.initialized RX0 ∈ gl := tb 8 (by decide +kernel) rfl
theorem inRX1 : Cond.initialized RX1 ∈ gl := tb 4 (by decide +kernel) rfl
theorem inRX2 : Cond.initialized RX2 ∈ gl := tb 6 (by decide +kernel) rfl
theorem inRX3 : Cond.initialized RX3 ∈ gl := tb 5 (by decide +kernel) rfl
theorem inRX4 : Cond.initialized RX4 ∈ gl := tb 2 (by decide +kernel) rfl
theorem inRX5 : Cond.initialized RX5 ∈ gl := tb 7 (by decide +kernel) rfl
theorem inRX6 : Cond.initialized RX6 ∈ gl := tb 3 (by decide +kernel) rfl
theorem inRX8 : Cond.initialized RX8 ∈ gl := tb 10 (by decide +kernel) rfl
theorem inRJ6 : Cond.initialized RJ6 ∈ gl := tb 9 (by decide +kernel) rfl
theorem inRJ9 : Cond.initialized RJ9 ∈ gl := tb 11 (by decide +kernel) rfl
end
section
def fX8_within_J15 (s0 : Int32) : Option (Int32) := gd (zb s0) (some s0)
def fX8_within_J14  : Option (Int32) := fX8_within_J15 (0 : Int32)
def fX8_within (a0 : Int32) (a1 : Int32) (a2 : Int32) : Option (Int32) := (if a0 < a1 then fX8_within_J14  else (if a2 < a0 then fX8_within_J14  else fX8_within_J15 (1 : Int32)))
def fX8_letter (a1 : Int32) (sg : Sg) : Option (Int32 × Sg) := (fX8_within a1 (32 : Int32) (126 : Int32)).bind fun r_2 => (if r_2 = 0 then some ((-1002 : Int32), sg) else (if (rd sg 0 0) = (6 : Int32) then some ((-1004 : Int32), sg) else gd (inb (rd sg 0 0) 6) (lt (wr sg 1 (Int32.toNatClampNeg (rd sg 0 0)) a1) fun sg_4 => lt (wr sg_4 0 0 ((rd sg_4 0 0) + (1 : Int32))) fun sg_5 => some ((rd sg_5 0 0), sg_5))))
def fX8_blank  (sg : Sg) : Option (Int32 × Sg) := lt (wr sg 0 0 (0 : Int32)) fun sg_1 => some ((rd sg 0 0), sg_1)
def fX8_isRight_L16_J45 (a1 : Int32) (a3 : Int32) (s0 : Int32) (sg : Sg) : Option ((Int32 × Int32) ⊕ (Int32 × Int32)) := some (.inr (s0, (a3 + 1)))
def fX8_isRight_L16_J44 (a1 : Int32) (a3 : Int32) (sg : Sg) : Option ((Int32 × Int32) ⊕ (Int32 × Int32)) := fX8_isRight_L16_J45 a1 a3 (0 : Int32) sg
def fX8_isRight_L16 (a1 : Int32) (sg : Sg) (a2 : Int32) (a3 : Int32) : Option ((Int32 × Int32) ⊕ (Int32 × Int32)) := (if a1 ≤ a3 then some (.inl (a2, a3)) else (if a2 = 0 then fX8_isRight_L16_J44 a1 a3 sg else gd (inb a3 6) (gd (inb a1 6) ((if (rd sg 1 (Int32.toNatClampNeg a3)) = (rd sg 1 (Int32.toNatClampNeg a1)) then fX8_isRight_L16_J44 a1 a3 sg else fX8_isRight_L16_J45 a1 a3 (1 : Int32) sg)))))
def fX8_isRight_E52 (a1 : Int32) (a2 : Int32) (a3 : Int32) (sg : Sg) : Option (Int32) := gd (zb a2) (some a2)
def fX8_isRight (a1 : Int32) (sg : Sg) : Option (Int32) := gd (inb a1 6) ((fX8_within (rd sg 1 (Int32.toNatClampNeg a1)) (48 : Int32) (55 : Int32)).bind fun r_3 => ((lpS (fun t => fX8_isRight_L16 a1 sg t.1 t.2) 300 (r_3, (0 : Int32))).bind fun t => fX8_isRight_E52 a1 t.1 t.2 sg))
def fX8_rightLetters_L2 (sg : Sg) (a1 : Int32) : Option ((Int32) ⊕ (Int32)) := (if (rd sg 0 0) ≤ a1 then some (.inl a1) else (fX8_isRight a1 sg).bind fun r_2 => (if r_2 = 0 then some (.inl a1) else some (.inr (a1 + 1))))
def fX8_rightLetters_E24 (a1 : Int32) (sg : Sg) : Option (Int32) := some a1
def fX8_rightLetters  (sg : Sg) : Option (Int32) := ((lpS (fun t => fX8_rightLetters_L2 sg t) 300 (0 : Int32)).bind fun t => fX8_rightLetters_E24 t sg)
def fX8_fault  (sg : Sg) : Option (Int32) := (fX8_rightLetters sg).bind fun r_2 => some r_2
def fX8_isWayThere_J24 (s0 : Int32) (sg : Sg) : Option (Int32) := gd (zb s0) (some s0)
def fX8_isWayThere_J23 (sg : Sg) : Option (Int32) := fX8_isWayThere_J24 (0 : Int32) sg
def fX8_isWayThere  (sg : Sg) : Option (Int32) := (if (rd sg 0 0) ≤ (1 : Int32) then fX8_isWayThere_J23 sg else (fX8_rightLetters sg).bind fun r_2 => (if r_2 = (rd sg 0 0) then fX8_isWayThere_J24 (1 : Int32) sg else fX8_isWayThere_J23 sg))
def fX8_way_L26 (a1 : Int32) (sg : Sg) : Option ((Int32 × Sg) ⊕ (Int32 × Sg)) := (if (rd sg 0 0) ≤ a1 then some (.inl (a1, sg)) else gd (inb a1 6) (gd (inb (((8 : Int32) * (rd sg 0 2)) + a1) 96) (lt (wr sg 2 (Int32.toNatClampNeg (((8 : Int32) * (rd sg 0 2)) + a1)) ((rd sg 1 (Int32.toNatClampNeg a1)) - (48 : Int32))) fun sg_5 => some (.inr ((a1 + 1), sg_5)))))
def fX8_way_E63 (a1 : Int32) (sg : Sg) : Option (Int32 × Sg) := gd (inb (rd sg 0 2) 12) (lt (wr sg 3 (Int32.toNatClampNeg (rd sg 0 2)) (rd sg 0 0)) fun sg_10 => lt (wr sg_10 0 2 ((rd sg_10 0 2) + (1 : Int32))) fun sg_11 => lt (wr sg_11 0 7 ((rd sg_11 0 7) + (1 : Int32))) fun sg_12 => lt (wr sg_12 0 0 (0 : Int32)) fun sg_13 => lt (wr sg_13 0 8 (0 : Int32)) fun sg_14 => some (((rd sg_14 0 2) - (1 : Int32)), sg_14))
def fX8_way  (sg : Sg) : Option (Int32 × Sg) := (fX8_isWayThere sg).bind fun r_2 => (if r_2 = 0 then some ((-1003 : Int32), sg) else (if (rd sg 0 2) = (12 : Int32) then some ((-1004 : Int32), sg) else ((lpS (fun t => fX8_way_L26 t.1 t.2) 300 ((0 : Int32), sg)).bind fun t => fX8_way_E63 t.1 t.2)))
def fX8_has_J14 (s0 : Int32) : Option (Int32) := gd (zb s0) (some s0)
def fX8_has (a0 : Int32) (a1 : Int32) : Option (Int32) := (if ((a0 >>> (a1 &&& 31)) &&& (1 : Int32)) = (1 : Int32) then fX8_has_J14 (1 : Int32) else fX8_has_J14 (0 : Int32))
def fX8_layTwo_J126 (sg : Sg) : Option (Sg) := some sg
def fX8_layTwo (a1 : Int32) (a2 : Int32) (sg : Sg) : Option (Sg) := gd (inb ((((8 : Int32) * a1) + a2) - (1 : Int32)) 96) (lt ((rd sg 5 (Int32.toNatClampNeg ((((8 : Int32) * a1) + a2) - (1 : Int32))))) fun a3_2 => gd (inb (((8 : Int32) * a1) + a2) 96) (lt ((rd sg 5 (Int32.toNatClampNeg (((8 : Int32) * a1) + a2)))) fun a4_4 => gd (inb a3_2 8) (gd (inb a3_2 8) (lt (wr sg 7 (Int32.toNatClampNeg a3_2) ((rd sg 7 (Int32.toNatClampNeg a3_2)) ||| ((1 : Int32) <<< (a4_4 &&& 31)))) fun sg_7 => gd (inb a4_4 8) (gd (inb a4_4 8) (lt (wr sg_7 7 (Int32.toNatClampNeg a4_4) ((rd sg_7 7 (Int32.toNatClampNeg a4_4)) ||| ((1 : Int32) <<< (a3_2 &&& 31)))) fun sg_10 => gd (inb (((8 : Int32) * a3_2) + a4_4) 64) (gd (inb (((8 : Int32) * a3_2) + a4_4) 64) (lt (wr sg_10 12 (Int32.toNatClampNeg (((8 : Int32) * a3_2) + a4_4)) ((rd sg_10 12 (Int32.toNatClampNeg (((8 : Int32) * a3_2) + a4_4))) + (1 : Int32))) fun sg_13 => gd (inb (((8 : Int32) * a4_4) + a3_2) 64) (gd (inb (((8 : Int32) * a4_4) + a3_2) 64) (lt (wr sg_13 12 (Int32.toNatClampNeg (((8 : Int32) * a4_4) + a3_2)) ((rd sg_13 12 (Int32.toNatClampNeg (((8 : Int32) * a4_4) + a3_2))) + (1 : Int32))) fun sg_16 => gd (inb a1 12) ((if (rd sg_16 6 (Int32.toNatClampNeg a1)) ≤ (a2 + (1 : Int32)) then fX8_layTwo_J126 sg_16 else gd (inb a4_4 8) (gd (inb ((((8 : Int32) * a1) + a2) + (1 : Int32)) 96) (gd (inb a4_4 8) (lt (wr sg_16 8 (Int32.toNatClampNeg a4_4) ((rd sg_16 8 (Int32.toNatClampNeg a4_4)) ||| (((1 : Int32) <<< (a3_2 &&& 31)) ||| ((1 : Int32) <<< ((rd sg_16 5 (Int32.toNatClampNeg ((((8 : Int32) * a1) + a2) + (1 : Int32)))) &&& 31))))) fun sg_21 => fX8_layTwo_J126 sg_21)))))))))))))))
def fX8_layWays_L2 (a1 : Int32) (sg : Sg) : Option ((Int32 × Sg) ⊕ (Int32 × Sg)) := (if (8 : Int32) ≤ a1 then some (.inl (a1, sg)) else gd (inb a1 8) (lt (wr sg 7 (Int32.toNatClampNeg a1) (0 : Int32)) fun sg_2 => gd (inb a1 8) (lt (wr sg_2 8 (Int32.toNatClampNeg a1) (0 : Int32)) fun sg_4 => some (.inr ((a1 + 1), sg_4)))))
def fX8_layWays_L52_J124 (a1 : Int32) (a2 : Int32) (sg : Sg) : Option ((Int32 × Sg) ⊕ (Int32 × Sg)) := some (.inr ((a2 + 1), sg))
def fX8_layWays_L52 (a1 : Int32) (a2 : Int32) (sg : Sg) : Option ((Int32 × Sg) ⊕ (Int32 × Sg)) := gd (inb a1 12) ((if (rd sg 3 (Int32.toNatClampNeg a1)) ≤ a2 then some (.inl (a2, sg)) else gd (inb (((8 : Int32) * a1) + a2) 96) (lt ((rd sg 2 (Int32.toNatClampNeg (((8 : Int32) * a1) + a2)))) fun a3_13 => (fX8_has (rd sg 0 5) a3_13).bind fun r_15 => (if r_15 = 0 then gd (inb a1 12) (gd (inb (((8 : Int32) * a1) + (rd sg 6 (Int32.toNatClampNeg a1))) 96) (lt (wr sg 5 (Int32.toNatClampNeg (((8 : Int32) * a1) + (rd sg 6 (Int32.toNatClampNeg a1)))) a3_13) fun sg_18 => gd (inb a1 12) (gd (inb a1 12) (lt (wr sg_18 6 (Int32.toNatClampNeg a1) ((rd sg_18 6 (Int32.toNatClampNeg a1)) + (1 : Int32))) fun sg_21 => lt (wr sg_21 0 13 ((rd sg_21 0 13) ||| ((1 : Int32) <<< (a3_13 &&& 31)))) fun sg_22 => fX8_layWays_L52_J124 a1 a2 sg_22)))) else fX8_layWays_L52_J124 a1 a2 sg))))
def fX8_layWays_L35_E130 (a1 : Int32) (a2 : Int32) (sg : Sg) : Option ((Int32 × Sg) ⊕ (Int32 × Sg)) := some (.inr ((a1 + 1), sg))
def fX8_layWays_L35 (a1 : Int32) (sg : Sg) : Option ((Int32 × Sg) ⊕ (Int32 × Sg)) := (if (rd sg 0 2) ≤ a1 then some (.inl (a1, sg)) else gd (inb a1 12) (lt (wr sg 6 (Int32.toNatClampNeg a1) (0 : Int32)) fun sg_10 => ((lpS (fun t => fX8_layWays_L52 a1 t.1 t.2) 300 ((0 : Int32), sg_10)).bind fun t => fX8_layWays_L35_E130 a1 t.1 t.2)))
def fX8_layWays_L138 (a1 : Int32) (sg : Sg) : Option ((Int32 × Sg) ⊕ (Int32 × Sg)) := (if (64 : Int32) ≤ a1 then some (.inl (a1, sg)) else gd (inb a1 64) (lt (wr sg 11 (Int32.toNatClampNeg a1) (0 : Int32)) fun sg_31 => gd (inb a1 64) (lt (wr sg_31 12 (Int32.toNatClampNeg a1) (0 : Int32)) fun sg_33 => some (.inr ((a1 + 1), sg_33)))))
def fX8_layWays_L176 (a1 : Int32) (a2 : Int32) (sg : Sg) : Option ((Int32 × Sg) ⊕ (Int32 × Sg)) := gd (inb a1 12) ((if (rd sg 6 (Int32.toNatClampNeg a1)) ≤ a2 then some (.inl (a2, sg)) else (fX8_layTwo a1 a2 sg).bind fun sg_39 => some (.inr ((a2 + 1), sg_39))))
def fX8_layWays_L166_E198 (a1 : Int32) (a2 : Int32) (sg : Sg) : Option ((Int32 × Sg) ⊕ (Int32 × Sg)) := some (.inr ((a1 + 1), sg))
def fX8_layWays_L166 (a1 : Int32) (sg : Sg) : Option ((Int32 × Sg) ⊕ (Int32 × Sg)) := (if (rd sg 0 2) ≤ a1 then some (.inl (a1, sg)) else ((lpS (fun t => fX8_layWays_L176 a1 t.1 t.2) 300 ((1 : Int32), sg)).bind fun t => fX8_layWays_L166_E198 a1 t.1 t.2))
def fX8_layWays_E204 (a1 : Int32) (sg : Sg) : Option (Sg) := some sg
def fX8_layWays_E164 (a1 : Int32) (sg : Sg) : Option (Sg) := ((lpS (fun t => fX8_layWays_L166 t.1 t.2) 300 ((0 : Int32), sg)).bind fun t => fX8_layWays_E204 t.1 t.2)
def fX8_layWays_E136 (a1 : Int32) (sg : Sg) : Option (Sg) := ((lpS (fun t => fX8_layWays_L138 t.1 t.2) 300 ((0 : Int32), sg)).bind fun t => fX8_layWays_E164 t.1 t.2)
def fX8_layWays_E28 (a1 : Int32) (sg : Sg) : Option (Sg) := lt (wr sg 0 13 (0 : Int32)) fun sg_8 => ((lpS (fun t => fX8_layWays_L35 t.1 t.2) 300 ((0 : Int32), sg_8)).bind fun t => fX8_layWays_E136 t.1 t.2)
def fX8_layWays  (sg : Sg) : Option (Sg) := ((lpS (fun t => fX8_layWays_L2 t.1 t.2) 300 ((0 : Int32), sg)).bind fun t => fX8_layWays_E28 t.1 t.2)
def fX8_ones_L4 (a0 : Int32) (a1 : Int32) (a2 : Int32) : Option ((Int32 × Int32) ⊕ (Int32 × Int32)) := (if (8 : Int32) ≤ a2 then some (.inl (a1, a2)) else lt ((a1 + ((a0 >>> (a2 &&& 31)) &&& (1 : Int32)))) fun a1_1 => some (.inr (a1_1, (a2 + 1))))
def fX8_ones_E24 (a0 : Int32) (a1 : Int32) (a2 : Int32) : Option (Int32) := some a1
def fX8_ones (a0 : Int32) : Option (Int32) := ((lpS (fun t => fX8_ones_L4 a0 t.1 t.2) 300 ((0 : Int32), (0 : Int32))).bind fun t => fX8_ones_E24 a0 t.1 t.2)
def fX8_weightOf (a1 : Int32) (sg : Sg) : Option (Int32) := gd (inb a1 8) ((fX8_ones (rd sg 8 (Int32.toNatClampNeg a1))).bind fun r_3 => gd (inb a1 8) ((fX8_ones (rd sg 7 (Int32.toNatClampNeg a1))).bind fun r_6 => some ((((((1000 : Int32) * r_3) + ((10 : Int32) * r_6)) + (8 : Int32)) - (1 : Int32)) - a1)))
def fX8_layRanks_L13_J99 (a1 : Int32) (sg : Sg) : Option ((Int32 × Sg) ⊕ (Int32 × Sg)) := some (.inr ((a1 + 1), sg))
def fX8_layRanks_L30_J66 (a1 : Int32) (a3 : Int32) (s0 : Int32) (s1 : Int32) (sg : Sg) : Option ((Int32 × Int32) ⊕ (Int32 × Int32)) := some (.inr ((s1 + s0), (a3 + 1)))
def fX8_layRanks_L30_J65 (a1 : Int32) (a3 : Int32) (s0 : Int32) (sg : Sg) : Option ((Int32 × Int32) ⊕ (Int32 × Int32)) := fX8_layRanks_L30_J66 a1 a3 (0 : Int32) s0 sg
def fX8_layRanks_L30 (a1 : Int32) (sg : Sg) (a2 : Int32) (a3 : Int32) : Option ((Int32 × Int32) ⊕ (Int32 × Int32)) := (if (8 : Int32) ≤ a3 then some (.inl (a2, a3)) else (fX8_has (rd sg 0 13) a3).bind fun r_7 => (if r_7 = 0 then fX8_layRanks_L30_J65 a1 a3 a2 sg else (fX8_weightOf a3 sg).bind fun r_9 => (fX8_weightOf a1 sg).bind fun r_11 => (if r_9 ≤ r_11 then fX8_layRanks_L30_J65 a1 a3 a2 sg else fX8_layRanks_L30_J66 a1 a3 (1 : Int32) a2 sg)))
def fX8_layRanks_L13_E74 (a1 : Int32) (a2 : Int32) (a3 : Int32) (sg : Sg) : Option ((Int32 × Sg) ⊕ (Int32 × Sg)) := (fX8_has (rd sg 0 13) a1).bind fun r_18 => (if r_18 = 0 then fX8_layRanks_L13_J99 a1 sg else gd (inb a1 8) (lt (wr sg 10 (Int32.toNatClampNeg a1) a2) fun sg_20 => gd (inb a2 8) (lt (wr sg_20 9 (Int32.toNatClampNeg a2) a1) fun sg_22 => fX8_layRanks_L13_J99 a1 sg_22)))
def fX8_layRanks_L13 (a1 : Int32) (sg : Sg) : Option ((Int32 × Sg) ⊕ (Int32 × Sg)) := (if (8 : Int32) ≤ a1 then some (.inl (a1, sg)) else gd (inb a1 8) (lt (wr sg 10 (Int32.toNatClampNeg a1) (-1 : Int32)) fun sg_5 => ((lpS (fun t => fX8_layRanks_L30 a1 sg_5 t.1 t.2) 300 ((0 : Int32), (0 : Int32))).bind fun t => fX8_layRanks_L13_E74 a1 t.1 t.2 sg_5)))
def fX8_layRanks_E105 (a1 : Int32) (sg : Sg) : Option (Sg) := some sg
def fX8_layRanks  (sg : Sg) : Option (Sg) := (fX8_ones (rd sg 0 13)).bind fun r_2 => lt (wr sg 0 15 r_2) fun sg_3 => ((lpS (fun t => fX8_layRanks_L13 t.1 t.2) 300 ((0 : Int32), sg_3)).bind fun t => fX8_layRanks_E105 t.1 t.2)
def fX8_areAllLinked_L4_J43 (a1 : Int32) (a3 : Int32) (s0 : Int32) (sg : Sg) : Option ((Int32 × Int32) ⊕ (Int32 × Int32)) := some (.inr (s0, (a3 + 1)))
def fX8_areAllLinked_L4_J42 (a1 : Int32) (a3 : Int32) (sg : Sg) : Option ((Int32 × Int32) ⊕ (Int32 × Int32)) := fX8_areAllLinked_L4_J43 a1 a3 (0 : Int32) sg
def fX8_areAllLinked_L4_J38 (a1 : Int32) (a3 : Int32) (sg : Sg) : Option ((Int32 × Int32) ⊕ (Int32 × Int32)) := fX8_areAllLinked_L4_J43 a1 a3 (1 : Int32) sg
def fX8_areAllLinked_L4 (a1 : Int32) (sg : Sg) (a2 : Int32) (a3 : Int32) : Option ((Int32 × Int32) ⊕ (Int32 × Int32)) := (if (8 : Int32) ≤ a3 then some (.inl (a2, a3)) else (if a2 = 0 then fX8_areAllLinked_L4_J42 a1 a3 sg else (fX8_has a1 a3).bind fun r_2 => (if r_2 = 0 then fX8_areAllLinked_L4_J38 a1 a3 sg else gd (inb a3 8) ((if (a1 &&& ((rd sg 7 (Int32.toNatClampNeg a3)) ^^^ (-1 : Int32))) = ((1 : Int32) <<< (a3 &&& 31)) then fX8_areAllLinked_L4_J38 a1 a3 sg else fX8_areAllLinked_L4_J42 a1 a3 sg)))))
def fX8_areAllLinked_E50 (a1 : Int32) (a2 : Int32) (a3 : Int32) (sg : Sg) : Option (Int32) := gd (zb a2) (some a2)
def fX8_areAllLinked (a1 : Int32) (sg : Sg) : Option (Int32) := ((lpS (fun t => fX8_areAllLinked_L4 a1 sg t.1 t.2) 300 ((1 : Int32), (0 : Int32))).bind fun t => fX8_areAllLinked_E50 a1 t.1 t.2 sg)
def fX8_degrees_L4_J32 (a1 : Int32) (a3 : Int32) (s0 : Int32) (s1 : Int32) (sg : Sg) : Option ((Int32 × Int32) ⊕ (Int32 × Int32)) := some (.inr ((s1 + s0), (a3 + 1)))
def fX8_degrees_L4 (a1 : Int32) (sg : Sg) (a2 : Int32) (a3 : Int32) : Option ((Int32 × Int32) ⊕ (Int32 × Int32)) := (if (8 : Int32) ≤ a3 then some (.inl (a2, a3)) else (fX8_has a1 a3).bind fun r_2 => (if r_2 = 0 then fX8_degrees_L4_J32 a1 a3 (0 : Int32) a2 sg else gd (inb a3 8) ((fX8_ones (rd sg 7 (Int32.toNatClampNeg a3))).bind fun r_5 => fX8_degrees_L4_J32 a1 a3 r_5 a2 sg)))
def fX8_degrees_E40 (a1 : Int32) (a2 : Int32) (a3 : Int32) (sg : Sg) : Option (Int32) := some a2
def fX8_degrees (a1 : Int32) (sg : Sg) : Option (Int32) := ((lpS (fun t => fX8_degrees_L4 a1 sg t.1 t.2) 300 ((0 : Int32), (0 : Int32))).bind fun t => fX8_degrees_E40 a1 t.1 t.2 sg)
def fX8_layTop_L9_J114 (a2 : Int32) (s0 : Int32) (sg : Sg) : Option ((Int32 × Int32 × Sg) ⊕ (Int32 × Int32 × Sg)) := some (.inr (s0, (a2 + 1), sg))
def fX8_layTop_L9_J99 (a1 : Int32) (a2 : Int32) (a4 : Int32) (s0 : Int32) (sg : Sg) : Option ((Int32 × Int32 × Sg) ⊕ (Int32 × Int32 × Sg)) := lt (wr sg 0 17 s0) fun sg_18 => (if a4 ≤ a1 then fX8_layTop_L9_J114 a2 a1 sg_18 else fX8_layTop_L9_J114 a2 a4 sg_18)
def fX8_layTop_L9_J82 (a1 : Int32) (a2 : Int32) (s0 : Int32) (sg : Sg) : Option ((Int32 × Int32 × Sg) ⊕ (Int32 × Int32 × Sg)) := (if s0 ≤ a1 then fX8_layTop_L9_J99 a1 a2 s0 (rd sg 0 17) sg else fX8_layTop_L9_J99 a1 a2 s0 a2 sg)
def fX8_layTop_L9_J60 (a1 : Int32) (a2 : Int32) (s0 : Int32) (sg : Sg) : Option ((Int32 × Int32 × Sg) ⊕ (Int32 × Int32 × Sg)) := (if s0 = 0 then fX8_layTop_L9_J82 a1 a2 (0 : Int32) sg else (fX8_ones a2).bind fun r_13 => (fX8_degrees a2 sg).bind fun r_15 => fX8_layTop_L9_J82 a1 a2 (((100 : Int32) * r_13) + r_15) sg)
def fX8_layTop_L9_J59 (a1 : Int32) (a2 : Int32) (sg : Sg) : Option ((Int32 × Int32 × Sg) ⊕ (Int32 × Int32 × Sg)) := fX8_layTop_L9_J60 a1 a2 (0 : Int32) sg
def fX8_layTop_L9 (a1 : Int32) (a2 : Int32) (sg : Sg) : Option ((Int32 × Int32 × Sg) ⊕ (Int32 × Int32 × Sg)) := (if (256 : Int32) ≤ a2 then some (.inl (a1, a2, sg)) else (if (rd sg 0 15) ≤ 0 then some (.inl (a1, a2, sg)) else gd (inb (0 : Int32) 8) ((fX8_has a2 (rd sg 9 (Int32.toNatClampNeg (0 : Int32)))).bind fun r_4 => (if r_4 = 0 then fX8_layTop_L9_J59 a1 a2 sg else (if (a2 &&& ((rd sg 0 13) ^^^ (-1 : Int32))) = 0 then (fX8_areAllLinked a2 sg).bind fun r_6 => (if r_6 = 0 then fX8_layTop_L9_J59 a1 a2 sg else fX8_layTop_L9_J60 a1 a2 (1 : Int32) sg) else fX8_layTop_L9_J59 a1 a2 sg)))))
def fX8_layTop_E121 (a1 : Int32) (a2 : Int32) (sg : Sg) : Option (Sg) := some sg
def fX8_layTop  (sg : Sg) : Option (Sg) := lt (wr sg 0 17 (0 : Int32)) fun sg_1 => ((lpS (fun t => fX8_layTop_L9 t.1 t.2.1 t.2.2) 300 ((0 : Int32), (1 : Int32), sg_1)).bind fun t => fX8_layTop_E121 t.1 t.2.1 t.2.2)
def fX8_hillOf_L4_J63 (a1 : Int32) (a3 : Int32) (s0 : Int32) (sg : Sg) : Option ((Int32 × Int32) ⊕ (Int32 × Int32)) := some (.inr (s0, (a3 + 1)))
def fX8_hillOf_L4_J58 (a1 : Int32) (a3 : Int32) (sg : Sg) : Option ((Int32 × Int32) ⊕ (Int32 × Int32)) := fX8_hillOf_L4_J63 a1 a3 a3 sg
def fX8_hillOf_L4 (a1 : Int32) (sg : Sg) (a2 : Int32) (a3 : Int32) : Option ((Int32 × Int32) ⊕ (Int32 × Int32)) := gd (inb a1 12) ((if (rd sg 6 (Int32.toNatClampNeg a1)) ≤ a3 then some (.inl (a2, a3)) else gd (inb (((8 : Int32) * a1) + a3) 96) (lt ((rd sg 5 (Int32.toNatClampNeg (((8 : Int32) * a1) + a3)))) fun a4_3 => (if a2 = (-1 : Int32) then fX8_hillOf_L4_J58 a1 a3 sg else gd (inb a4_3 8) (gd (inb (((8 : Int32) * a1) + a2) 96) (gd (inb (rd sg 5 (Int32.toNatClampNeg (((8 : Int32) * a1) + a2))) 8) ((if (rd sg 10 (Int32.toNatClampNeg (rd sg 5 (Int32.toNatClampNeg (((8 : Int32) * a1) + a2))))) ≤ (rd sg 10 (Int32.toNatClampNeg a4_3)) then fX8_hillOf_L4_J63 a1 a3 a2 sg else fX8_hillOf_L4_J58 a1 a3 sg))))))))
def fX8_hillOf_E70 (a1 : Int32) (a2 : Int32) (a3 : Int32) (sg : Sg) : Option (Int32) := some a2
def fX8_hillOf (a1 : Int32) (sg : Sg) : Option (Int32) := ((lpS (fun t => fX8_hillOf_L4 a1 sg t.1 t.2) 300 ((-1 : Int32), (0 : Int32))).bind fun t => fX8_hillOf_E70 a1 t.1 t.2 sg)
def fX8_areTops_J27 (s0 : Int32) (sg : Sg) : Option (Int32) := gd (zb s0) (some s0)
def fX8_areTops_J26 (sg : Sg) : Option (Int32) := fX8_areTops_J27 (0 : Int32) sg
def fX8_areTops (a1 : Int32) (a2 : Int32) (sg : Sg) : Option (Int32) := (fX8_has (rd sg 0 17) a1).bind fun r_2 => (if r_2 = 0 then fX8_areTops_J26 sg else (fX8_has (rd sg 0 17) a2).bind fun r_4 => (if r_4 = 0 then fX8_areTops_J26 sg else fX8_areTops_J27 (1 : Int32) sg))
def fX8_layVotes_L18_J114 (a1 : Int32) (a2 : Int32) (a3 : Int32) (s0 : Int32) (s1 : Int32) (s2 : Int32) (sg : Sg) : Option ((Int32 × Sg) ⊕ (Int32 × Sg)) := gd (inb s2 64) (lt (wr sg 11 (Int32.toNatClampNeg s2) (s1 + s0)) fun sg_16 => some (.inr ((a3 + 1), sg_16)))
def fX8_layVotes_L18_J82 (a1 : Int32) (a2 : Int32) (a3 : Int32) (a4 : Int32) (a5 : Int32) (a6 : Int32) (s0 : Int32) (sg : Sg) : Option ((Int32 × Sg) ⊕ (Int32 × Sg)) := gd (inb (((8 : Int32) * a6) + s0) 64) ((fX8_areTops a4 a5 sg).bind fun r_13 => (if r_13 = 0 then fX8_layVotes_L18_J114 a1 a2 a3 (1 : Int32) (rd sg 11 (Int32.toNatClampNeg (((8 : Int32) * a6) + s0))) (((8 : Int32) * a6) + s0) sg else fX8_layVotes_L18_J114 a1 a2 a3 (0 : Int32) (rd sg 11 (Int32.toNatClampNeg (((8 : Int32) * a6) + s0))) (((8 : Int32) * a6) + s0) sg))
def fX8_layVotes_L18_J68 (a1 : Int32) (a2 : Int32) (a3 : Int32) (a4 : Int32) (a5 : Int32) (s0 : Int32) (sg : Sg) : Option ((Int32 × Sg) ⊕ (Int32 × Sg)) := (if a2 < a3 then fX8_layVotes_L18_J82 a1 a2 a3 a4 a5 s0 a4 sg else fX8_layVotes_L18_J82 a1 a2 a3 a4 a5 s0 a5 sg)
def fX8_layVotes_L18 (a1 : Int32) (a2 : Int32) (a3 : Int32) (sg : Sg) : Option ((Int32 × Sg) ⊕ (Int32 × Sg)) := gd (inb a1 12) ((if (rd sg 6 (Int32.toNatClampNeg a1)) ≤ a3 then some (.inl (a3, sg)) else gd (inb ((((8 : Int32) * a1) + a3) - (1 : Int32)) 96) (lt ((rd sg 5 (Int32.toNatClampNeg ((((8 : Int32) * a1) + a3) - (1 : Int32))))) fun a4_5 => gd (inb (((8 : Int32) * a1) + a3) 96) (lt ((rd sg 5 (Int32.toNatClampNeg (((8 : Int32) * a1) + a3)))) fun a5_7 => (if a2 < a3 then fX8_layVotes_L18_J68 a1 a2 a3 a4_5 a5_7 a5_7 sg else fX8_layVotes_L18_J68 a1 a2 a3 a4_5 a5_7 a4_5 sg)))))
def fX8_layVotes_L2_E122 (a1 : Int32) (a2 : Int32) (a3 : Int32) (sg : Sg) : Option ((Int32 × Sg) ⊕ (Int32 × Sg)) := some (.inr ((a1 + 1), sg))
def fX8_layVotes_L2 (a1 : Int32) (sg : Sg) : Option ((Int32 × Sg) ⊕ (Int32 × Sg)) := (if (rd sg 0 2) ≤ a1 then some (.inl (a1, sg)) else (fX8_hillOf a1 sg).bind fun r_2 => ((lpS (fun t => fX8_layVotes_L18 a1 r_2 t.1 t.2) 300 ((1 : Int32), sg)).bind fun t => fX8_layVotes_L2_E122 a1 r_2 t.1 t.2))
def fX8_layVotes_E128 (a1 : Int32) (sg : Sg) : Option (Sg) := some sg
def fX8_layVotes  (sg : Sg) : Option (Sg) := ((lpS (fun t => fX8_layVotes_L2 t.1 t.2) 300 ((0 : Int32), sg)).bind fun t => fX8_layVotes_E128 t.1 t.2)
def fX8_nameBy_J74 (s0 : Int32) (sg : Sg) : Option (Int32) := some s0
def fX8_nameBy (a1 : Int32) (a2 : Int32) (sg : Sg) : Option (Int32) := gd (inb a1 8) ((fX8_has (rd sg 7 (Int32.toNatClampNeg a1)) a2).bind fun r_3 => (if r_3 = 0 then some (0 : Int32) else gd (inb (((8 : Int32) * a1) + a2) 64) (lt ((rd sg 11 (Int32.toNatClampNeg (((8 : Int32) * a1) + a2)))) fun a3_5 => gd (inb (((8 : Int32) * a2) + a1) 64) (lt ((rd sg 11 (Int32.toNatClampNeg (((8 : Int32) * a2) + a1)))) fun a4_7 => (fX8_areTops a1 a2 sg).bind fun r_9 => (if r_9 = 0 then (if a3_5 ≤ a4_7 then (if a4_7 ≤ a3_5 then fX8_nameBy_J74 (4 : Int32) sg else fX8_nameBy_J74 (2 : Int32) sg) else fX8_nameBy_J74 (1 : Int32) sg) else fX8_nameBy_J74 (3 : Int32) sg)))))
def fX8_lay_L31 (a1 : Int32) (sg : Sg) : Option ((Int32 × Sg) ⊕ (Int32 × Sg)) := (if (64 : Int32) ≤ a1 then some (.inl (a1, sg)) else (fX8_nameBy (a1 / (8 : Int32)) (a1 - a1 / (8 : Int32) * (8 : Int32)) sg).bind fun r_11 => gd (inb a1 64) (lt (wr sg 13 (Int32.toNatClampNeg a1) r_11) fun sg_13 => some (.inr ((a1 + 1), sg_13))))
def fX8_lay_E61 (a1 : Int32) (sg : Sg) : Option (Sg) := some sg
def fX8_lay  (sg : Sg) : Option (Sg) := (if (rd sg 0 8) = 0 then lt (wr sg 0 8 (1 : Int32)) fun sg_1 => (fX8_layWays sg_1).bind fun sg_3 => (fX8_layRanks sg_3).bind fun sg_5 => (fX8_layTop sg_5).bind fun sg_7 => (fX8_layVotes sg_7).bind fun sg_9 => ((lpS (fun t => fX8_lay_L31 t.1 t.2) 300 ((0 : Int32), sg_9)).bind fun t => fX8_lay_E61 t.1 t.2) else some sg)
def fX8_valleyOf_L4_J77 (a2 : Int32) (s0 : Int32) (sg : Sg) : Option ((Int32 × Int32) ⊕ ((Int32) ⊕ (Int32 × Int32))) := some (.inr (.inr (s0, (a2 + 1))))
def fX8_valleyOf_L4_J72 (a2 : Int32) (sg : Sg) : Option ((Int32 × Int32) ⊕ ((Int32) ⊕ (Int32 × Int32))) := fX8_valleyOf_L4_J77 a2 (1 : Int32) sg
def fX8_valleyOf_L4_J58 (a1 : Int32) (a2 : Int32) (a3 : Int32) (sg : Sg) : Option ((Int32 × Int32) ⊕ ((Int32) ⊕ (Int32 × Int32))) := (if a1 = 0 then (if a3 = (2 : Int32) then fX8_valleyOf_L4_J72 a2 sg else (if a3 = (3 : Int32) then fX8_valleyOf_L4_J72 a2 sg else fX8_valleyOf_L4_J77 a2 (0 : Int32) sg)) else fX8_valleyOf_L4_J72 a2 sg)
def fX8_valleyOf_L4_J54 (a2 : Int32) (sg : Sg) : Option ((Int32 × Int32) ⊕ ((Int32) ⊕ (Int32 × Int32))) := some (.inr (.inl (a2 - (1 : Int32))))
def fX8_valleyOf_L4 (sg : Sg) (a1 : Int32) (a2 : Int32) : Option ((Int32 × Int32) ⊕ ((Int32) ⊕ (Int32 × Int32))) := (if (rd sg 0 22) ≤ a2 then some (.inl (a1, a2)) else gd (inb (a2 - (1 : Int32)) 8) (gd (inb a2 8) (gd (inb (((8 : Int32) * (rd sg 14 (Int32.toNatClampNeg (a2 - (1 : Int32))))) + (rd sg 14 (Int32.toNatClampNeg a2))) 64) (lt ((rd sg 13 (Int32.toNatClampNeg (((8 : Int32) * (rd sg 14 (Int32.toNatClampNeg (a2 - (1 : Int32))))) + (rd sg 14 (Int32.toNatClampNeg a2)))))) fun a3_4 => (if a3_4 = 0 then fX8_valleyOf_L4_J54 a2 sg else (if a1 = 0 then fX8_valleyOf_L4_J58 a1 a2 a3_4 sg else (if a3_4 = (1 : Int32) then fX8_valleyOf_L4_J54 a2 sg else (if a3_4 = (3 : Int32) then fX8_valleyOf_L4_J54 a2 sg else fX8_valleyOf_L4_J58 a1 a2 a3_4 sg))))))))
def fX8_valleyOf_E84 (a1 : Int32) (a2 : Int32) (sg : Sg) : Option (Int32) := some (-1 : Int32)
def fX8_valleyOf  (sg : Sg) : Option (Int32) := ((lpO (fun t => fX8_valleyOf_L4 sg t.1 t.2) 300 ((0 : Int32), (1 : Int32))).bind fun u => onE u (fun t => fX8_valleyOf_E84 t.1 t.2 sg) (fun r => some r))
def fX8_valley_L25 (a1 : Int32) (sg : Sg) : Option ((Int32 × Sg) ⊕ (Int32 × Sg)) := (if (rd sg 0 22) ≤ a1 then some (.inl (a1, sg)) else gd (inb a1 6) (gd (inb a1 8) (lt (wr sg 14 (Int32.toNatClampNeg a1) ((rd sg 1 (Int32.toNatClampNeg a1)) - (48 : Int32))) fun sg_8 => some (.inr ((a1 + 1), sg_8)))))
def fX8_valley_E54 (a1 : Int32) (sg : Sg) : Option (Int32 × Sg) := (fX8_valleyOf sg).bind fun r_13 => some (r_13, sg)
def fX8_valley  (sg : Sg) : Option (Int32 × Sg) := (fX8_isWayThere sg).bind fun r_2 => (if r_2 = 0 then some ((-1003 : Int32), sg) else (fX8_lay sg).bind fun sg_4 => lt (wr sg_4 0 22 (rd sg_4 0 0)) fun sg_5 => ((lpS (fun t => fX8_valley_L25 t.1 t.2) 300 ((0 : Int32), sg_5)).bind fun t => fX8_valley_E54 t.1 t.2))
def fX8_drop_L54 (a2 : Int32) (a3 : Int32) (sg : Sg) : Option ((Int32 × Sg) ⊕ (Int32 × Sg)) := (if (8 : Int32) ≤ a3 then some (.inl (a3, sg)) else gd (inb ((((8 : Int32) * a2) + (8 : Int32)) + a3) 96) (gd (inb (((8 : Int32) * a2) + a3) 96) (lt (wr sg 2 (Int32.toNatClampNeg (((8 : Int32) * a2) + a3)) (rd sg 2 (Int32.toNatClampNeg ((((8 : Int32) * a2) + (8 : Int32)) + a3)))) fun sg_9 => some (.inr ((a3 + 1), sg_9)))))
def fX8_drop_L30_E91 (a2 : Int32) (a3 : Int32) (sg : Sg) : Option ((Int32 × Sg) ⊕ (Int32 × Sg)) := some (.inr ((a2 + 1), sg))
def fX8_drop_L30 (a2 : Int32) (sg : Sg) : Option ((Int32 × Sg) ⊕ (Int32 × Sg)) := (if (rd sg 0 2) ≤ a2 then some (.inl (a2, sg)) else gd (inb (a2 + (1 : Int32)) 12) (gd (inb a2 12) (lt (wr sg 3 (Int32.toNatClampNeg a2) (rd sg 3 (Int32.toNatClampNeg (a2 + (1 : Int32))))) fun sg_6 => ((lpS (fun t => fX8_drop_L54 a2 t.1 t.2) 300 ((0 : Int32), sg_6)).bind fun t => fX8_drop_L30_E91 a2 t.1 t.2))))
def fX8_drop_E97 (a2 : Int32) (sg : Sg) : Option (Int32 × Sg) := lt (wr sg 0 8 (0 : Int32)) fun sg_16 => some ((rd sg_16 0 2), sg_16)
def fX8_drop (a1 : Int32) (sg : Sg) : Option (Int32 × Sg) := (fX8_within a1 (0 : Int32) ((rd sg 0 2) - (1 : Int32))).bind fun r_2 => (if r_2 = 0 then some ((-1001 : Int32), sg) else lt (wr sg 0 2 ((rd sg 0 2) - (1 : Int32))) fun sg_3 => ((lpS (fun t => fX8_drop_L30 t.1 t.2) 300 (a1, sg_3)).bind fun t => fX8_drop_E97 t.1 t.2))
def fX8_isNet (a0 : Int32) : Option (Int32) := (fX8_within a0 (0 : Int32) (7 : Int32)).bind fun r_2 => gd (zb r_2) (some r_2)
def fX8_exchange_J46 (a3 : Int32) (s0 : Int32) (sg : Sg) : Option (Int32 × Sg) := lt (wr sg 0 5 s0) fun sg_6 => lt (wr sg_6 0 8 (0 : Int32)) fun sg_7 => some (a3, sg_7)
def fX8_exchange (a1 : Int32) (a2 : Int32) (sg : Sg) : Option (Int32 × Sg) := (fX8_isNet a1).bind fun r_2 => (if r_2 = 0 then some ((-1001 : Int32), sg) else lt ((((rd sg 0 5) >>> (a1 &&& 31)) &&& (1 : Int32))) fun a3_3 => (if a2 = 0 then fX8_exchange_J46 a3_3 ((rd sg 0 5) &&& (((1 : Int32) <<< (a1 &&& 31)) ^^^ (-1 : Int32))) sg else fX8_exchange_J46 a3_3 ((rd sg 0 5) ||| ((1 : Int32) <<< (a1 &&& 31))) sg))
def fX8_areTwo_J24 (s0 : Int32) : Option (Int32) := gd (zb s0) (some s0)
def fX8_areTwo_J23  : Option (Int32) := fX8_areTwo_J24 (0 : Int32)
def fX8_areTwo (a0 : Int32) (a1 : Int32) : Option (Int32) := (fX8_isNet a0).bind fun r_2 => (if r_2 = 0 then fX8_areTwo_J23  else (fX8_isNet a1).bind fun r_4 => (if r_4 = 0 then fX8_areTwo_J23  else (if a0 = a1 then fX8_areTwo_J23  else fX8_areTwo_J24 (1 : Int32))))
def fX8_turned_J19 (s0 : Int32) : Option (Int32) := some s0
def fX8_turned (a0 : Int32) : Option (Int32) := (if a0 = (1 : Int32) then fX8_turned_J19 (2 : Int32) else (if a0 = (2 : Int32) then fX8_turned_J19 (1 : Int32) else fX8_turned_J19 a0))
def fX8_tell (a1 : Int32) (a2 : Int32) (a3 : Int32) (sg : Sg) : Option (Int32 × Sg) := (fX8_areTwo a1 a2).bind fun r_2 => (if r_2 = 0 then some ((-1001 : Int32), sg) else (fX8_within a3 (0 : Int32) (4 : Int32)).bind fun r_4 => (if r_4 = 0 then some ((-1002 : Int32), sg) else gd (inb (((8 : Int32) * a1) + a2) 64) (lt ((rd sg 4 (Int32.toNatClampNeg (((8 : Int32) * a1) + a2)))) fun a4_6 => gd (inb (((8 : Int32) * a1) + a2) 64) (lt (wr sg 4 (Int32.toNatClampNeg (((8 : Int32) * a1) + a2)) a3) fun sg_8 => (fX8_turned a3).bind fun r_10 => gd (inb (((8 : Int32) * a2) + a1) 64) (lt (wr sg_8 4 (Int32.toNatClampNeg (((8 : Int32) * a2) + a1)) r_10) fun sg_12 => some (a4_6, sg_12))))))
def fX8_coneOf_L15_J57 (a3 : Int32) (a4 : Int32) (s0 : Int32) (s1 : Int32) (sg : Sg) : Option ((Int32 × Int32) ⊕ (Int32 × Int32)) := some (.inr ((s1 ||| s0), (a4 + 1)))
def fX8_coneOf_L15_J56 (a3 : Int32) (a4 : Int32) (s0 : Int32) (sg : Sg) : Option ((Int32 × Int32) ⊕ (Int32 × Int32)) := fX8_coneOf_L15_J57 a3 a4 (0 : Int32) s0 sg
def fX8_coneOf_L15 (a3 : Int32) (sg : Sg) (a2 : Int32) (a4 : Int32) : Option ((Int32 × Int32) ⊕ (Int32 × Int32)) := (if (64 : Int32) ≤ a4 then some (.inl (a2, a4)) else gd (inb a4 64) ((if (rd sg 13 (Int32.toNatClampNeg a4)) = (1 : Int32) then (fX8_has a2 (a4 - a4 / (8 : Int32) * (8 : Int32))).bind fun r_4 => (if r_4 = 0 then fX8_coneOf_L15_J56 a3 a4 a2 sg else fX8_coneOf_L15_J57 a3 a4 ((1 : Int32) <<< ((a4 / (8 : Int32)) &&& 31)) a2 sg) else fX8_coneOf_L15_J56 a3 a4 a2 sg)))
def fX8_coneOf_L6_E65 (a3 : Int32) (a2 : Int32) (a4 : Int32) (sg : Sg) : Option ((Int32 × Int32) ⊕ (Int32 × Int32)) := some (.inr (a2, (a3 + 1)))
def fX8_coneOf_L6 (sg : Sg) (a2 : Int32) (a3 : Int32) : Option ((Int32 × Int32) ⊕ (Int32 × Int32)) := (if (8 : Int32) ≤ a3 then some (.inl (a2, a3)) else ((lpS (fun t => fX8_coneOf_L15 a3 sg t.1 t.2) 300 (a2, (0 : Int32))).bind fun t => fX8_coneOf_L6_E65 a3 t.1 t.2 sg))
def fX8_coneOf_E71 (a2 : Int32) (a3 : Int32) (sg : Sg) : Option (Int32) := some a2
def fX8_coneOf (a1 : Int32) (sg : Sg) : Option (Int32) := lt (((1 : Int32) <<< (a1 &&& 31))) fun a2_1 => ((lpS (fun t => fX8_coneOf_L6 sg t.1 t.2) 300 (a2_1, (0 : Int32))).bind fun t => fX8_coneOf_E71 t.1 t.2 sg)
def fX8_netNow (a1 : Int32) (a2 : Int32) (sg : Sg) : Option (Int32 × Sg) := (fX8_lay sg).bind fun sg_2 => (if a2 = (0 : Int32) then gd (inb a1 8) ((fX8_ones (rd sg_2 7 (Int32.toNatClampNeg a1))).bind fun r_5 => some (r_5, sg_2)) else if a2 = (1 : Int32) then gd (inb a1 8) ((fX8_ones (rd sg_2 8 (Int32.toNatClampNeg a1))).bind fun r_9 => some (r_9, sg_2)) else if a2 = (2 : Int32) then gd (inb a1 8) (some ((rd sg_2 10 (Int32.toNatClampNeg a1)), sg_2)) else if a2 = (3 : Int32) then some ((((rd sg_2 0 17) >>> (a1 &&& 31)) &&& (1 : Int32)), sg_2) else if a2 = (4 : Int32) then (fX8_coneOf a1 sg_2).bind fun r_15 => some (r_15, sg_2) else some ((((rd sg_2 0 5) >>> (a1 &&& 31)) &&& (1 : Int32)), sg_2))
def fX8_net_J32 (s0 : Int32) (sg : Sg) : Option (Int32 × Sg) := some (s0, sg)
def fX8_net (a1 : Int32) (a2 : Int32) (sg : Sg) : Option (Int32 × Sg) := (fX8_isNet a1).bind fun r_2 => (if r_2 = 0 then some ((-1001 : Int32), sg) else (fX8_within a2 (0 : Int32) (5 : Int32)).bind fun r_4 => (if r_4 = 0 then fX8_net_J32 (-1002 : Int32) sg else (fX8_netNow a1 a2 sg).bind fun p_8 => lt p_8.1 fun r_6 => lt p_8.2 fun sg_7 => fX8_net_J32 r_6 sg_7))
def fX8_rankNow_J28 (s0 : Int32) (sg : Sg) : Option (Int32 × Sg) := some (s0, sg)
def fX8_rankNow (a1 : Int32) (sg : Sg) : Option (Int32 × Sg) := (fX8_lay sg).bind fun sg_2 => (fX8_within a1 (0 : Int32) ((rd sg_2 0 15) - (1 : Int32))).bind fun r_4 => (if r_4 = 0 then fX8_rankNow_J28 (-1 : Int32) sg_2 else gd (inb a1 8) (fX8_rankNow_J28 (rd sg_2 9 (Int32.toNatClampNeg a1)) sg_2))
def fX8_rank (a1 : Int32) (sg : Sg) : Option (Int32 × Sg) := (fX8_rankNow a1 sg).bind fun p_4 => lt p_4.1 fun r_2 => lt p_4.2 fun sg_3 => some (r_2, sg_3)
def fX8_topNow  (sg : Sg) : Option (Int32 × Sg) := (fX8_lay sg).bind fun sg_2 => some ((rd sg_2 0 17), sg_2)
def fX8_top  (sg : Sg) : Option (Int32 × Sg) := (fX8_topNow sg).bind fun p_4 => lt p_4.1 fun r_2 => lt p_4.2 fun sg_3 => some (r_2, sg_3)
def fX8_linkNow_J82 (s0 : Int32) (sg : Sg) : Option (Int32 × Sg) := some (s0, sg)
def fX8_linkNow (a1 : Int32) (a2 : Int32) (a3 : Int32) (sg : Sg) : Option (Int32 × Sg) := (fX8_lay sg).bind fun sg_2 => lt ((((8 : Int32) * a1) + a2)) fun a4_3 => (if a3 = 0 then gd (inb a4_3 64) (fX8_linkNow_J82 (rd sg_2 13 (Int32.toNatClampNeg a4_3)) sg_2) else (if a3 = (1 : Int32) then gd (inb a4_3 64) (fX8_linkNow_J82 (rd sg_2 11 (Int32.toNatClampNeg a4_3)) sg_2) else (if a3 = (2 : Int32) then gd (inb (((8 : Int32) * a2) + a1) 64) (fX8_linkNow_J82 (rd sg_2 11 (Int32.toNatClampNeg (((8 : Int32) * a2) + a1))) sg_2) else (if a3 = (3 : Int32) then gd (inb a4_3 64) (fX8_linkNow_J82 (rd sg_2 12 (Int32.toNatClampNeg a4_3)) sg_2) else gd (inb a4_3 64) (fX8_linkNow_J82 (rd sg_2 4 (Int32.toNatClampNeg a4_3)) sg_2)))))
def fX8_link_J34 (s0 : Int32) (sg : Sg) : Option (Int32 × Sg) := some (s0, sg)
def fX8_link (a1 : Int32) (a2 : Int32) (a3 : Int32) (sg : Sg) : Option (Int32 × Sg) := (fX8_areTwo a1 a2).bind fun r_2 => (if r_2 = 0 then some ((-1001 : Int32), sg) else (fX8_within a3 (0 : Int32) (4 : Int32)).bind fun r_4 => (if r_4 = 0 then fX8_link_J34 (-1002 : Int32) sg else (fX8_linkNow a1 a2 a3 sg).bind fun p_8 => lt p_8.1 fun r_6 => lt p_8.2 fun sg_7 => fX8_link_J34 r_6 sg_7))
def fX8_lesserOf_J54 (s0 : Int32) (sg : Sg) : Option (Int32) := some s0
def fX8_lesserOf (a1 : Int32) (sg : Sg) : Option (Int32) := lt ((a1 - a1 / (8 : Int32) * (8 : Int32))) fun a3_1 => gd (inb a1 64) (lt ((rd sg 11 (Int32.toNatClampNeg a1))) fun a4_3 => gd (inb (((8 : Int32) * a3_1) + (a1 / (8 : Int32))) 64) (lt ((rd sg 11 (Int32.toNatClampNeg (((8 : Int32) * a3_1) + (a1 / (8 : Int32)))))) fun a5_5 => (if (a1 / (8 : Int32)) < a3_1 then (if a5_5 ≤ a4_3 then fX8_lesserOf_J54 a5_5 sg else fX8_lesserOf_J54 a4_3 sg) else fX8_lesserOf_J54 (0 : Int32) sg)))
def fX8_contradictedNow_L6_J87 (a1 : Int32) (a2 : Int32) (sg : Sg) : Option ((Int32) ⊕ ((Int32 × Sg) ⊕ (Int32))) := some (.inr (.inr (a2 + 1)))
def fX8_contradictedNow_L17_J64 (a1 : Int32) (a2 : Int32) (a4 : Int32) (s0 : Int32) (s1 : Int32) (sg : Sg) : Option ((Int32 × Int32) ⊕ (Int32 × Int32)) := some (.inr ((s1 + s0), (a4 + 1)))
def fX8_contradictedNow_L17_J63 (a1 : Int32) (a2 : Int32) (a4 : Int32) (s0 : Int32) (sg : Sg) : Option ((Int32 × Int32) ⊕ (Int32 × Int32)) := fX8_contradictedNow_L17_J64 a1 a2 a4 (0 : Int32) s0 sg
def fX8_contradictedNow_L17_J59 (a1 : Int32) (a2 : Int32) (a4 : Int32) (s0 : Int32) (sg : Sg) : Option ((Int32 × Int32) ⊕ (Int32 × Int32)) := fX8_contradictedNow_L17_J64 a1 a2 a4 (1 : Int32) s0 sg
def fX8_contradictedNow_L17 (a1 : Int32) (a2 : Int32) (sg : Sg) (a3 : Int32) (a4 : Int32) : Option ((Int32 × Int32) ⊕ (Int32 × Int32)) := (if (64 : Int32) ≤ a4 then some (.inl (a3, a4)) else (fX8_lesserOf a4 sg).bind fun r_4 => (fX8_lesserOf a2 sg).bind fun r_6 => (if r_6 < r_4 then fX8_contradictedNow_L17_J59 a1 a2 a4 a3 sg else (fX8_lesserOf a4 sg).bind fun r_8 => (fX8_lesserOf a2 sg).bind fun r_10 => (if r_8 = r_10 then (if a2 ≤ a4 then fX8_contradictedNow_L17_J63 a1 a2 a4 a3 sg else fX8_contradictedNow_L17_J59 a1 a2 a4 a3 sg) else fX8_contradictedNow_L17_J63 a1 a2 a4 a3 sg)))
def fX8_contradictedNow_L6_E72 (a1 : Int32) (a2 : Int32) (a3 : Int32) (a4 : Int32) (sg : Sg) : Option ((Int32) ⊕ ((Int32 × Sg) ⊕ (Int32))) := (fX8_lesserOf a2 sg).bind fun r_18 => (if r_18 ≤ 0 then fX8_contradictedNow_L6_J87 a1 a2 sg else (if a3 = a1 then some (.inr (.inl (a2, sg))) else fX8_contradictedNow_L6_J87 a1 a2 sg))
def fX8_contradictedNow_L6 (a1 : Int32) (sg : Sg) (a2 : Int32) : Option ((Int32) ⊕ ((Int32 × Sg) ⊕ (Int32))) := (if (64 : Int32) ≤ a2 then some (.inl a2) else ((lpS (fun t => fX8_contradictedNow_L17 a1 a2 sg t.1 t.2) 300 ((0 : Int32), (0 : Int32))).bind fun t => fX8_contradictedNow_L6_E72 a1 a2 t.1 t.2 sg))
def fX8_contradictedNow_E93 (a1 : Int32) (a2 : Int32) (sg : Sg) : Option (Int32 × Sg) := some ((-1 : Int32), sg)
def fX8_contradictedNow (a1 : Int32) (sg : Sg) : Option (Int32 × Sg) := (fX8_lay sg).bind fun sg_2 => ((lpO (fun t => fX8_contradictedNow_L6 a1 sg_2 t) 300 (0 : Int32)).bind fun u => onE u (fun t => fX8_contradictedNow_E93 a1 t sg_2) (fun r => some r))
def fX8_contradicted (a1 : Int32) (sg : Sg) : Option (Int32 × Sg) := (fX8_contradictedNow a1 sg).bind fun p_4 => lt p_4.1 fun r_2 => lt p_4.2 fun sg_3 => some (r_2, sg_3)
def fX8_valleyOfWay_L12 (a1 : Int32) (a2 : Int32) (sg : Sg) : Option ((Int32 × Sg) ⊕ (Int32 × Sg)) := (if (rd sg 0 22) ≤ a2 then some (.inl (a2, sg)) else gd (inb (((8 : Int32) * a1) + a2) 96) (gd (inb a2 8) (lt (wr sg 14 (Int32.toNatClampNeg a2) (rd sg 5 (Int32.toNatClampNeg (((8 : Int32) * a1) + a2)))) fun sg_5 => some (.inr ((a2 + 1), sg_5)))))
def fX8_valleyOfWay_E43 (a1 : Int32) (a2 : Int32) (sg : Sg) : Option (Int32 × Sg) := (fX8_valleyOf sg).bind fun r_10 => some (r_10, sg)
def fX8_valleyOfWay (a1 : Int32) (sg : Sg) : Option (Int32 × Sg) := gd (inb a1 12) (lt (wr sg 0 22 (rd sg 6 (Int32.toNatClampNeg a1))) fun sg_2 => ((lpS (fun t => fX8_valleyOfWay_L12 a1 t.1 t.2) 300 ((0 : Int32), sg_2)).bind fun t => fX8_valleyOfWay_E43 a1 t.1 t.2))
def fX8_seenNow_J73 (s0 : Int32) (sg : Sg) : Option (Int32 × Sg) := some (s0, sg)
def fX8_seenNow_J41 (s0 : Int32) (sg : Sg) : Option (Int32 × Sg) := some (s0, sg)
def fX8_seenNow (a1 : Int32) (a2 : Int32) (sg : Sg) : Option (Int32 × Sg) := (fX8_lay sg).bind fun sg_2 => (if a2 ≤ (9 : Int32) then (if a2 = 0 then gd (inb a1 12) (fX8_seenNow_J73 (rd sg_2 6 (Int32.toNatClampNeg a1)) sg_2) else (if a2 = (1 : Int32) then (fX8_hillOf a1 sg_2).bind fun r_8 => fX8_seenNow_J73 r_8 sg_2 else (fX8_valleyOfWay a1 sg_2).bind fun p_6 => lt p_6.1 fun r_4 => lt p_6.2 fun sg_5 => fX8_seenNow_J73 r_4 sg_5)) else gd (inb a1 12) ((if (rd sg_2 6 (Int32.toNatClampNeg a1)) ≤ (a2 - (10 : Int32)) then fX8_seenNow_J41 (-1 : Int32) sg_2 else gd (inb ((((8 : Int32) * a1) + a2) - (10 : Int32)) 96) (fX8_seenNow_J41 (rd sg_2 5 (Int32.toNatClampNeg ((((8 : Int32) * a1) + a2) - (10 : Int32)))) sg_2))))
def fX8_seen_J50 (s0 : Int32) (sg : Sg) : Option (Int32 × Sg) := some (s0, sg)
def fX8_seen_J38 (a1 : Int32) (a2 : Int32) (sg : Sg) : Option (Int32 × Sg) := (fX8_seenNow a1 a2 sg).bind fun p_13 => lt p_13.1 fun r_11 => lt p_13.2 fun sg_12 => fX8_seen_J50 r_11 sg_12
def fX8_seen (a1 : Int32) (a2 : Int32) (sg : Sg) : Option (Int32 × Sg) := (fX8_within a1 (0 : Int32) ((rd sg 0 2) - (1 : Int32))).bind fun r_2 => (if r_2 = 0 then some ((-1001 : Int32), sg) else (fX8_within a2 (0 : Int32) (2 : Int32)).bind fun r_4 => (if r_4 = 0 then (fX8_within a2 (10 : Int32) (15 : Int32)).bind fun r_6 => (if r_6 = 0 then fX8_seen_J50 (-1002 : Int32) sg else fX8_seen_J38 a1 a2 sg) else fX8_seen_J38 a1 a2 sg))
def fX8_behind_J41 (s0 : Int32) : Option (Int32) := some s0
def fX8_behind_J36  : Option (Int32) := fX8_behind_J41 (1 : Int32)
def fX8_behind_J21 (a0 : Int32) (a1 : Int32) : Option (Int32) := (if a1 = (1 : Int32) then fX8_behind_J36  else (if a0 = (2 : Int32) then fX8_behind_J36  else (if a0 = (3 : Int32) then fX8_behind_J36  else fX8_behind_J41 (0 : Int32))))
def fX8_behind_J19  : Option (Int32) := some (-1 : Int32)
def fX8_behind (a0 : Int32) (a1 : Int32) : Option (Int32) := (if a0 = 0 then fX8_behind_J19  else (if a1 = (1 : Int32) then (if a0 = (1 : Int32) then fX8_behind_J19  else (if a0 = (3 : Int32) then fX8_behind_J19  else fX8_behind_J21 a0 a1)) else fX8_behind_J21 a0 a1))
def fX8_layFar_L2_J27 (a1 : Int32) (a2 : Int32) (s0 : Int32) (s1 : Int32) (sg : Sg) : Option ((Int32 × Sg) ⊕ (Int32 × Sg)) := gd (inb s1 16) (lt (wr sg 15 (Int32.toNatClampNeg s1) s0) fun sg_4 => some (.inr ((a2 + 1), sg_4)))
def fX8_layFar_L2 (a1 : Int32) (a2 : Int32) (sg : Sg) : Option ((Int32 × Sg) ⊕ (Int32 × Sg)) := (if (16 : Int32) ≤ a2 then some (.inl (a2, sg)) else (if (a2 - a2 / (8 : Int32) * (8 : Int32)) = a1 then fX8_layFar_L2_J27 a1 a2 (0 : Int32) a2 sg else fX8_layFar_L2_J27 a1 a2 (99 : Int32) a2 sg))
def fX8_layFar_L53_J139 (a2 : Int32) (a3 : Int32) (a4 : Int32) (s0 : Int32) (s1 : Int32) (sg : Sg) : Option ((Int32 × Sg) ⊕ (Int32 × Sg)) := gd (inb s1 16) (lt (wr sg 15 (Int32.toNatClampNeg s1) s0) fun sg_17 => some (.inr ((a4 + 1), sg_17)))
def fX8_layFar_L53_J110 (a2 : Int32) (a3 : Int32) (a4 : Int32) (s0 : Int32) (sg : Sg) : Option ((Int32 × Sg) ⊕ (Int32 × Sg)) := gd (inb a3 16) ((if (rd sg 15 (Int32.toNatClampNeg a3)) ≤ s0 then gd (inb a3 16) (fX8_layFar_L53_J139 a2 a3 a4 (rd sg 15 (Int32.toNatClampNeg a3)) a3 sg) else fX8_layFar_L53_J139 a2 a3 a4 s0 a3 sg))
def fX8_layFar_L53 (a2 : Int32) (a3 : Int32) (a4 : Int32) (sg : Sg) : Option ((Int32 × Sg) ⊕ (Int32 × Sg)) := (if (8 : Int32) ≤ a4 then some (.inl (a4, sg)) else gd (inb (((8 : Int32) * (a3 - a3 / (8 : Int32) * (8 : Int32))) + a4) 64) ((fX8_behind (rd sg 13 (Int32.toNatClampNeg (((8 : Int32) * (a3 - a3 / (8 : Int32) * (8 : Int32))) + a4))) (a3 / (8 : Int32))).bind fun r_9 => (if r_9 = (-1 : Int32) then fX8_layFar_L53_J110 a2 a3 a4 (99 : Int32) sg else gd (inb (((8 : Int32) * r_9) + a4) 16) (fX8_layFar_L53_J110 a2 a3 a4 ((rd sg 15 (Int32.toNatClampNeg (((8 : Int32) * r_9) + a4))) + (1 : Int32)) sg))))
def fX8_layFar_L44_E146 (a2 : Int32) (a3 : Int32) (a4 : Int32) (sg : Sg) : Option ((Int32 × Sg) ⊕ (Int32 × Sg)) := some (.inr ((a3 + 1), sg))
def fX8_layFar_L44 (a2 : Int32) (a3 : Int32) (sg : Sg) : Option ((Int32 × Sg) ⊕ (Int32 × Sg)) := (if (16 : Int32) ≤ a3 then some (.inl (a3, sg)) else ((lpS (fun t => fX8_layFar_L53 a2 a3 t.1 t.2) 300 ((0 : Int32), sg)).bind fun t => fX8_layFar_L44_E146 a2 a3 t.1 t.2))
def fX8_layFar_L36_E152 (a2 : Int32) (a3 : Int32) (sg : Sg) : Option ((Int32 × Sg) ⊕ (Int32 × Sg)) := some (.inr ((a2 + 1), sg))
def fX8_layFar_L36 (a2 : Int32) (sg : Sg) : Option ((Int32 × Sg) ⊕ (Int32 × Sg)) := (if (16 : Int32) ≤ a2 then some (.inl (a2, sg)) else ((lpS (fun t => fX8_layFar_L44 a2 t.1 t.2) 300 ((0 : Int32), sg)).bind fun t => fX8_layFar_L36_E152 a2 t.1 t.2))
def fX8_layFar_E158 (a2 : Int32) (sg : Sg) : Option (Sg) := some sg
def fX8_layFar_E34 (a1 : Int32) (a2 : Int32) (sg : Sg) : Option (Sg) := ((lpS (fun t => fX8_layFar_L36 t.1 t.2) 300 ((0 : Int32), sg)).bind fun t => fX8_layFar_E158 t.1 t.2)
def fX8_layFar (a1 : Int32) (sg : Sg) : Option (Sg) := ((lpS (fun t => fX8_layFar_L2 a1 t.1 t.2) 300 ((0 : Int32), sg)).bind fun t => fX8_layFar_E34 a1 t.1 t.2)
def fX8_nearNow_J29 (s0 : Int32) (sg : Sg) : Option (Int32 × Sg) := some (s0, sg)
def fX8_nearNow_J28 (sg : Sg) : Option (Int32 × Sg) := fX8_nearNow_J29 (-1 : Int32) sg
def fX8_nearNow_L51_J114 (a1 : Int32) (a3 : Int32) (a4 : Int32) (sg : Sg) : Option ((Int32) ⊕ ((Int32 × Sg) ⊕ (Int32))) := some (.inr (.inr (a4 + 1)))
def fX8_nearNow_L51 (a1 : Int32) (a3 : Int32) (sg : Sg) (a4 : Int32) : Option ((Int32) ⊕ ((Int32 × Sg) ⊕ (Int32))) := (if (8 : Int32) ≤ a4 then some (.inl a4) else (if a3 = (1 : Int32) then gd (inb (((8 : Int32) * a1) + a4) 64) ((fX8_behind (rd sg 13 (Int32.toNatClampNeg (((8 : Int32) * a1) + a4))) (0 : Int32)).bind fun r_8 => (if r_8 = (-1 : Int32) then fX8_nearNow_L51_J114 a1 a3 a4 sg else gd (inb (((8 : Int32) * r_8) + a4) 16) (gd (inb a1 16) ((if ((rd sg 15 (Int32.toNatClampNeg (((8 : Int32) * r_8) + a4))) + (1 : Int32)) = (rd sg 15 (Int32.toNatClampNeg a1)) then some (.inr (.inl (a4, sg))) else fX8_nearNow_L51_J114 a1 a3 a4 sg))))) else some (.inl a4)))
def fX8_nearNow_E120 (a1 : Int32) (a3 : Int32) (a4 : Int32) (sg : Sg) : Option (Int32 × Sg) := gd (inb a1 16) (some ((rd sg 15 (Int32.toNatClampNeg a1)), sg))
def fX8_nearNow (a1 : Int32) (a2 : Int32) (a3 : Int32) (sg : Sg) : Option (Int32 × Sg) := (fX8_lay sg).bind fun sg_2 => (if a1 = a2 then (if a3 = 0 then (fX8_has (rd sg_2 0 13) a1).bind fun r_19 => (if r_19 = 0 then fX8_nearNow_J28 sg_2 else fX8_nearNow_J29 (0 : Int32) sg_2) else fX8_nearNow_J28 sg_2) else (fX8_layFar a2 sg_2).bind fun sg_4 => gd (inb a1 16) ((if (rd sg_4 15 (Int32.toNatClampNeg a1)) < (99 : Int32) then ((lpO (fun t => fX8_nearNow_L51 a1 a3 sg_4 t) 300 (0 : Int32)).bind fun u => onE u (fun t => fX8_nearNow_E120 a1 a3 t sg_4) (fun r => some r)) else some ((-1 : Int32), sg_4))))
def fX8_near_J40 (s0 : Int32) (sg : Sg) : Option (Int32 × Sg) := some (s0, sg)
def fX8_near_J14 (sg : Sg) : Option (Int32 × Sg) := some ((-1001 : Int32), sg)
def fX8_near (a1 : Int32) (a2 : Int32) (a3 : Int32) (sg : Sg) : Option (Int32 × Sg) := (fX8_isNet a1).bind fun r_2 => (if r_2 = 0 then fX8_near_J14 sg else (fX8_isNet a2).bind fun r_4 => (if r_4 = 0 then fX8_near_J14 sg else (fX8_within a3 (0 : Int32) (1 : Int32)).bind fun r_6 => (if r_6 = 0 then fX8_near_J40 (-1002 : Int32) sg else (fX8_nearNow a1 a2 a3 sg).bind fun p_10 => lt p_10.1 fun r_8 => lt p_10.2 fun sg_9 => fX8_near_J40 r_8 sg_9)))
def fX8_linksOf_L4_J186 (a1 : Int32) (a3 : Int32) (s0 : Int32) (s1 : Int32) (sg : Sg) : Option ((Int32 × Int32) ⊕ (Int32 × Int32)) := some (.inr ((s1 + s0), (a3 + 1)))
def fX8_linksOf_L4_J185 (a1 : Int32) (a3 : Int32) (s0 : Int32) (sg : Sg) : Option ((Int32 × Int32) ⊕ (Int32 × Int32)) := fX8_linksOf_L4_J186 a1 a3 (0 : Int32) s0 sg
def fX8_linksOf_L4_J181 (a1 : Int32) (a3 : Int32) (s0 : Int32) (sg : Sg) : Option ((Int32 × Int32) ⊕ (Int32 × Int32)) := fX8_linksOf_L4_J186 a1 a3 (1 : Int32) s0 sg
def fX8_linksOf_L4_J163 (a1 : Int32) (a2 : Int32) (a3 : Int32) (a4 : Int32) (a5 : Int32) (s0 : Int32) (sg : Sg) : Option ((Int32 × Int32) ⊕ (Int32 × Int32)) := (if a4 = 0 then fX8_linksOf_L4_J185 a1 a3 a2 sg else (if a5 = 0 then (if s0 = 0 then fX8_linksOf_L4_J185 a1 a3 a2 sg else fX8_linksOf_L4_J181 a1 a3 a2 sg) else fX8_linksOf_L4_J181 a1 a3 a2 sg))
def fX8_linksOf_L4_J162 (a1 : Int32) (a2 : Int32) (a3 : Int32) (a4 : Int32) (a5 : Int32) (sg : Sg) : Option ((Int32 × Int32) ⊕ (Int32 × Int32)) := fX8_linksOf_L4_J163 a1 a2 a3 a4 a5 (0 : Int32) sg
def fX8_linksOf_L4_J158 (a1 : Int32) (a2 : Int32) (a3 : Int32) (a4 : Int32) (a5 : Int32) (sg : Sg) : Option ((Int32 × Int32) ⊕ (Int32 × Int32)) := fX8_linksOf_L4_J163 a1 a2 a3 a4 a5 (1 : Int32) sg
def fX8_linksOf_L4_J128 (a1 : Int32) (a2 : Int32) (a3 : Int32) (a4 : Int32) (a5 : Int32) (sg : Sg) : Option ((Int32 × Int32) ⊕ (Int32 × Int32)) := (if a1 = (8 : Int32) then gd (inb a3 64) ((if (rd sg 4 (Int32.toNatClampNeg a3)) ≤ 0 then fX8_linksOf_L4_J162 a1 a2 a3 a4 a5 sg else gd (inb a3 64) (gd (inb a3 64) ((if (rd sg 4 (Int32.toNatClampNeg a3)) = (rd sg 13 (Int32.toNatClampNeg a3)) then fX8_linksOf_L4_J162 a1 a2 a3 a4 a5 sg else fX8_linksOf_L4_J158 a1 a2 a3 a4 a5 sg))))) else fX8_linksOf_L4_J162 a1 a2 a3 a4 a5 sg)
def fX8_linksOf_L4_J105 (a1 : Int32) (a2 : Int32) (a3 : Int32) (a4 : Int32) (s0 : Int32) (sg : Sg) : Option ((Int32 × Int32) ⊕ (Int32 × Int32)) := (if a1 = (7 : Int32) then gd (inb a3 64) (gd (inb a3 64) ((if (rd sg 4 (Int32.toNatClampNeg a3)) = (rd sg 13 (Int32.toNatClampNeg a3)) then fX8_linksOf_L4_J158 a1 a2 a3 a4 s0 sg else fX8_linksOf_L4_J128 a1 a2 a3 a4 s0 sg))) else fX8_linksOf_L4_J128 a1 a2 a3 a4 s0 sg)
def fX8_linksOf_L4_J104 (a1 : Int32) (a2 : Int32) (a3 : Int32) (a4 : Int32) (sg : Sg) : Option ((Int32 × Int32) ⊕ (Int32 × Int32)) := fX8_linksOf_L4_J105 a1 a2 a3 a4 (0 : Int32) sg
def fX8_linksOf_L4_J100 (a1 : Int32) (a2 : Int32) (a3 : Int32) (a4 : Int32) (sg : Sg) : Option ((Int32 × Int32) ⊕ (Int32 × Int32)) := fX8_linksOf_L4_J105 a1 a2 a3 a4 (1 : Int32) sg
def fX8_linksOf_L4_J87 (a1 : Int32) (a2 : Int32) (a3 : Int32) (a4 : Int32) (sg : Sg) : Option ((Int32 × Int32) ⊕ (Int32 × Int32)) := (if a1 = (5 : Int32) then (fX8_lesserOf a3 sg).bind fun r_16 => (if r_16 ≤ 0 then fX8_linksOf_L4_J104 a1 a2 a3 a4 sg else fX8_linksOf_L4_J100 a1 a2 a3 a4 sg) else fX8_linksOf_L4_J104 a1 a2 a3 a4 sg)
def fX8_linksOf_L4_J72 (a1 : Int32) (a2 : Int32) (a3 : Int32) (a4 : Int32) (sg : Sg) : Option ((Int32 × Int32) ⊕ (Int32 × Int32)) := (if a1 = (4 : Int32) then gd (inb a3 64) ((if (rd sg 13 (Int32.toNatClampNeg a3)) = (4 : Int32) then fX8_linksOf_L4_J100 a1 a2 a3 a4 sg else fX8_linksOf_L4_J87 a1 a2 a3 a4 sg)) else fX8_linksOf_L4_J87 a1 a2 a3 a4 sg)
def fX8_linksOf_L4_J57 (a1 : Int32) (a2 : Int32) (a3 : Int32) (a4 : Int32) (sg : Sg) : Option ((Int32 × Int32) ⊕ (Int32 × Int32)) := (if a1 = (3 : Int32) then gd (inb a3 64) ((if (rd sg 13 (Int32.toNatClampNeg a3)) = (3 : Int32) then fX8_linksOf_L4_J100 a1 a2 a3 a4 sg else fX8_linksOf_L4_J72 a1 a2 a3 a4 sg)) else fX8_linksOf_L4_J72 a1 a2 a3 a4 sg)
def fX8_linksOf_L4_J35 (a1 : Int32) (a2 : Int32) (a3 : Int32) (s0 : Int32) (sg : Sg) : Option ((Int32 × Int32) ⊕ (Int32 × Int32)) := (if a1 = (1 : Int32) then fX8_linksOf_L4_J100 a1 a2 a3 s0 sg else (if a1 = (2 : Int32) then gd (inb a3 64) ((if (rd sg 13 (Int32.toNatClampNeg a3)) < (3 : Int32) then fX8_linksOf_L4_J100 a1 a2 a3 s0 sg else fX8_linksOf_L4_J57 a1 a2 a3 s0 sg)) else fX8_linksOf_L4_J57 a1 a2 a3 s0 sg))
def fX8_linksOf_L4_J34 (a1 : Int32) (a2 : Int32) (a3 : Int32) (sg : Sg) : Option ((Int32 × Int32) ⊕ (Int32 × Int32)) := fX8_linksOf_L4_J35 a1 a2 a3 (0 : Int32) sg
def fX8_linksOf_L4 (a1 : Int32) (sg : Sg) (a2 : Int32) (a3 : Int32) : Option ((Int32 × Int32) ⊕ (Int32 × Int32)) := (if (64 : Int32) ≤ a3 then some (.inl (a2, a3)) else (if (a3 - a3 / (8 : Int32) * (8 : Int32)) ≤ (a3 / (8 : Int32)) then fX8_linksOf_L4_J34 a1 a2 a3 sg else gd (inb a3 64) ((if (rd sg 13 (Int32.toNatClampNeg a3)) ≤ 0 then fX8_linksOf_L4_J34 a1 a2 a3 sg else fX8_linksOf_L4_J35 a1 a2 a3 (1 : Int32) sg))))
def fX8_linksOf_E194 (a1 : Int32) (a2 : Int32) (a3 : Int32) (sg : Sg) : Option (Int32) := some a2
def fX8_linksOf (a1 : Int32) (sg : Sg) : Option (Int32) := ((lpS (fun t => fX8_linksOf_L4 a1 sg t.1 t.2) 300 ((0 : Int32), (0 : Int32))).bind fun t => fX8_linksOf_E194 a1 t.1 t.2 sg)
def fX8_withValley_L4_J27 (a2 : Int32) (s0 : Int32) (s1 : Int32) (sg : Sg) : Option ((Int32 × Int32 × Sg) ⊕ (Int32 × Int32 × Sg)) := some (.inr ((s1 + s0), (a2 + 1), sg))
def fX8_withValley_L4 (a1 : Int32) (a2 : Int32) (sg : Sg) : Option ((Int32 × Int32 × Sg) ⊕ (Int32 × Int32 × Sg)) := (if (rd sg 0 2) ≤ a2 then some (.inl (a1, a2, sg)) else (fX8_valleyOfWay a2 sg).bind fun p_4 => lt p_4.1 fun r_2 => lt p_4.2 fun sg_3 => (if r_2 = (-1 : Int32) then fX8_withValley_L4_J27 a2 (0 : Int32) a1 sg_3 else fX8_withValley_L4_J27 a2 (1 : Int32) a1 sg_3))
def fX8_withValley_E35 (a1 : Int32) (a2 : Int32) (sg : Sg) : Option (Int32 × Sg) := some (a1, sg)
def fX8_withValley  (sg : Sg) : Option (Int32 × Sg) := ((lpS (fun t => fX8_withValley_L4 t.1 t.2.1 t.2.2) 300 ((0 : Int32), (0 : Int32), sg)).bind fun t => fX8_withValley_E35 t.1 t.2.1 t.2.2)
def fX8_howMany_J114 (s0 : Int32) (sg : Sg) : Option (Int32 × Sg) := some (s0, sg)
def fX8_howMany (a1 : Int32) (sg : Sg) : Option (Int32 × Sg) := (fX8_lay sg).bind fun sg_2 => (if a1 = (0 : Int32) then some ((rd sg_2 0 2), sg_2) else if a1 = (1 : Int32) then (fX8_within a1 (1 : Int32) (8 : Int32)).bind fun r_5 => (if r_5 = 0 then fX8_howMany_J114 (-1002 : Int32) sg_2 else (fX8_linksOf a1 sg_2).bind fun r_7 => fX8_howMany_J114 r_7 sg_2) else if a1 = (2 : Int32) then (fX8_within a1 (1 : Int32) (8 : Int32)).bind fun r_11 => (if r_11 = 0 then fX8_howMany_J114 (-1002 : Int32) sg_2 else (fX8_linksOf a1 sg_2).bind fun r_13 => fX8_howMany_J114 r_13 sg_2) else if a1 = (3 : Int32) then (fX8_within a1 (1 : Int32) (8 : Int32)).bind fun r_17 => (if r_17 = 0 then fX8_howMany_J114 (-1002 : Int32) sg_2 else (fX8_linksOf a1 sg_2).bind fun r_19 => fX8_howMany_J114 r_19 sg_2) else if a1 = (4 : Int32) then (fX8_within a1 (1 : Int32) (8 : Int32)).bind fun r_23 => (if r_23 = 0 then fX8_howMany_J114 (-1002 : Int32) sg_2 else (fX8_linksOf a1 sg_2).bind fun r_25 => fX8_howMany_J114 r_25 sg_2) else if a1 = (5 : Int32) then (fX8_within a1 (1 : Int32) (8 : Int32)).bind fun r_29 => (if r_29 = 0 then fX8_howMany_J114 (-1002 : Int32) sg_2 else (fX8_linksOf a1 sg_2).bind fun r_31 => fX8_howMany_J114 r_31 sg_2) else if a1 = (6 : Int32) then (fX8_withValley sg_2).bind fun p_37 => lt p_37.1 fun r_35 => lt p_37.2 fun sg_36 => some (r_35, sg_36) else if a1 = (7 : Int32) then (fX8_within a1 (1 : Int32) (8 : Int32)).bind fun r_40 => (if r_40 = 0 then fX8_howMany_J114 (-1002 : Int32) sg_2 else (fX8_linksOf a1 sg_2).bind fun r_42 => fX8_howMany_J114 r_42 sg_2) else if a1 = (8 : Int32) then (fX8_within a1 (1 : Int32) (8 : Int32)).bind fun r_46 => (if r_46 = 0 then fX8_howMany_J114 (-1002 : Int32) sg_2 else (fX8_linksOf a1 sg_2).bind fun r_48 => fX8_howMany_J114 r_48 sg_2) else if a1 = (9 : Int32) then some ((rd sg_2 0 0), sg_2) else if a1 = (10 : Int32) then some ((rd sg_2 0 5), sg_2) else if a1 = (11 : Int32) then some ((rd sg_2 0 7), sg_2) else (fX8_within a1 (1 : Int32) (8 : Int32)).bind fun r_55 => (if r_55 = 0 then fX8_howMany_J114 (-1002 : Int32) sg_2 else (fX8_linksOf a1 sg_2).bind fun r_57 => fX8_howMany_J114 r_57 sg_2))
def fX8_count (a1 : Int32) (sg : Sg) : Option (Int32 × Sg) := (fX8_howMany a1 sg).bind fun p_4 => lt p_4.1 fun r_2 => lt p_4.2 fun sg_3 => some (r_2, sg_3)
def fX8_mix (a1 : Int64) (sg : Sg) : Option (Sg) := lt (wrL sg 0 24 (((31 : Int64) * (rdL sg 0 24)) + a1)) fun sg_1 => some sg_1
def fX8_mixNets_L10 (a1 : Int32) (a2 : Int32) (sg : Sg) : Option ((Int32 × Sg) ⊕ (Int32 × Sg)) := (if (6 : Int32) ≤ a2 then some (.inl (a2, sg)) else (fX8_netNow a1 a2 sg).bind fun p_4 => lt p_4.1 fun r_2 => lt p_4.2 fun sg_3 => (fX8_mix (Int32.toInt64 r_2) sg_3).bind fun sg_6 => some (.inr ((a2 + 1), sg_6)))
def fX8_mixNets_L2_E33 (a1 : Int32) (a2 : Int32) (sg : Sg) : Option ((Int32 × Sg) ⊕ (Int32 × Sg)) := some (.inr ((a1 + 1), sg))
def fX8_mixNets_L2 (a1 : Int32) (sg : Sg) : Option ((Int32 × Sg) ⊕ (Int32 × Sg)) := (if (8 : Int32) ≤ a1 then some (.inl (a1, sg)) else ((lpS (fun t => fX8_mixNets_L10 a1 t.1 t.2) 300 ((0 : Int32), sg)).bind fun t => fX8_mixNets_L2_E33 a1 t.1 t.2))
def fX8_mixNets_L41 (a1 : Int32) (sg : Sg) : Option ((Int32 × Sg) ⊕ (Int32 × Sg)) := (if (8 : Int32) ≤ a1 then some (.inl (a1, sg)) else (fX8_rankNow a1 sg).bind fun p_16 => lt p_16.1 fun r_14 => lt p_16.2 fun sg_15 => (fX8_mix (Int32.toInt64 r_14) sg_15).bind fun sg_18 => some (.inr ((a1 + 1), sg_18)))
def fX8_mixNets_L92 (a1 : Int32) (a2 : Int32) (a3 : Int32) (sg : Sg) : Option ((Int32 × Sg) ⊕ (Int32 × Sg)) := (if (5 : Int32) ≤ a3 then some (.inl (a3, sg)) else (fX8_linkNow a1 a2 a3 sg).bind fun p_31 => lt p_31.1 fun r_29 => lt p_31.2 fun sg_30 => (fX8_mix (Int32.toInt64 r_29) sg_30).bind fun sg_33 => some (.inr ((a3 + 1), sg_33)))
def fX8_mixNets_L84_E115 (a1 : Int32) (a2 : Int32) (a3 : Int32) (sg : Sg) : Option ((Int32 × Sg) ⊕ (Int32 × Sg)) := some (.inr ((a2 + 1), sg))
def fX8_mixNets_L84 (a1 : Int32) (a2 : Int32) (sg : Sg) : Option ((Int32 × Sg) ⊕ (Int32 × Sg)) := (if (8 : Int32) ≤ a2 then some (.inl (a2, sg)) else ((lpS (fun t => fX8_mixNets_L92 a1 a2 t.1 t.2) 300 ((0 : Int32), sg)).bind fun t => fX8_mixNets_L84_E115 a1 a2 t.1 t.2))
def fX8_mixNets_L74_E121 (a1 : Int32) (a2 : Int32) (sg : Sg) : Option ((Int32 × Sg) ⊕ (Int32 × Sg)) := some (.inr ((a1 + 1), sg))
def fX8_mixNets_L74 (a1 : Int32) (sg : Sg) : Option ((Int32 × Sg) ⊕ (Int32 × Sg)) := (if (8 : Int32) ≤ a1 then some (.inl (a1, sg)) else ((lpS (fun t => fX8_mixNets_L84 a1 t.1 t.2) 300 ((a1 + (1 : Int32)), sg)).bind fun t => fX8_mixNets_L74_E121 a1 t.1 t.2))
def fX8_mixNets_L129 (a1 : Int32) (sg : Sg) : Option ((Int32 × Sg) ⊕ (Int32 × Sg)) := (if (64 : Int32) ≤ a1 then some (.inl (a1, sg)) else (fX8_nearNow (a1 / (8 : Int32)) (a1 - a1 / (8 : Int32) * (8 : Int32)) (0 : Int32) sg).bind fun p_46 => lt p_46.1 fun r_44 => lt p_46.2 fun sg_45 => (fX8_mix (Int32.toInt64 r_44) sg_45).bind fun sg_48 => some (.inr ((a1 + 1), sg_48)))
def fX8_mixNets_E159 (a1 : Int32) (sg : Sg) : Option (Sg) := some sg
def fX8_mixNets_E127 (a1 : Int32) (sg : Sg) : Option (Sg) := ((lpS (fun t => fX8_mixNets_L129 t.1 t.2) 300 ((0 : Int32), sg)).bind fun t => fX8_mixNets_E159 t.1 t.2)
def fX8_mixNets_E63 (a1 : Int32) (sg : Sg) : Option (Sg) := (fX8_topNow sg).bind fun p_25 => lt p_25.1 fun r_23 => lt p_25.2 fun sg_24 => (fX8_mix (Int32.toInt64 r_23) sg_24).bind fun sg_27 => ((lpS (fun t => fX8_mixNets_L74 t.1 t.2) 300 ((0 : Int32), sg_27)).bind fun t => fX8_mixNets_E127 t.1 t.2)
def fX8_mixNets_E39 (a1 : Int32) (sg : Sg) : Option (Sg) := ((lpS (fun t => fX8_mixNets_L41 t.1 t.2) 300 ((0 : Int32), sg)).bind fun t => fX8_mixNets_E63 t.1 t.2)
def fX8_mixNets  (sg : Sg) : Option (Sg) := ((lpS (fun t => fX8_mixNets_L2 t.1 t.2) 300 ((0 : Int32), sg)).bind fun t => fX8_mixNets_E39 t.1 t.2)
def fX8_digest_L13 (a1 : Int32) (sg : Sg) : Option ((Int32 × Sg) ⊕ (Int32 × Sg)) := (if (4 : Int32) ≤ a1 then some (.inl (a1, sg)) else (fX8_contradictedNow a1 sg).bind fun p_7 => lt p_7.1 fun r_5 => lt p_7.2 fun sg_6 => (fX8_mix (Int32.toInt64 r_5) sg_6).bind fun sg_9 => some (.inr ((a1 + 1), sg_9)))
def fX8_digest_L46 (a1 : Int32) (a2 : Int32) (sg : Sg) : Option ((Int32 × Sg) ⊕ (Int32 × Sg)) := (if (3 : Int32) ≤ a2 then some (.inl (a2, sg)) else (fX8_seenNow a1 a2 sg).bind fun p_16 => lt p_16.1 fun r_14 => lt p_16.2 fun sg_15 => (fX8_mix (Int32.toInt64 r_14) sg_15).bind fun sg_18 => some (.inr ((a2 + 1), sg_18)))
def fX8_digest_L36_E68 (a1 : Int32) (a2 : Int32) (sg : Sg) : Option ((Int32 × Sg) ⊕ (Int32 × Sg)) := some (.inr ((a1 + 1), sg))
def fX8_digest_L36 (a1 : Int32) (sg : Sg) : Option ((Int32 × Sg) ⊕ (Int32 × Sg)) := (if (rd sg 0 2) ≤ a1 then some (.inl (a1, sg)) else ((lpS (fun t => fX8_digest_L46 a1 t.1 t.2) 300 ((0 : Int32), sg)).bind fun t => fX8_digest_L36_E68 a1 t.1 t.2))
def fX8_digest_L76 (a1 : Int32) (sg : Sg) : Option ((Int32 × Sg) ⊕ (Int32 × Sg)) := (if (rd sg 0 0) ≤ a1 then some (.inl (a1, sg)) else gd (inb a1 6) ((fX8_mix (Int32.toInt64 (rd sg 1 (Int32.toNatClampNeg a1))) sg).bind fun sg_27 => some (.inr ((a1 + 1), sg_27))))
def fX8_digest_L103 (a1 : Int32) (sg : Sg) : Option ((Int32 × Sg) ⊕ (Int32 × Sg)) := (if (12 : Int32) ≤ a1 then some (.inl (a1, sg)) else (fX8_howMany a1 sg).bind fun p_34 => lt p_34.1 fun r_32 => lt p_34.2 fun sg_33 => (fX8_mix (Int32.toInt64 r_32) sg_33).bind fun sg_36 => some (.inr ((a1 + 1), sg_36)))
def fX8_digest_E125 (a1 : Int32) (sg : Sg) : Option (Int64 × Sg) := some ((rdL sg 0 24), sg)
def fX8_digest_E101 (a1 : Int32) (sg : Sg) : Option (Int64 × Sg) := ((lpS (fun t => fX8_digest_L103 t.1 t.2) 300 ((0 : Int32), sg)).bind fun t => fX8_digest_E125 t.1 t.2)
def fX8_digest_E74 (a1 : Int32) (sg : Sg) : Option (Int64 × Sg) := ((lpS (fun t => fX8_digest_L76 t.1 t.2) 300 ((0 : Int32), sg)).bind fun t => fX8_digest_E101 t.1 t.2)
def fX8_digest_E34 (a1 : Int32) (sg : Sg) : Option (Int64 × Sg) := ((lpS (fun t => fX8_digest_L36 t.1 t.2) 300 ((0 : Int32), sg)).bind fun t => fX8_digest_E74 t.1 t.2)
def fX8_digest  (sg : Sg) : Option (Int64 × Sg) := lt (wrL sg 0 24 (1747 : Int64)) fun sg_1 => (fX8_mixNets sg_1).bind fun sg_3 => ((lpS (fun t => fX8_digest_L13 t.1 t.2) 300 ((0 : Int32), sg_3)).bind fun t => fX8_digest_E34 t.1 t.2)
def fX4_append_J32 (sg : Sg) : Option (Sg) := some sg
def fX4_append (a1 : Int32) (sg : Sg) : Option (Sg) := (if (6 : Int32) ≤ (rd sg 1 1) then fX4_append_J32 sg else gd (inb (rd sg 1 1) 6) (lt (wr sg 2 (Int32.toNatClampNeg (rd sg 1 1)) (a1 - (48 : Int32))) fun sg_2 => lt (wr sg_2 1 1 ((rd sg_2 1 1) + (1 : Int32))) fun sg_3 => fX4_append_J32 sg_3))
def fX7_letter_J12 (sg : Sg) : Option (Int32 × Sg) := some ((-1002 : Int32), sg)
def fX7_letter (a1 : Int32) (sg : Sg) : Option (Int32 × Sg) := (if a1 < (32 : Int32) then fX7_letter_J12 sg else (if a1 ≤ (126 : Int32) then (if (rd sg 1 1) < (6 : Int32) then (fX4_append a1 sg).bind fun sg_2 => some ((rd sg_2 1 1), sg_2) else some ((-1004 : Int32), sg)) else fX7_letter_J12 sg))
def fX7_blank  (sg : Sg) : Option (Int32 × Sg) := lt (wr sg 1 1 (0 : Int32)) fun sg_1 => some ((rd sg 1 1), sg_1)
def fX0_isNet_J15 (s0 : Int32) : Option (Int32) := gd (zb s0) (some s0)
def fX0_isNet_J14  : Option (Int32) := fX0_isNet_J15 (0 : Int32)
def fX0_isNet (a0 : Int32) : Option (Int32) := (if a0 < 0 then fX0_isNet_J14  else (if (8 : Int32) ≤ a0 then fX0_isNet_J14  else fX0_isNet_J15 (1 : Int32)))
def fX0_has_J14 (s0 : Int32) : Option (Int32) := gd (zb s0) (some s0)
def fX0_has (a0 : Int32) (a1 : Int32) : Option (Int32) := (if ((a0 >>> (a1 &&& 31)) &&& (1 : Int32)) = (1 : Int32) then fX0_has_J14 (1 : Int32) else fX0_has_J14 (0 : Int32))
def fX4_firstFault_L4_J34 (a2 : Int32) (sg : Sg) : Option ((Int32 × Int32) ⊕ ((Int32) ⊕ (Int32 × Int32))) := some (.inr (.inl a2))
def fX4_firstFault_L4 (sg : Sg) (a1 : Int32) (a2 : Int32) : Option ((Int32 × Int32) ⊕ ((Int32) ⊕ (Int32 × Int32))) := (if (rd sg 1 1) ≤ a2 then some (.inl (a1, a2)) else gd (inb a2 6) (lt ((rd sg 2 (Int32.toNatClampNeg a2))) fun a3_2 => (fX0_isNet a3_2).bind fun r_4 => (if r_4 = 0 then fX4_firstFault_L4_J34 a2 sg else (fX0_has a1 a3_2).bind fun r_6 => (if r_6 = 0 then lt ((a1 ||| ((1 : Int32) <<< (a3_2 &&& 31)))) fun a1_7 => some (.inr (.inr (a1_7, (a2 + 1)))) else fX4_firstFault_L4_J34 a2 sg))))
def fX4_firstFault_E48 (a1 : Int32) (a2 : Int32) (sg : Sg) : Option (Int32) := some (rd sg 1 1)
def fX4_firstFault  (sg : Sg) : Option (Int32) := ((lpO (fun t => fX4_firstFault_L4 sg t.1 t.2) 300 ((0 : Int32), (0 : Int32))).bind fun u => onE u (fun t => fX4_firstFault_E48 t.1 t.2 sg) (fun r => some r))
def fX7_fault  (sg : Sg) : Option (Int32) := (fX4_firstFault sg).bind fun r_2 => some r_2
def fX4_isWay_J24 (s0 : Int32) (sg : Sg) : Option (Int32) := gd (zb s0) (some s0)
def fX4_isWay_J23 (sg : Sg) : Option (Int32) := fX4_isWay_J24 (0 : Int32) sg
def fX4_isWay  (sg : Sg) : Option (Int32) := (if (rd sg 1 1) < (2 : Int32) then fX4_isWay_J23 sg else (fX4_firstFault sg).bind fun r_2 => (if r_2 = (rd sg 1 1) then fX4_isWay_J24 (1 : Int32) sg else fX4_isWay_J23 sg))
def fX6_add_1_L12 (a2 : Int32) (sg : Sg) : Option ((Int32 × Sg) ⊕ (Int32 × Sg)) := (if (rd sg 1 1) ≤ a2 then some (.inl (a2, sg)) else gd (inb a2 6) (gd (inb (((rd sg 3 4) * (6 : Int32)) + a2) 72) (lt (wr sg 4 (Int32.toNatClampNeg (((rd sg 3 4) * (6 : Int32)) + a2)) (rd sg 2 (Int32.toNatClampNeg a2))) fun sg_3 => some (.inr ((a2 + 1), sg_3)))))
def fX6_add_1_E46 (a2 : Int32) (sg : Sg) : Option (Sg) := gd (inb (rd sg 3 4) 12) (lt (wr sg 5 (Int32.toNatClampNeg (rd sg 3 4)) (rd sg 1 1)) fun sg_8 => lt (wr sg_8 3 4 ((rd sg_8 3 4) + (1 : Int32))) fun sg_9 => some sg_9)
def fX6_add_1  (sg : Sg) : Option (Sg) := (if (rd sg 3 4) < (12 : Int32) then ((lpS (fun t => fX6_add_1_L12 t.1 t.2) 300 ((0 : Int32), sg)).bind fun t => fX6_add_1_E46 t.1 t.2) else some sg)
def fX6_cutOut_L15_J65 (a1 : Int32) (a2 : Int32) (a3 : Int32) (a4 : Int32) (sg : Sg) : Option ((Int32 × Int32 × Sg) ⊕ (Int32 × Int32 × Sg)) := some (.inr (a3, (a4 + 1), sg))
def fX6_cutOut_L15 (a1 : Int32) (a2 : Int32) (a3 : Int32) (a4 : Int32) (sg : Sg) : Option ((Int32 × Int32 × Sg) ⊕ (Int32 × Int32 × Sg)) := gd (inb a2 12) ((if (rd sg 5 (Int32.toNatClampNeg a2)) ≤ a4 then some (.inl (a3, a4, sg)) else gd (inb ((a2 * (6 : Int32)) + a4) 72) (lt ((rd sg 4 (Int32.toNatClampNeg ((a2 * (6 : Int32)) + a4)))) fun a5_3 => (fX0_has a1 a5_3).bind fun r_5 => (if r_5 = 0 then gd (inb ((a2 * (6 : Int32)) + a3) 72) (lt (wr sg 6 (Int32.toNatClampNeg ((a2 * (6 : Int32)) + a3)) a5_3) fun sg_7 => fX6_cutOut_L15_J65 a1 a2 (a3 + 1) a4 sg_7) else fX6_cutOut_L15_J65 a1 a2 a3 a4 sg))))
def fX6_cutOut_L2_E71 (a1 : Int32) (a2 : Int32) (a3 : Int32) (a4 : Int32) (sg : Sg) : Option ((Int32 × Sg) ⊕ (Int32 × Sg)) := gd (inb a2 12) (lt (wr sg 7 (Int32.toNatClampNeg a2) a3) fun sg_14 => some (.inr ((a2 + 1), sg_14)))
def fX6_cutOut_L2 (a1 : Int32) (a2 : Int32) (sg : Sg) : Option ((Int32 × Sg) ⊕ (Int32 × Sg)) := (if (rd sg 3 4) ≤ a2 then some (.inl (a2, sg)) else ((lpS (fun t => fX6_cutOut_L15 a1 a2 t.1 t.2.1 t.2.2) 300 ((0 : Int32), (0 : Int32), sg)).bind fun t => fX6_cutOut_L2_E71 a1 a2 t.1 t.2.1 t.2.2))
def fX6_cutOut_E84 (a1 : Int32) (a2 : Int32) (sg : Sg) : Option (Sg) := some sg
def fX6_cutOut (a1 : Int32) (sg : Sg) : Option (Sg) := ((lpS (fun t => fX6_cutOut_L2 a1 t.1 t.2) 300 ((0 : Int32), sg)).bind fun t => fX6_cutOut_E84 a1 t.1 t.2)
def fX1_clear_L7 (a1 : Int32) (sg : Sg) : Option ((Int32 × Sg) ⊕ (Int32 × Sg)) := (if (8 : Int32) ≤ a1 then some (.inl (a1, sg)) else gd (inb a1 8) (lt (wr sg 9 (Int32.toNatClampNeg a1) (0 : Int32)) fun sg_3 => gd (inb a1 8) (lt (wr sg_3 10 (Int32.toNatClampNeg a1) (0 : Int32)) fun sg_5 => some (.inr ((a1 + 1), sg_5)))))
def fX1_clear_L35 (a1 : Int32) (sg : Sg) : Option ((Int32 × Sg) ⊕ (Int32 × Sg)) := (if (64 : Int32) ≤ a1 then some (.inl (a1, sg)) else gd (inb a1 64) (lt (wr sg 13 (Int32.toNatClampNeg a1) (0 : Int32)) fun sg_10 => some (.inr ((a1 + 1), sg_10))))
def fX1_clear_E54 (a1 : Int32) (sg : Sg) : Option (Sg) := some sg
def fX1_clear_E33 (a1 : Int32) (sg : Sg) : Option (Sg) := ((lpS (fun t => fX1_clear_L35 t.1 t.2) 300 ((0 : Int32), sg)).bind fun t => fX1_clear_E54 t.1 t.2)
def fX1_clear  (sg : Sg) : Option (Sg) := lt (wr sg 8 5 (0 : Int32)) fun sg_1 => ((lpS (fun t => fX1_clear_L7 t.1 t.2) 300 ((0 : Int32), sg_1)).bind fun t => fX1_clear_E33 t.1 t.2)
def fX1_join (a1 : Int32) (a2 : Int32) (sg : Sg) : Option (Sg) := gd (inb a1 8) (gd (inb a1 8) (lt (wr sg 9 (Int32.toNatClampNeg a1) ((rd sg 9 (Int32.toNatClampNeg a1)) ||| ((1 : Int32) <<< (a2 &&& 31)))) fun sg_3 => gd (inb a2 8) (gd (inb a2 8) (lt (wr sg_3 9 (Int32.toNatClampNeg a2) ((rd sg_3 9 (Int32.toNatClampNeg a2)) ||| ((1 : Int32) <<< (a1 &&& 31)))) fun sg_6 => gd (inb ((a1 * (8 : Int32)) + a2) 64) (gd (inb ((a1 * (8 : Int32)) + a2) 64) (lt (wr sg_6 13 (Int32.toNatClampNeg ((a1 * (8 : Int32)) + a2)) ((rd sg_6 13 (Int32.toNatClampNeg ((a1 * (8 : Int32)) + a2))) + (1 : Int32))) fun sg_9 => gd (inb ((a2 * (8 : Int32)) + a1) 64) (gd (inb ((a2 * (8 : Int32)) + a1) 64) (lt (wr sg_9 13 (Int32.toNatClampNeg ((a2 * (8 : Int32)) + a1)) ((rd sg_9 13 (Int32.toNatClampNeg ((a2 * (8 : Int32)) + a1))) + (1 : Int32))) fun sg_12 => some sg_12))))))))
def fX1_readRow_6_L10 (a2 : Int32) (a4 : Int32) (a5 : Int32) (sg : Sg) : Option ((Int32 × Sg) ⊕ (Int32 × Sg)) := (if a4 < a5 then some (.inl (a5, sg)) else gd (inb a5 72) (lt (wr sg 8 5 ((rd sg 8 5) ||| ((1 : Int32) <<< ((rd sg 6 (Int32.toNatClampNeg a5)) &&& 31)))) fun sg_3 => some (.inr ((a5 + 1), sg_3))))
def fX1_readRow_6_L41 (a2 : Int32) (a4 : Int32) (a5 : Int32) (sg : Sg) : Option ((Int32 × Sg) ⊕ (Int32 × Sg)) := (if a4 ≤ a5 then some (.inl (a5, sg)) else gd (inb a5 72) (gd (inb (a5 + (1 : Int32)) 72) ((fX1_join (rd sg 6 (Int32.toNatClampNeg a5)) (rd sg 6 (Int32.toNatClampNeg (a5 + (1 : Int32)))) sg).bind fun sg_10 => some (.inr ((a5 + 1), sg_10)))))
def fX1_readRow_6_L73 (a4 : Int32) (a5 : Int32) (sg : Sg) : Option ((Int32 × Sg) ⊕ (Int32 × Sg)) := (if a4 ≤ a5 then some (.inl (a5, sg)) else gd (inb a5 72) (gd (inb (rd sg 6 (Int32.toNatClampNeg a5)) 8) (gd (inb (a5 - (1 : Int32)) 72) (gd (inb (a5 + (1 : Int32)) 72) (gd (inb (rd sg 6 (Int32.toNatClampNeg a5)) 8) (lt (wr sg 10 (Int32.toNatClampNeg (rd sg 6 (Int32.toNatClampNeg a5))) ((rd sg 10 (Int32.toNatClampNeg (rd sg 6 (Int32.toNatClampNeg a5)))) ||| (((1 : Int32) <<< ((rd sg 6 (Int32.toNatClampNeg (a5 - (1 : Int32)))) &&& 31)) ||| ((1 : Int32) <<< ((rd sg 6 (Int32.toNatClampNeg (a5 + (1 : Int32)))) &&& 31))))) fun sg_19 => some (.inr ((a5 + 1), sg_19))))))))
def fX1_readRow_6_E115 (a4 : Int32) (a5 : Int32) (sg : Sg) : Option (Sg) := some sg
def fX1_readRow_6_E68 (a2 : Int32) (a4 : Int32) (a5 : Int32) (sg : Sg) : Option (Sg) := ((lpS (fun t => fX1_readRow_6_L73 a4 t.1 t.2) 300 ((a2 + (1 : Int32)), sg)).bind fun t => fX1_readRow_6_E115 a4 t.1 t.2)
def fX1_readRow_6_E38 (a2 : Int32) (a4 : Int32) (a5 : Int32) (sg : Sg) : Option (Sg) := ((lpS (fun t => fX1_readRow_6_L41 a2 a4 t.1 t.2) 300 (a2, sg)).bind fun t => fX1_readRow_6_E68 a2 a4 t.1 t.2)
def fX1_readRow_6 (a2 : Int32) (a3 : Int32) (sg : Sg) : Option (Sg) := lt (((a2 + a3) - (1 : Int32))) fun a4_1 => ((lpS (fun t => fX1_readRow_6_L10 a2 a4_1 t.1 t.2) 300 (a2, sg)).bind fun t => fX1_readRow_6_E38 a2 a4_1 t.1 t.2)
def fJ6_bitCount_0f7a4 (a0 : Int32) : Option (Int32) := lt ((a0 - (((Int32.toUInt32 a0 >>> (Int32.toUInt32 (1 : Int32) &&& Int32.toUInt32 31)).toInt32) &&& (1431655765 : Int32)))) fun a0_1 => lt (((a0_1 &&& (858993459 : Int32)) + (((Int32.toUInt32 a0_1 >>> (Int32.toUInt32 (2 : Int32) &&& Int32.toUInt32 31)).toInt32) &&& (858993459 : Int32)))) fun a0_2 => lt (((a0_2 + ((Int32.toUInt32 a0_2 >>> (Int32.toUInt32 (4 : Int32) &&& Int32.toUInt32 31)).toInt32)) &&& (252645135 : Int32))) fun a0_3 => lt ((a0_3 + ((Int32.toUInt32 a0_3 >>> (Int32.toUInt32 (8 : Int32) &&& Int32.toUInt32 31)).toInt32))) fun a0_4 => lt ((a0_4 + ((Int32.toUInt32 a0_4 >>> (Int32.toUInt32 (16 : Int32) &&& Int32.toUInt32 31)).toInt32))) fun a0_5 => some (a0_5 &&& (63 : Int32))
def fX1_read_3_L6 (a2 : Int32) (sg : Sg) : Option ((Int32 × Sg) ⊕ (Int32 × Sg)) := (if (rd sg 3 4) ≤ a2 then some (.inl (a2, sg)) else gd (inb a2 12) ((fX1_readRow_6 (a2 * (6 : Int32)) (rd sg 7 (Int32.toNatClampNeg a2)) sg).bind fun sg_5 => some (.inr ((a2 + 1), sg_5))))
def fX1_read_3_L40 (a2 : Int32) (sg : Sg) : Option ((Int32 × Sg) ⊕ (Int32 × Sg)) := (if (8 : Int32) ≤ a2 then some (.inl (a2, sg)) else gd (inb a2 8) ((fJ6_bitCount_0f7a4 (rd sg 9 (Int32.toNatClampNeg a2))).bind fun r_11 => gd (inb a2 8) (lt (wr sg 11 (Int32.toNatClampNeg a2) r_11) fun sg_13 => gd (inb a2 8) ((fJ6_bitCount_0f7a4 (rd sg_13 10 (Int32.toNatClampNeg a2))).bind fun r_16 => gd (inb a2 8) (lt (wr sg_13 12 (Int32.toNatClampNeg a2) r_16) fun sg_18 => some (.inr ((a2 + 1), sg_18)))))))
def fX1_read_3_E82 (a2 : Int32) (sg : Sg) : Option (Sg) := some sg
def fX1_read_3_E38 (a2 : Int32) (sg : Sg) : Option (Sg) := ((lpS (fun t => fX1_read_3_L40 t.1 t.2) 300 ((0 : Int32), sg)).bind fun t => fX1_read_3_E82 t.1 t.2)
def fX1_read_3  (sg : Sg) : Option (Sg) := (fX1_clear sg).bind fun sg_2 => ((lpS (fun t => fX1_read_3_L6 t.1 t.2) 300 ((0 : Int32), sg_2)).bind fun t => fX1_read_3_E38 t.1 t.2)
def fX3_isAhead_8_J82 (s0 : Int32) (sg : Sg) : Option (Int32) := gd (zb s0) (some s0)
def fX3_isAhead_8_J71 (s0 : Int32) (sg : Sg) : Option (Int32) := gd (zb s0) (some s0)
def fX3_isAhead_8_J35 (s0 : Int32) (sg : Sg) : Option (Int32) := gd (zb s0) (some s0)
def fX3_isAhead_8 (a1 : Int32) (a2 : Int32) (sg : Sg) : Option (Int32) := gd (inb a1 8) (gd (inb a2 8) ((if (rd sg 12 (Int32.toNatClampNeg a1)) = (rd sg 12 (Int32.toNatClampNeg a2)) then gd (inb a1 8) (gd (inb a2 8) ((if (rd sg 11 (Int32.toNatClampNeg a1)) = (rd sg 11 (Int32.toNatClampNeg a2)) then (if a2 ≤ a1 then fX3_isAhead_8_J82 (0 : Int32) sg else fX3_isAhead_8_J82 (1 : Int32) sg) else gd (inb a1 8) (gd (inb a2 8) ((if (rd sg 11 (Int32.toNatClampNeg a1)) ≤ (rd sg 11 (Int32.toNatClampNeg a2)) then fX3_isAhead_8_J71 (0 : Int32) sg else fX3_isAhead_8_J71 (1 : Int32) sg)))))) else gd (inb a1 8) (gd (inb a2 8) ((if (rd sg 12 (Int32.toNatClampNeg a1)) ≤ (rd sg 12 (Int32.toNatClampNeg a2)) then fX3_isAhead_8_J35 (0 : Int32) sg else fX3_isAhead_8_J35 (1 : Int32) sg))))))
def fX3_countAhead_8_L4_J33 (a1 : Int32) (a2 : Int32) (a3 : Int32) (sg : Sg) : Option ((Int32 × Int32) ⊕ (Int32 × Int32)) := some (.inr (a2, (a3 + 1)))
def fX3_countAhead_8_L4 (a1 : Int32) (sg : Sg) (a2 : Int32) (a3 : Int32) : Option ((Int32 × Int32) ⊕ (Int32 × Int32)) := (if (8 : Int32) ≤ a3 then some (.inl (a2, a3)) else (fX0_has (rd sg 8 5) a3).bind fun r_2 => (if r_2 = 0 then fX3_countAhead_8_L4_J33 a1 a2 a3 sg else (fX3_isAhead_8 a3 a1 sg).bind fun r_4 => (if r_4 = 0 then fX3_countAhead_8_L4_J33 a1 a2 a3 sg else fX3_countAhead_8_L4_J33 a1 (a2 + 1) a3 sg)))
def fX3_countAhead_8_E39 (a1 : Int32) (a2 : Int32) (a3 : Int32) (sg : Sg) : Option (Int32) := some a2
def fX3_countAhead_8 (a1 : Int32) (sg : Sg) : Option (Int32) := ((lpS (fun t => fX3_countAhead_8_L4 a1 sg t.1 t.2) 300 ((0 : Int32), (0 : Int32))).bind fun t => fX3_countAhead_8_E39 a1 t.1 t.2 sg)
def fX3_isAllLinked_8_L2_J39 (a1 : Int32) (a2 : Int32) (sg : Sg) : Option ((Int32) ⊕ ((Int32) ⊕ (Int32))) := some (.inr (.inr (a2 + 1)))
def fX3_isAllLinked_8_L2 (a1 : Int32) (sg : Sg) (a2 : Int32) : Option ((Int32) ⊕ ((Int32) ⊕ (Int32))) := (if (8 : Int32) ≤ a2 then some (.inl a2) else lt ((a1 &&& (((1 : Int32) <<< (a2 &&& 31)) ^^^ (-1 : Int32)))) fun a3_1 => (fX0_has a1 a2).bind fun r_3 => (if r_3 = 0 then fX3_isAllLinked_8_L2_J39 a1 a2 sg else gd (inb a2 8) ((if (a3_1 &&& ((rd sg 9 (Int32.toNatClampNeg a2)) ^^^ (-1 : Int32))) = 0 then fX3_isAllLinked_8_L2_J39 a1 a2 sg else some (.inr (.inl (0 : Int32)))))))
def fX3_isAllLinked_8_E45 (a1 : Int32) (a2 : Int32) (sg : Sg) : Option (Int32) := some (1 : Int32)
def fX3_isAllLinked_8 (a1 : Int32) (sg : Sg) : Option (Int32) := ((lpO (fun t => fX3_isAllLinked_8_L2 a1 sg t) 300 (0 : Int32)).bind fun u => onE u (fun t => fX3_isAllLinked_8_E45 a1 t sg) (fun r => some r))
def fX3_degreeSum_8_L4_J29 (a1 : Int32) (a3 : Int32) (s0 : Int32) (s1 : Int32) (sg : Sg) : Option ((Int32 × Int32) ⊕ (Int32 × Int32)) := some (.inr ((s1 + s0), (a3 + 1)))
def fX3_degreeSum_8_L4 (a1 : Int32) (sg : Sg) (a2 : Int32) (a3 : Int32) : Option ((Int32 × Int32) ⊕ (Int32 × Int32)) := (if (8 : Int32) ≤ a3 then some (.inl (a2, a3)) else (fX0_has a1 a3).bind fun r_2 => (if r_2 = 0 then fX3_degreeSum_8_L4_J29 a1 a3 (0 : Int32) a2 sg else gd (inb a3 8) (fX3_degreeSum_8_L4_J29 a1 a3 (rd sg 11 (Int32.toNatClampNeg a3)) a2 sg)))
def fX3_degreeSum_8_E37 (a1 : Int32) (a2 : Int32) (a3 : Int32) (sg : Sg) : Option (Int32) := some a2
def fX3_degreeSum_8 (a1 : Int32) (sg : Sg) : Option (Int32) := ((lpS (fun t => fX3_degreeSum_8_L4 a1 sg t.1 t.2) 300 ((0 : Int32), (0 : Int32))).bind fun t => fX3_degreeSum_8_E37 a1 t.1 t.2 sg)
def fX3_isBetter_8_J44 (s0 : Int32) (sg : Sg) : Option (Int32) := gd (zb s0) (some s0)
def fX3_isBetter_8 (a1 : Int32) (a2 : Int32) (sg : Sg) : Option (Int32) := (fJ6_bitCount_0f7a4 a1).bind fun r_2 => (fJ6_bitCount_0f7a4 a2).bind fun r_4 => (if (r_2 - r_4) = 0 then (fX3_degreeSum_8 a1 sg).bind fun r_6 => (fX3_degreeSum_8 a2 sg).bind fun r_8 => (if r_6 ≤ r_8 then fX3_isBetter_8_J44 (0 : Int32) sg else fX3_isBetter_8_J44 (1 : Int32) sg) else (if (r_2 - r_4) ≤ 0 then fX3_isBetter_8_J44 (0 : Int32) sg else fX3_isBetter_8_J44 (1 : Int32) sg))
def fX3_bestSet_8_L6_J40 (a1 : Int32) (a2 : Int32) (a3 : Int32) (sg : Sg) : Option ((Int32 × Int32) ⊕ (Int32 × Int32)) := some (.inr (a2, (a3 + 1)))
def fX3_bestSet_8_L6 (a1 : Int32) (sg : Sg) (a2 : Int32) (a3 : Int32) : Option ((Int32 × Int32) ⊕ (Int32 × Int32)) := (if (256 : Int32) ≤ a3 then some (.inl (a2, a3)) else (fX0_has a3 a1).bind fun r_3 => (if r_3 = 0 then fX3_bestSet_8_L6_J40 a1 a2 a3 sg else (fX3_isAllLinked_8 a3 sg).bind fun r_5 => (if r_5 = 0 then fX3_bestSet_8_L6_J40 a1 a2 a3 sg else (fX3_isBetter_8 a3 a2 sg).bind fun r_7 => (if r_7 = 0 then fX3_bestSet_8_L6_J40 a1 a2 a3 sg else fX3_bestSet_8_L6_J40 a1 a3 a3 sg))))
def fX3_bestSet_8_E46 (a1 : Int32) (a2 : Int32) (a3 : Int32) (sg : Sg) : Option (Int32) := some a2
def fX3_bestSet_8 (a1 : Int32) (sg : Sg) : Option (Int32) := lt (((1 : Int32) <<< (a1 &&& 31))) fun a2_1 => ((lpS (fun t => fX3_bestSet_8_L6 a1 sg t.1 t.2) 300 (a2_1, (1 : Int32))).bind fun t => fX3_bestSet_8_E46 a1 t.1 t.2 sg)
def fX3_read_8_J95 (s0 : Int32) (sg : Sg) : Option (Sg) := lt (wr sg 14 3 s0) fun sg_23 => some sg_23
def fX3_read_8_L13_J67 (a2 : Int32) (sg : Sg) : Option ((Int32 × Sg) ⊕ (Int32 × Sg)) := some (.inr ((a2 + 1), sg))
def fX3_read_8_L13_J44 (a2 : Int32) (s0 : Int32) (s1 : Int32) (sg : Sg) : Option ((Int32 × Sg) ⊕ (Int32 × Sg)) := gd (inb s1 8) (lt (wr sg 16 (Int32.toNatClampNeg s1) s0) fun sg_11 => gd (inb a2 8) ((if (rd sg_11 16 (Int32.toNatClampNeg a2)) = (-1 : Int32) then fX3_read_8_L13_J67 a2 sg_11 else gd (inb a2 8) (gd (inb (rd sg_11 16 (Int32.toNatClampNeg a2)) 8) (lt (wr sg_11 15 (Int32.toNatClampNeg (rd sg_11 16 (Int32.toNatClampNeg a2))) a2) fun sg_15 => fX3_read_8_L13_J67 a2 sg_15)))))
def fX3_read_8_L13 (a2 : Int32) (sg : Sg) : Option ((Int32 × Sg) ⊕ (Int32 × Sg)) := (if (8 : Int32) ≤ a2 then some (.inl (a2, sg)) else (fX0_has (rd sg 8 5) a2).bind fun r_5 => (if r_5 = 0 then fX3_read_8_L13_J44 a2 (-1 : Int32) a2 sg else (fX3_countAhead_8 a2 sg).bind fun r_7 => fX3_read_8_L13_J44 a2 r_7 a2 sg))
def fX3_read_8_E73 (a2 : Int32) (sg : Sg) : Option (Sg) := (if (rd sg 14 2) = 0 then fX3_read_8_J95 (0 : Int32) sg else gd (inb (0 : Int32) 8) ((fX3_bestSet_8 (rd sg 15 (Int32.toNatClampNeg (0 : Int32))) sg).bind fun r_21 => fX3_read_8_J95 r_21 sg))
def fX3_read_8  (sg : Sg) : Option (Sg) := (fJ6_bitCount_0f7a4 (rd sg 8 5)).bind fun r_2 => lt (wr sg 14 2 r_2) fun sg_3 => ((lpS (fun t => fX3_read_8_L13 t.1 t.2) 300 ((0 : Int32), sg_3)).bind fun t => fX3_read_8_E73 t.1 t.2)
def fX3_firstOf_6_L6_J47 (a2 : Int32) (a3 : Int32) (a4 : Int32) (a5 : Int32) (sg : Sg) : Option ((Int32 × Int32) ⊕ (Int32 × Int32)) := some (.inr (a4, (a5 + 1)))
def fX3_firstOf_6_L6_J43 (a2 : Int32) (a3 : Int32) (a5 : Int32) (sg : Sg) : Option ((Int32 × Int32) ⊕ (Int32 × Int32)) := fX3_firstOf_6_L6_J47 a2 a3 a5 a5 sg
def fX3_firstOf_6_L6 (a2 : Int32) (a3 : Int32) (sg : Sg) (a4 : Int32) (a5 : Int32) : Option ((Int32 × Int32) ⊕ (Int32 × Int32)) := (if a3 ≤ a5 then some (.inl (a4, a5)) else (if a4 = (-1 : Int32) then fX3_firstOf_6_L6_J43 a2 a3 a5 sg else gd (inb (a2 + a5) 72) (gd (inb (rd sg 6 (Int32.toNatClampNeg (a2 + a5))) 8) (gd (inb (a2 + a4) 72) (gd (inb (rd sg 6 (Int32.toNatClampNeg (a2 + a4))) 8) ((if (rd sg 16 (Int32.toNatClampNeg (rd sg 6 (Int32.toNatClampNeg (a2 + a4))))) ≤ (rd sg 16 (Int32.toNatClampNeg (rd sg 6 (Int32.toNatClampNeg (a2 + a5))))) then fX3_firstOf_6_L6_J47 a2 a3 a4 a5 sg else fX3_firstOf_6_L6_J43 a2 a3 a5 sg)))))))
def fX3_firstOf_6_E53 (a2 : Int32) (a3 : Int32) (a4 : Int32) (a5 : Int32) (sg : Sg) : Option (Int32) := some a4
def fX3_firstOf_6 (a2 : Int32) (a3 : Int32) (sg : Sg) : Option (Int32) := ((lpS (fun t => fX3_firstOf_6_L6 a2 a3 sg t.1 t.2) 300 ((-1 : Int32), (0 : Int32))).bind fun t => fX3_firstOf_6_E53 a2 a3 t.1 t.2 sg)
def fX2_vote_6_14_L13_J112 (a2 : Int32) (a3 : Int32) (a5 : Int32) (a6 : Int32) (sg : Sg) : Option ((Int32 × Sg) ⊕ (Int32 × Sg)) := some (.inr ((a6 + 1), sg))
def fX2_vote_6_14_L13_J68 (a2 : Int32) (a3 : Int32) (a5 : Int32) (a6 : Int32) (a7 : Int32) (a8 : Int32) (sg : Sg) : Option ((Int32 × Sg) ⊕ (Int32 × Sg)) := (if a5 ≤ a6 then gd (inb ((a8 * (8 : Int32)) + a7) 64) (gd (inb ((a8 * (8 : Int32)) + a7) 64) (lt (wr sg 18 (Int32.toNatClampNeg ((a8 * (8 : Int32)) + a7)) ((rd sg 18 (Int32.toNatClampNeg ((a8 * (8 : Int32)) + a7))) + (1 : Int32))) fun sg_16 => fX2_vote_6_14_L13_J112 a2 a3 a5 a6 sg_16)) else gd (inb ((a7 * (8 : Int32)) + a8) 64) (gd (inb ((a7 * (8 : Int32)) + a8) 64) (lt (wr sg 18 (Int32.toNatClampNeg ((a7 * (8 : Int32)) + a8)) ((rd sg 18 (Int32.toNatClampNeg ((a7 * (8 : Int32)) + a8))) + (1 : Int32))) fun sg_19 => fX2_vote_6_14_L13_J112 a2 a3 a5 a6 sg_19)))
def fX2_vote_6_14_L13 (a2 : Int32) (a3 : Int32) (a5 : Int32) (a6 : Int32) (sg : Sg) : Option ((Int32 × Sg) ⊕ (Int32 × Sg)) := (if a3 ≤ (a6 + (1 : Int32)) then some (.inl (a6, sg)) else gd (inb (a2 + a6) 72) (lt ((rd sg 6 (Int32.toNatClampNeg (a2 + a6)))) fun a7_4 => gd (inb ((a2 + a6) + (1 : Int32)) 72) (lt ((rd sg 6 (Int32.toNatClampNeg ((a2 + a6) + (1 : Int32))))) fun a8_6 => (fX0_has (rd sg 14 3) a7_4).bind fun r_8 => (if r_8 = 0 then fX2_vote_6_14_L13_J68 a2 a3 a5 a6 a7_4 a8_6 sg else (fX0_has (rd sg 14 3) a8_6).bind fun r_10 => (if r_10 = 0 then fX2_vote_6_14_L13_J68 a2 a3 a5 a6 a7_4 a8_6 sg else fX2_vote_6_14_L13_J112 a2 a3 a5 a6 sg)))))
def fX2_vote_6_14_E118 (a2 : Int32) (a3 : Int32) (a5 : Int32) (a6 : Int32) (sg : Sg) : Option (Sg) := some sg
def fX2_vote_6_14 (a2 : Int32) (a3 : Int32) (sg : Sg) : Option (Sg) := (fX3_firstOf_6 a2 a3 sg).bind fun r_2 => ((lpS (fun t => fX2_vote_6_14_L13 a2 a3 r_2 t.1 t.2) 300 ((0 : Int32), sg)).bind fun t => fX2_vote_6_14_E118 a2 a3 r_2 t.1 t.2)
def fX2_nameOf_J60 (s0 : Int32) (sg : Sg) : Option (Int32) := some s0
def fX2_nameOf_J18 (a1 : Int32) (a2 : Int32) (sg : Sg) : Option (Int32) := gd (inb ((a1 * (8 : Int32)) + a2) 64) (gd (inb ((a2 * (8 : Int32)) + a1) 64) (lt (((rd sg 18 (Int32.toNatClampNeg ((a1 * (8 : Int32)) + a2))) - (rd sg 18 (Int32.toNatClampNeg ((a2 * (8 : Int32)) + a1))))) fun a4_9 => (if a4_9 = 0 then some (4 : Int32) else (if a4_9 ≤ 0 then fX2_nameOf_J60 (2 : Int32) sg else fX2_nameOf_J60 (1 : Int32) sg))))
def fX2_nameOf (a1 : Int32) (a2 : Int32) (a3 : Int32) (sg : Sg) : Option (Int32) := (fX0_has a3 a1).bind fun r_2 => (if r_2 = 0 then fX2_nameOf_J18 a1 a2 sg else (fX0_has a3 a2).bind fun r_4 => (if r_4 = 0 then fX2_nameOf_J18 a1 a2 sg else some (3 : Int32)))
def fX2_read_3_8_14_L3 (a4 : Int32) (sg : Sg) : Option ((Int32 × Sg) ⊕ (Int32 × Sg)) := (if (64 : Int32) ≤ a4 then some (.inl (a4, sg)) else gd (inb a4 64) (lt (wr sg 18 (Int32.toNatClampNeg a4) (0 : Int32)) fun sg_2 => some (.inr ((a4 + 1), sg_2))))
def fX2_read_3_8_14_L27 (a4 : Int32) (sg : Sg) : Option ((Int32 × Sg) ⊕ (Int32 × Sg)) := (if (rd sg 3 4) ≤ a4 then some (.inl (a4, sg)) else gd (inb a4 12) ((fX2_vote_6_14 (a4 * (6 : Int32)) (rd sg 7 (Int32.toNatClampNeg a4)) sg).bind fun sg_8 => some (.inr ((a4 + 1), sg_8))))
def fX2_read_3_8_14_L84_J161 (a4 : Int32) (a5 : Int32) (s0 : Int32) (s1 : Int32) (s2 : Int32) (sg : Sg) : Option ((Int32 × Sg) ⊕ (Int32 × Sg)) := gd (inb s2 8) (lt (wr sg 20 (Int32.toNatClampNeg s2) (s1 ||| s0)) fun sg_26 => some (.inr ((a5 + 1), sg_26)))
def fX2_read_3_8_14_L84_J122 (a4 : Int32) (a5 : Int32) (s0 : Int32) (sg : Sg) : Option ((Int32 × Sg) ⊕ (Int32 × Sg)) := gd (inb ((a4 * (8 : Int32)) + a5) 64) (lt (wr sg 19 (Int32.toNatClampNeg ((a4 * (8 : Int32)) + a5)) s0) fun sg_22 => gd (inb a4 8) ((if s0 = (2 : Int32) then fX2_read_3_8_14_L84_J161 a4 a5 ((1 : Int32) <<< (a5 &&& 31)) (rd sg_22 20 (Int32.toNatClampNeg a4)) a4 sg_22 else fX2_read_3_8_14_L84_J161 a4 a5 (0 : Int32) (rd sg_22 20 (Int32.toNatClampNeg a4)) a4 sg_22)))
def fX2_read_3_8_14_L84 (a4 : Int32) (a5 : Int32) (sg : Sg) : Option ((Int32 × Sg) ⊕ (Int32 × Sg)) := (if (8 : Int32) ≤ a5 then some (.inl (a5, sg)) else gd (inb a4 8) ((fX0_has (rd sg 9 (Int32.toNatClampNeg a4)) a5).bind fun r_16 => (if r_16 = 0 then fX2_read_3_8_14_L84_J122 a4 a5 (0 : Int32) sg else (fX2_nameOf a4 a5 (rd sg 14 3) sg).bind fun r_18 => fX2_read_3_8_14_L84_J122 a4 a5 r_18 sg)))
def fX2_read_3_8_14_L66_E169 (a4 : Int32) (a5 : Int32) (sg : Sg) : Option ((Int32 × Sg) ⊕ (Int32 × Sg)) := some (.inr ((a4 + 1), sg))
def fX2_read_3_8_14_L66 (a4 : Int32) (sg : Sg) : Option ((Int32 × Sg) ⊕ (Int32 × Sg)) := (if (8 : Int32) ≤ a4 then some (.inl (a4, sg)) else gd (inb a4 8) (lt (wr sg 20 (Int32.toNatClampNeg a4) (0 : Int32)) fun sg_13 => ((lpS (fun t => fX2_read_3_8_14_L84 a4 t.1 t.2) 300 ((0 : Int32), sg_13)).bind fun t => fX2_read_3_8_14_L66_E169 a4 t.1 t.2)))
def fX2_read_3_8_14_E175 (a4 : Int32) (sg : Sg) : Option (Sg) := some sg
def fX2_read_3_8_14_E63 (a4 : Int32) (sg : Sg) : Option (Sg) := ((lpS (fun t => fX2_read_3_8_14_L66 t.1 t.2) 300 ((0 : Int32), sg)).bind fun t => fX2_read_3_8_14_E175 t.1 t.2)
def fX2_read_3_8_14_E24 (a4 : Int32) (sg : Sg) : Option (Sg) := ((lpS (fun t => fX2_read_3_8_14_L27 t.1 t.2) 300 ((0 : Int32), sg)).bind fun t => fX2_read_3_8_14_E63 t.1 t.2)
def fX2_read_3_8_14  (sg : Sg) : Option (Sg) := ((lpS (fun t => fX2_read_3_8_14_L3 t.1 t.2) 300 ((0 : Int32), sg)).bind fun t => fX2_read_3_8_14_E24 t.1 t.2)
def fX5_settle_L30_J62 (a1 : Int32) (a2 : Int32) (a3 : Int32) (a4 : Int32) (a5 : Int32) (sg : Sg) : Option ((Int32 × Int32 × Sg) ⊕ (Int32 × Int32 × Sg)) := some (.inr (a2, (a5 + 1), sg))
def fX5_settle_L30 (a1 : Int32) (a3 : Int32) (a4 : Int32) (a2 : Int32) (a5 : Int32) (sg : Sg) : Option ((Int32 × Int32 × Sg) ⊕ (Int32 × Int32 × Sg)) := (if (8 : Int32) ≤ a5 then some (.inl (a2, a5, sg)) else (fX0_has a4 a5).bind fun r_5 => (if r_5 = 0 then fX5_settle_L30_J62 a1 a2 a3 a4 a5 sg else gd (inb ((a3 * (8 : Int32)) + a5) 128) (lt (wr sg 22 (Int32.toNatClampNeg ((a3 * (8 : Int32)) + a5)) a1) fun sg_7 => fX5_settle_L30_J62 a1 (1 : Int32) a3 a4 a5 sg_7)))
def fX5_settle_L4_E68 (a1 : Int32) (a3 : Int32) (a4 : Int32) (a2 : Int32) (a5 : Int32) (sg : Sg) : Option ((Int32 × Int32 × Sg) ⊕ (Int32 × Int32 × Sg)) := gd (inb a3 16) (gd (inb a3 16) (lt (wr sg 23 (Int32.toNatClampNeg a3) (rd sg 24 (Int32.toNatClampNeg a3))) fun sg_15 => some (.inr (a2, (a3 + 1), sg_15))))
def fX5_settle_L4 (a1 : Int32) (a2 : Int32) (a3 : Int32) (sg : Sg) : Option ((Int32 × Int32 × Sg) ⊕ (Int32 × Int32 × Sg)) := (if (16 : Int32) ≤ a3 then some (.inl (a2, a3, sg)) else gd (inb a3 16) (gd (inb a3 16) (lt (((rd sg 24 (Int32.toNatClampNeg a3)) &&& ((rd sg 23 (Int32.toNatClampNeg a3)) ^^^ (-1 : Int32)))) fun a4_3 => ((lpS (fun t => fX5_settle_L30 a1 a3 a4_3 t.1 t.2.1 t.2.2) 300 (a2, (0 : Int32), sg)).bind fun t => fX5_settle_L4_E68 a1 a3 a4_3 t.1 t.2.1 t.2.2))))
def fX5_settle_E86 (a1 : Int32) (a2 : Int32) (a3 : Int32) (sg : Sg) : Option (Int32 × Sg) := gd (zb a2) (some (a2, sg))
def fX5_settle (a1 : Int32) (sg : Sg) : Option (Int32 × Sg) := ((lpS (fun t => fX5_settle_L4 a1 t.1 t.2.1 t.2.2) 300 ((0 : Int32), (0 : Int32), sg)).bind fun t => fX5_settle_E86 a1 t.1 t.2.1 t.2.2)
def fX2_after_J53 (s0 : Int32) : Option (Int32) := some s0
def fX2_after_J41 (s0 : Int32) : Option (Int32) := some s0
def fX2_after (a0 : Int32) (a1 : Int32) : Option (Int32) := (if a1 = (1 : Int32) then (if a0 = 0 then fX2_after_J41 (0 : Int32) else fX2_after_J41 (-1 : Int32)) else if a1 = (2 : Int32) then some (1 : Int32) else if a1 = (3 : Int32) then (if a0 = 0 then fX2_after_J53 (1 : Int32) else fX2_after_J53 (-1 : Int32)) else if a1 = (4 : Int32) then some a0 else some (-1 : Int32))
def fX5_reachedByOneMore_17_L5_J58 (a2 : Int32) (a3 : Int32) (a4 : Int32) (sg : Sg) : Option ((Int32 × Int32) ⊕ (Int32 × Int32)) := some (.inr (a3, (a4 + 1)))
def fX5_reachedByOneMore_17_L5 (a2 : Int32) (sg : Sg) (a3 : Int32) (a4 : Int32) : Option ((Int32 × Int32) ⊕ (Int32 × Int32)) := (if (8 : Int32) ≤ a4 then some (.inl (a3, a4)) else gd (inb (((a2 - a2 / (8 : Int32) * (8 : Int32)) * (8 : Int32)) + a4) 64) ((fX2_after (a2 / (8 : Int32)) (rd sg 19 (Int32.toNatClampNeg (((a2 - a2 / (8 : Int32) * (8 : Int32)) * (8 : Int32)) + a4)))).bind fun r_3 => (if r_3 = (-1 : Int32) then fX5_reachedByOneMore_17_L5_J58 a2 a3 a4 sg else gd (inb ((r_3 * (8 : Int32)) + a4) 16) (lt ((a3 ||| (rd sg 23 (Int32.toNatClampNeg ((r_3 * (8 : Int32)) + a4))))) fun a3_5 => fX5_reachedByOneMore_17_L5_J58 a2 a3_5 a4 sg))))
def fX5_reachedByOneMore_17_E64 (a2 : Int32) (a3 : Int32) (a4 : Int32) (sg : Sg) : Option (Int32) := some a3
def fX5_reachedByOneMore_17 (a2 : Int32) (sg : Sg) : Option (Int32) := ((lpS (fun t => fX5_reachedByOneMore_17_L5 a2 sg t.1 t.2) 300 ((0 : Int32), (0 : Int32))).bind fun t => fX5_reachedByOneMore_17_E64 a2 t.1 t.2 sg)
def fX5_read_17_L2 (a2 : Int32) (a3 : Int32) (sg : Sg) : Option ((Int32 × Sg) ⊕ (Int32 × Sg)) := (if (128 : Int32) ≤ a3 then some (.inl (a3, sg)) else gd (inb a3 128) (lt (wr sg 22 (Int32.toNatClampNeg a3) (-1 : Int32)) fun sg_2 => some (.inr ((a3 + 1), sg_2))))
def fX5_read_17_L24 (a2 : Int32) (a3 : Int32) (sg : Sg) : Option ((Int32 × Sg) ⊕ (Int32 × Sg)) := (if (16 : Int32) ≤ a3 then some (.inl (a3, sg)) else gd (inb a3 16) (lt (wr sg 23 (Int32.toNatClampNeg a3) (0 : Int32)) fun sg_7 => gd (inb a3 16) (lt (wr sg_7 24 (Int32.toNatClampNeg a3) (a2 &&& ((1 : Int32) <<< ((a3 - a3 / (8 : Int32) * (8 : Int32)) &&& 31)))) fun sg_9 => some (.inr ((a3 + 1), sg_9)))))
def fX5_read_17_L80 (a4 : Int32) (a5 : Int32) (sg : Sg) : Option ((Int32 × Sg) ⊕ (Int32 × Sg)) := (if (16 : Int32) ≤ a5 then some (.inl (a5, sg)) else gd (inb a5 16) ((fX5_reachedByOneMore_17 a5 sg).bind fun r_19 => gd (inb a5 16) (lt (wr sg 24 (Int32.toNatClampNeg a5) ((rd sg 23 (Int32.toNatClampNeg a5)) ||| r_19)) fun sg_21 => some (.inr ((a5 + 1), sg_21)))))
def fX5_read_17_L66_E115 (a4 : Int32) (a5 : Int32) (sg : Sg) : Option ((Int32 × Int32 × Sg) ⊕ (Int32 × Int32 × Sg)) := (fX5_settle a4 sg).bind fun p_28 => lt p_28.1 fun r_26 => lt p_28.2 fun sg_27 => some (.inr (r_26, (a4 + 1), sg_27))
def fX5_read_17_L66 (a3 : Int32) (a4 : Int32) (sg : Sg) : Option ((Int32 × Int32 × Sg) ⊕ (Int32 × Int32 × Sg)) := (if a3 = 0 then some (.inl (a3, a4, sg)) else (if (16 : Int32) ≤ a4 then some (.inl (a3, a4, sg)) else ((lpS (fun t => fX5_read_17_L80 a4 t.1 t.2) 300 ((0 : Int32), sg)).bind fun t => fX5_read_17_L66_E115 a4 t.1 t.2)))
def fX5_read_17_E128 (a3 : Int32) (a4 : Int32) (sg : Sg) : Option (Sg) := some sg
def fX5_read_17_E57 (a2 : Int32) (a3 : Int32) (sg : Sg) : Option (Sg) := (fX5_settle (0 : Int32) sg).bind fun p_16 => lt p_16.1 fun r_14 => lt p_16.2 fun sg_15 => ((lpS (fun t => fX5_read_17_L66 t.1 t.2.1 t.2.2) 300 (r_14, (1 : Int32), sg_15)).bind fun t => fX5_read_17_E128 t.1 t.2.1 t.2.2)
def fX5_read_17_E22 (a2 : Int32) (a3 : Int32) (sg : Sg) : Option (Sg) := ((lpS (fun t => fX5_read_17_L24 a2 t.1 t.2) 300 ((0 : Int32), sg)).bind fun t => fX5_read_17_E57 a2 t.1 t.2)
def fX5_read_17 (a2 : Int32) (sg : Sg) : Option (Sg) := ((lpS (fun t => fX5_read_17_L2 a2 t.1 t.2) 300 ((0 : Int32), sg)).bind fun t => fX5_read_17_E22 a2 t.1 t.2)
def fX7_refresh  (sg : Sg) : Option (Sg) := (fX6_cutOut (rd sg 0 7) sg).bind fun sg_2 => (fX1_read_3 sg_2).bind fun sg_4 => (fX3_read_8 sg_4).bind fun sg_6 => (fX2_read_3_8_14 sg_6).bind fun sg_8 => (fX5_read_17 (rd sg_8 8 5) sg_8).bind fun sg_10 => some sg_10
def fX7_way  (sg : Sg) : Option (Int32 × Sg) := (fX4_isWay sg).bind fun r_2 => (if r_2 = 0 then some ((-1003 : Int32), sg) else (if (rd sg 3 4) < (12 : Int32) then (fX6_add_1 sg).bind fun sg_4 => lt (wr sg_4 1 1 (0 : Int32)) fun sg_5 => lt (wr sg_5 0 8 ((rd sg_5 0 8) + (1 : Int32))) fun sg_6 => (fX7_refresh sg_6).bind fun sg_8 => some (((rd sg_8 3 4) - (1 : Int32)), sg_8) else some ((-1004 : Int32), sg)))
def fX2_firstValley_2_L6 (a2 : Int32) (a3 : Int32) (sg : Sg) (a4 : Int32) (a5 : Int32) : Option ((Int32 × Int32) ⊕ ((Int32) ⊕ (Int32 × Int32))) := (if a3 ≤ (a5 + (1 : Int32)) then some (.inl (a4, a5)) else gd (inb (a2 + a5) 6) (gd (inb ((a2 + a5) + (1 : Int32)) 6) (lt ((((rd sg 2 (Int32.toNatClampNeg (a2 + a5))) * (8 : Int32)) + (rd sg 2 (Int32.toNatClampNeg ((a2 + a5) + (1 : Int32)))))) fun a6_3 => gd (inb a6_3 64) ((fX2_after a4 (rd sg 19 (Int32.toNatClampNeg a6_3))).bind fun r_6 => (if r_6 = (-1 : Int32) then some (.inr (.inl a5)) else some (.inr (.inr (r_6, (a5 + 1)))))))))
def fX2_firstValley_2_E63 (a2 : Int32) (a3 : Int32) (a4 : Int32) (a5 : Int32) (sg : Sg) : Option (Int32) := some (-1 : Int32)
def fX2_firstValley_2 (a2 : Int32) (a3 : Int32) (sg : Sg) : Option (Int32) := ((lpO (fun t => fX2_firstValley_2_L6 a2 a3 sg t.1 t.2) 300 ((0 : Int32), (0 : Int32))).bind fun u => onE u (fun t => fX2_firstValley_2_E63 a2 a3 t.1 t.2 sg) (fun r => some r))
def fX7_valley_J38 (s0 : Int32) (sg : Sg) : Option (Int32) := some s0
def fX7_valley  (sg : Sg) : Option (Int32) := (fX4_isWay sg).bind fun r_2 => (if r_2 = 0 then fX7_valley_J38 (-1003 : Int32) sg else (fX2_firstValley_2 (0 : Int32) (rd sg 1 1) sg).bind fun r_4 => fX7_valley_J38 r_4 sg)
def fX6_has_J17 (s0 : Int32) (sg : Sg) : Option (Int32) := gd (zb s0) (some s0)
def fX6_has_J16 (sg : Sg) : Option (Int32) := fX6_has_J17 (0 : Int32) sg
def fX6_has (a1 : Int32) (sg : Sg) : Option (Int32) := (if a1 < 0 then fX6_has_J16 sg else (if (rd sg 3 4) ≤ a1 then fX6_has_J16 sg else fX6_has_J17 (1 : Int32) sg))
def fX6_remove_L23 (a2 : Int32) (a3 : Int32) (sg : Sg) : Option ((Int32 × Sg) ⊕ (Int32 × Sg)) := gd (inb a2 12) ((if (rd sg 5 (Int32.toNatClampNeg a2)) ≤ a3 then some (.inl (a3, sg)) else gd (inb ((a2 * (6 : Int32)) + a3) 72) (gd (inb (((a2 - (1 : Int32)) * (6 : Int32)) + a3) 72) (lt (wr sg 4 (Int32.toNatClampNeg (((a2 - (1 : Int32)) * (6 : Int32)) + a3)) (rd sg 4 (Int32.toNatClampNeg ((a2 * (6 : Int32)) + a3)))) fun sg_6 => some (.inr ((a3 + 1), sg_6))))))
def fX6_remove_L13_E63 (a2 : Int32) (a3 : Int32) (sg : Sg) : Option ((Int32 × Sg) ⊕ (Int32 × Sg)) := gd (inb a2 12) (gd (inb (a2 - (1 : Int32)) 12) (lt (wr sg 5 (Int32.toNatClampNeg (a2 - (1 : Int32))) (rd sg 5 (Int32.toNatClampNeg a2))) fun sg_12 => some (.inr ((a2 + 1), sg_12))))
def fX6_remove_L13 (a2 : Int32) (sg : Sg) : Option ((Int32 × Sg) ⊕ (Int32 × Sg)) := (if (rd sg 3 4) ≤ a2 then some (.inl (a2, sg)) else ((lpS (fun t => fX6_remove_L23 a2 t.1 t.2) 300 ((0 : Int32), sg)).bind fun t => fX6_remove_L13_E63 a2 t.1 t.2))
def fX6_remove_E83 (a2 : Int32) (sg : Sg) : Option (Sg) := lt (wr sg 3 4 ((rd sg 3 4) - (1 : Int32))) fun sg_16 => some sg_16
def fX6_remove (a1 : Int32) (sg : Sg) : Option (Sg) := (fX6_has a1 sg).bind fun r_2 => (if r_2 = 0 then some sg else ((lpS (fun t => fX6_remove_L13 t.1 t.2) 300 ((a1 + (1 : Int32)), sg)).bind fun t => fX6_remove_E83 t.1 t.2))
def fX7_drop (a1 : Int32) (sg : Sg) : Option (Int32 × Sg) := (fX6_has a1 sg).bind fun r_2 => (if r_2 = 0 then some ((-1001 : Int32), sg) else (fX6_remove a1 sg).bind fun sg_4 => (fX7_refresh sg_4).bind fun sg_6 => some ((rd sg_6 3 4), sg_6))
def fX0_at (a0 : Int32) (a1 : Int32) : Option (Int32) := some ((a0 >>> (a1 &&& 31)) &&& (1 : Int32))
def fX7_exchange_J46 (a3 : Int32) (s0 : Int32) (sg : Sg) : Option (Int32 × Sg) := lt (wr sg 0 7 s0) fun sg_7 => (fX7_refresh sg_7).bind fun sg_9 => some (a3, sg_9)
def fX7_exchange (a1 : Int32) (a2 : Int32) (sg : Sg) : Option (Int32 × Sg) := (fX0_isNet a1).bind fun r_2 => (if r_2 = 0 then some ((-1001 : Int32), sg) else (fX0_at (rd sg 0 7) a1).bind fun r_4 => (if a2 = 0 then fX7_exchange_J46 r_4 ((rd sg 0 7) &&& (((1 : Int32) <<< (a1 &&& 31)) ^^^ (-1 : Int32))) sg else fX7_exchange_J46 r_4 ((rd sg 0 7) ||| ((1 : Int32) <<< (a1 &&& 31))) sg))
def fX7_arePair_J24 (s0 : Int32) : Option (Int32) := gd (zb s0) (some s0)
def fX7_arePair_J23  : Option (Int32) := fX7_arePair_J24 (0 : Int32)
def fX7_arePair (a0 : Int32) (a1 : Int32) : Option (Int32) := (fX0_isNet a0).bind fun r_2 => (if r_2 = 0 then fX7_arePair_J23  else (fX0_isNet a1).bind fun r_4 => (if r_4 = 0 then fX7_arePair_J23  else (if a0 = a1 then fX7_arePair_J23  else fX7_arePair_J24 (1 : Int32))))
def fX2_turned_J17 (s0 : Int32) : Option (Int32) := some s0
def fX2_turned (a0 : Int32) : Option (Int32) := (if a0 = (1 : Int32) then some (2 : Int32) else (if a0 = (2 : Int32) then fX2_turned_J17 (1 : Int32) else fX2_turned_J17 a0))
def fX7_tell_J21 (sg : Sg) : Option (Int32 × Sg) := some ((-1002 : Int32), sg)
def fX7_tell (a1 : Int32) (a2 : Int32) (a3 : Int32) (sg : Sg) : Option (Int32 × Sg) := (fX7_arePair a1 a2).bind fun r_2 => (if r_2 = 0 then some ((-1001 : Int32), sg) else (if a3 < 0 then fX7_tell_J21 sg else (if a3 ≤ (4 : Int32) then gd (inb ((a1 * (8 : Int32)) + a2) 64) (lt ((rd sg 25 (Int32.toNatClampNeg ((a1 * (8 : Int32)) + a2)))) fun a4_4 => gd (inb ((a1 * (8 : Int32)) + a2) 64) (lt (wr sg 25 (Int32.toNatClampNeg ((a1 * (8 : Int32)) + a2)) a3) fun sg_6 => (fX2_turned a3).bind fun r_8 => gd (inb ((a2 * (8 : Int32)) + a1) 64) (lt (wr sg_6 25 (Int32.toNatClampNeg ((a2 * (8 : Int32)) + a1)) r_8) fun sg_10 => some (a4_4, sg_10)))) else fX7_tell_J21 sg)))
def fX2_cone_L15_J43 (a3 : Int32) (a4 : Int32) (s0 : Int32) (s1 : Int32) (sg : Sg) : Option ((Int32 × Int32) ⊕ (Int32 × Int32)) := some (.inr ((s1 ||| s0), (a4 + 1)))
def fX2_cone_L15 (a3 : Int32) (sg : Sg) (a2 : Int32) (a4 : Int32) : Option ((Int32 × Int32) ⊕ (Int32 × Int32)) := (if (8 : Int32) ≤ a4 then some (.inl (a2, a4)) else (fX0_has a2 a4).bind fun r_3 => (if r_3 = 0 then fX2_cone_L15_J43 a3 a4 (0 : Int32) a2 sg else gd (inb a4 8) (fX2_cone_L15_J43 a3 a4 (rd sg 20 (Int32.toNatClampNeg a4)) a2 sg)))
def fX2_cone_L6_E51 (a3 : Int32) (a2 : Int32) (a4 : Int32) (sg : Sg) : Option ((Int32 × Int32) ⊕ (Int32 × Int32)) := some (.inr (a2, (a3 + 1)))
def fX2_cone_L6 (sg : Sg) (a2 : Int32) (a3 : Int32) : Option ((Int32 × Int32) ⊕ (Int32 × Int32)) := (if (8 : Int32) ≤ a3 then some (.inl (a2, a3)) else ((lpS (fun t => fX2_cone_L15 a3 sg t.1 t.2) 300 (a2, (0 : Int32))).bind fun t => fX2_cone_L6_E51 a3 t.1 t.2 sg))
def fX2_cone_E57 (a2 : Int32) (a3 : Int32) (sg : Sg) : Option (Int32) := some a2
def fX2_cone (a1 : Int32) (sg : Sg) : Option (Int32) := lt (((1 : Int32) <<< (a1 &&& 31))) fun a2_1 => ((lpS (fun t => fX2_cone_L6 sg t.1 t.2) 300 (a2_1, (1 : Int32))).bind fun t => fX2_cone_E57 t.1 t.2 sg)
def fX7_net (a1 : Int32) (a2 : Int32) (sg : Sg) : Option (Int32) := (fX0_isNet a1).bind fun r_2 => (if r_2 = 0 then some (-1001 : Int32) else (if a2 = (0 : Int32) then gd (inb a1 8) (some (rd sg 11 (Int32.toNatClampNeg a1))) else if a2 = (1 : Int32) then gd (inb a1 8) (some (rd sg 12 (Int32.toNatClampNeg a1))) else if a2 = (2 : Int32) then gd (inb a1 8) (some (rd sg 16 (Int32.toNatClampNeg a1))) else if a2 = (3 : Int32) then (fX0_at (rd sg 14 3) a1).bind fun r_10 => some r_10 else if a2 = (4 : Int32) then (fX2_cone a1 sg).bind fun r_13 => some r_13 else if a2 = (5 : Int32) then (fX0_at (rd sg 0 7) a1).bind fun r_16 => some r_16 else some (-1002 : Int32)))
def fX7_rank_J28 (s0 : Int32) (sg : Sg) : Option (Int32) := some s0
def fX7_rank_J27 (sg : Sg) : Option (Int32) := fX7_rank_J28 (-1 : Int32) sg
def fX7_rank (a1 : Int32) (sg : Sg) : Option (Int32) := (if a1 < 0 then fX7_rank_J27 sg else (if (rd sg 14 2) ≤ a1 then fX7_rank_J27 sg else gd (inb a1 8) (fX7_rank_J28 (rd sg 15 (Int32.toNatClampNeg a1)) sg)))
def fX7_top  (sg : Sg) : Option (Int32) := some (rd sg 14 3)
def fX7_link (a1 : Int32) (a2 : Int32) (a3 : Int32) (sg : Sg) : Option (Int32) := (fX7_arePair a1 a2).bind fun r_2 => (if r_2 = 0 then some (-1001 : Int32) else (if a3 = (0 : Int32) then gd (inb ((a1 * (8 : Int32)) + a2) 64) (some (rd sg 19 (Int32.toNatClampNeg ((a1 * (8 : Int32)) + a2)))) else if a3 = (1 : Int32) then gd (inb ((a1 * (8 : Int32)) + a2) 64) (some (rd sg 18 (Int32.toNatClampNeg ((a1 * (8 : Int32)) + a2)))) else if a3 = (2 : Int32) then gd (inb ((a2 * (8 : Int32)) + a1) 64) (some (rd sg 18 (Int32.toNatClampNeg ((a2 * (8 : Int32)) + a1)))) else if a3 = (3 : Int32) then gd (inb ((a1 * (8 : Int32)) + a2) 64) (some (rd sg 13 (Int32.toNatClampNeg ((a1 * (8 : Int32)) + a2)))) else if a3 = (4 : Int32) then gd (inb ((a1 * (8 : Int32)) + a2) 64) (some (rd sg 25 (Int32.toNatClampNeg ((a1 * (8 : Int32)) + a2)))) else some (-1002 : Int32)))
def fJ9_min_7cf53_J10 (s0 : Int32) : Option (Int32) := some s0
def fJ9_min_7cf53 (a0 : Int32) (a1 : Int32) : Option (Int32) := (if a1 < a0 then fJ9_min_7cf53_J10 a1 else fJ9_min_7cf53_J10 a0)
def fX2_lesserVotes (a1 : Int32) (a2 : Int32) (sg : Sg) : Option (Int32) := gd (inb ((a1 * (8 : Int32)) + a2) 64) (gd (inb ((a2 * (8 : Int32)) + a1) 64) ((fJ9_min_7cf53 (rd sg 18 (Int32.toNatClampNeg ((a1 * (8 : Int32)) + a2))) (rd sg 18 (Int32.toNatClampNeg ((a2 * (8 : Int32)) + a1)))).bind fun r_4 => some r_4))
def fX2_contradictedAt_L25_J64 (a1 : Int32) (a2 : Int32) (a3 : Int32) (a4 : Int32) (a5 : Int32) (sg : Sg) : Option ((Int32 × Int32) ⊕ ((Int32) ⊕ (Int32 × Int32))) := some (.inr (.inr (a2, (a5 + 1))))
def fX2_contradictedAt_L25 (a1 : Int32) (a3 : Int32) (a4 : Int32) (sg : Sg) (a2 : Int32) (a5 : Int32) : Option ((Int32 × Int32) ⊕ ((Int32) ⊕ (Int32 × Int32))) := (if (8 : Int32) ≤ a5 then some (.inl (a2, a5)) else (fX2_lesserVotes a4 a5 sg).bind fun r_2 => (if r_2 = a3 then (if a2 = a1 then some (.inr (.inl ((a4 * (8 : Int32)) + a5))) else fX2_contradictedAt_L25_J64 a1 (a2 + 1) a3 a4 a5 sg) else fX2_contradictedAt_L25_J64 a1 a2 a3 a4 a5 sg))
def fX2_contradictedAt_L12_E70 (a1 : Int32) (a3 : Int32) (a4 : Int32) (a2 : Int32) (a5 : Int32) (sg : Sg) : Option ((Int32 × Int32) ⊕ ((Int32) ⊕ (Int32 × Int32))) := some (.inr (.inr (a2, (a4 + 1))))
def fX2_contradictedAt_L12 (a1 : Int32) (a3 : Int32) (sg : Sg) (a2 : Int32) (a4 : Int32) : Option ((Int32 × Int32) ⊕ ((Int32) ⊕ (Int32 × Int32))) := (if (8 : Int32) ≤ a4 then some (.inl (a2, a4)) else ((lpO (fun t => fX2_contradictedAt_L25 a1 a3 a4 sg t.1 t.2) 300 (a2, (a4 + (1 : Int32)))).bind fun u => onE u (fun t => fX2_contradictedAt_L12_E70 a1 a3 a4 t.1 t.2 sg) (fun r => some (.inr (.inl r)))))
def fX2_contradictedAt_L5_E76 (a1 : Int32) (a3 : Int32) (a2 : Int32) (a4 : Int32) (sg : Sg) : Option ((Int32 × Int32) ⊕ ((Int32) ⊕ (Int32 × Int32))) := some (.inr (.inr (a2, (a3 + -1))))
def fX2_contradictedAt_L5 (a1 : Int32) (sg : Sg) (a2 : Int32) (a3 : Int32) : Option ((Int32 × Int32) ⊕ ((Int32) ⊕ (Int32 × Int32))) := (if a3 ≤ 0 then some (.inl (a2, a3)) else ((lpO (fun t => fX2_contradictedAt_L12 a1 a3 sg t.1 t.2) 300 (a2, (0 : Int32))).bind fun u => onE u (fun t => fX2_contradictedAt_L5_E76 a1 a3 t.1 t.2 sg) (fun r => some (.inr (.inl r)))))
def fX2_contradictedAt_E82 (a1 : Int32) (a2 : Int32) (a3 : Int32) (sg : Sg) : Option (Int32) := some (-1 : Int32)
def fX2_contradictedAt (a1 : Int32) (sg : Sg) : Option (Int32) := ((lpO (fun t => fX2_contradictedAt_L5 a1 sg t.1 t.2) 300 ((0 : Int32), (12 : Int32))).bind fun u => onE u (fun t => fX2_contradictedAt_E82 a1 t.1 t.2 sg) (fun r => some r))
def fX7_contradicted_J16 (s0 : Int32) (sg : Sg) : Option (Int32) := some s0
def fX7_contradicted (a1 : Int32) (sg : Sg) : Option (Int32) := (if 0 ≤ a1 then (fX2_contradictedAt a1 sg).bind fun r_2 => fX7_contradicted_J16 r_2 sg else fX7_contradicted_J16 (-1 : Int32) sg)
def fX2_firstValley_6_L6 (a2 : Int32) (a3 : Int32) (sg : Sg) (a4 : Int32) (a5 : Int32) : Option ((Int32 × Int32) ⊕ ((Int32) ⊕ (Int32 × Int32))) := (if a3 ≤ (a5 + (1 : Int32)) then some (.inl (a4, a5)) else gd (inb (a2 + a5) 72) (gd (inb ((a2 + a5) + (1 : Int32)) 72) (lt ((((rd sg 6 (Int32.toNatClampNeg (a2 + a5))) * (8 : Int32)) + (rd sg 6 (Int32.toNatClampNeg ((a2 + a5) + (1 : Int32)))))) fun a6_3 => gd (inb a6_3 64) ((fX2_after a4 (rd sg 19 (Int32.toNatClampNeg a6_3))).bind fun r_6 => (if r_6 = (-1 : Int32) then some (.inr (.inl a5)) else some (.inr (.inr (r_6, (a5 + 1)))))))))
def fX2_firstValley_6_E63 (a2 : Int32) (a3 : Int32) (a4 : Int32) (a5 : Int32) (sg : Sg) : Option (Int32) := some (-1 : Int32)
def fX2_firstValley_6 (a2 : Int32) (a3 : Int32) (sg : Sg) : Option (Int32) := ((lpO (fun t => fX2_firstValley_6_L6 a2 a3 sg t.1 t.2) 300 ((0 : Int32), (0 : Int32))).bind fun u => onE u (fun t => fX2_firstValley_6_E63 a2 a3 t.1 t.2 sg) (fun r => some r))
def fX7_seen_J144 (s0 : Int32) (sg : Sg) : Option (Int32) := some s0
def fX7_seen_J117 (sg : Sg) : Option (Int32) := some (-1002 : Int32)
def fX7_seen (a1 : Int32) (a2 : Int32) (sg : Sg) : Option (Int32) := (fX6_has a1 sg).bind fun r_2 => (if r_2 = 0 then some (-1001 : Int32) else gd (inb a1 12) (lt ((rd sg 7 (Int32.toNatClampNeg a1))) fun a3_4 => (if a2 = (0 : Int32) then some a3_4 else if a2 = (1 : Int32) then (fX3_firstOf_6 (a1 * (6 : Int32)) a3_4 sg).bind fun r_7 => some r_7 else if a2 = (2 : Int32) then (fX2_firstValley_6 (a1 * (6 : Int32)) a3_4 sg).bind fun r_10 => some r_10 else (if a2 < (10 : Int32) then fX7_seen_J117 sg else (if (a2 - (10 : Int32)) < (6 : Int32) then (if a3_4 ≤ (a2 - (10 : Int32)) then fX7_seen_J144 (-1 : Int32) sg else gd (inb ((a1 * (6 : Int32)) + (a2 - (10 : Int32))) 72) (fX7_seen_J144 (rd sg 6 (Int32.toNatClampNeg ((a1 * (6 : Int32)) + (a2 - (10 : Int32))))) sg)) else fX7_seen_J117 sg)))))
def fX5_fewestLinks (a1 : Int32) (a2 : Int32) (a3 : Int32) (sg : Sg) : Option (Int32) := gd (inb ((((a1 * (8 : Int32)) + a2) * (8 : Int32)) + a3) 128) (some (rd sg 22 (Int32.toNatClampNeg ((((a1 * (8 : Int32)) + a2) * (8 : Int32)) + a3))))
def fX5_leastSecond_17_L20_J75 (a2 : Int32) (a3 : Int32) (a4 : Int32) (a5 : Int32) (sg : Sg) : Option ((Int32) ⊕ ((Int32) ⊕ (Int32))) := some (.inr (.inr (a5 + 1)))
def fX5_leastSecond_17_L20 (a2 : Int32) (a3 : Int32) (a4 : Int32) (sg : Sg) (a5 : Int32) : Option ((Int32) ⊕ ((Int32) ⊕ (Int32))) := (if (8 : Int32) ≤ a5 then some (.inl a5) else gd (inb ((a2 * (8 : Int32)) + a5) 64) ((fX2_after (0 : Int32) (rd sg 19 (Int32.toNatClampNeg ((a2 * (8 : Int32)) + a5)))).bind fun r_5 => (if a4 ≤ 0 then fX5_leastSecond_17_L20_J75 a2 a3 a4 a5 sg else (if r_5 = (-1 : Int32) then fX5_leastSecond_17_L20_J75 a2 a3 a4 a5 sg else (fX5_fewestLinks r_5 a5 a3 sg).bind fun r_7 => (if r_7 = (a4 - (1 : Int32)) then some (.inr (.inl a5)) else fX5_leastSecond_17_L20_J75 a2 a3 a4 a5 sg)))))
def fX5_leastSecond_17_E81 (a2 : Int32) (a3 : Int32) (a4 : Int32) (a5 : Int32) (sg : Sg) : Option (Int32) := some (-1 : Int32)
def fX5_leastSecond_17 (a2 : Int32) (a3 : Int32) (sg : Sg) : Option (Int32) := (fX5_fewestLinks (0 : Int32) a2 a3 sg).bind fun r_2 => (if r_2 = (-1 : Int32) then some (-1 : Int32) else ((lpO (fun t => fX5_leastSecond_17_L20 a2 a3 r_2 sg t) 300 (0 : Int32)).bind fun u => onE u (fun t => fX5_leastSecond_17_E81 a2 a3 r_2 t sg) (fun r => some r)))
def fX7_near_J14 (sg : Sg) : Option (Int32) := some (-1001 : Int32)
def fX7_near (a1 : Int32) (a2 : Int32) (a3 : Int32) (sg : Sg) : Option (Int32) := (fX0_isNet a1).bind fun r_2 => (if r_2 = 0 then fX7_near_J14 sg else (fX0_isNet a2).bind fun r_4 => (if r_4 = 0 then fX7_near_J14 sg else (if a3 = (0 : Int32) then (fX5_fewestLinks (0 : Int32) a1 a2 sg).bind fun r_6 => some r_6 else if a3 = (1 : Int32) then (fX5_leastSecond_17 a1 a2 sg).bind fun r_9 => some r_9 else some (-1002 : Int32))))
def fX1_total_L4 (sg : Sg) (a1 : Int32) (a2 : Int32) : Option ((Int32 × Int32) ⊕ (Int32 × Int32)) := (if (8 : Int32) ≤ a2 then some (.inl (a1, a2)) else gd (inb a2 8) (lt ((a1 + (rd sg 11 (Int32.toNatClampNeg a2)))) fun a1_2 => some (.inr (a1_2, (a2 + 1)))))
def fX1_total_E25 (a1 : Int32) (a2 : Int32) (sg : Sg) : Option (Int32) := some (a1 / (2 : Int32))
def fX1_total  (sg : Sg) : Option (Int32) := ((lpS (fun t => fX1_total_L4 sg t.1 t.2) 300 ((0 : Int32), (0 : Int32))).bind fun t => fX1_total_E25 t.1 t.2 sg)
def fX2_named_L15_J41 (a1 : Int32) (a2 : Int32) (a3 : Int32) (a4 : Int32) (sg : Sg) : Option ((Int32 × Int32) ⊕ (Int32 × Int32)) := some (.inr (a2, (a4 + 1)))
def fX2_named_L15 (a1 : Int32) (a3 : Int32) (sg : Sg) (a2 : Int32) (a4 : Int32) : Option ((Int32 × Int32) ⊕ (Int32 × Int32)) := (if (8 : Int32) ≤ a4 then some (.inl (a2, a4)) else gd (inb ((a3 * (8 : Int32)) + a4) 64) ((if (rd sg 19 (Int32.toNatClampNeg ((a3 * (8 : Int32)) + a4))) = a1 then fX2_named_L15_J41 a1 (a2 + 1) a3 a4 sg else fX2_named_L15_J41 a1 a2 a3 a4 sg)))
def fX2_named_L4_E47 (a1 : Int32) (a3 : Int32) (a2 : Int32) (a4 : Int32) (sg : Sg) : Option ((Int32 × Int32) ⊕ (Int32 × Int32)) := some (.inr (a2, (a3 + 1)))
def fX2_named_L4 (a1 : Int32) (sg : Sg) (a2 : Int32) (a3 : Int32) : Option ((Int32 × Int32) ⊕ (Int32 × Int32)) := (if (8 : Int32) ≤ a3 then some (.inl (a2, a3)) else ((lpS (fun t => fX2_named_L15 a1 a3 sg t.1 t.2) 300 (a2, (a3 + (1 : Int32)))).bind fun t => fX2_named_L4_E47 a1 a3 t.1 t.2 sg))
def fX2_named_E53 (a1 : Int32) (a2 : Int32) (a3 : Int32) (sg : Sg) : Option (Int32) := some a2
def fX2_named (a1 : Int32) (sg : Sg) : Option (Int32) := ((lpS (fun t => fX2_named_L4 a1 sg t.1 t.2) 300 ((0 : Int32), (0 : Int32))).bind fun t => fX2_named_E53 a1 t.1 t.2 sg)
def fX2_contradictions_L14_J32 (a1 : Int32) (a2 : Int32) (a3 : Int32) (sg : Sg) : Option ((Int32 × Int32) ⊕ (Int32 × Int32)) := some (.inr (a1, (a3 + 1)))
def fX2_contradictions_L14 (a2 : Int32) (sg : Sg) (a1 : Int32) (a3 : Int32) : Option ((Int32 × Int32) ⊕ (Int32 × Int32)) := (if (8 : Int32) ≤ a3 then some (.inl (a1, a3)) else (fX2_lesserVotes a2 a3 sg).bind fun r_2 => (if r_2 ≤ 0 then fX2_contradictions_L14_J32 a1 a2 a3 sg else fX2_contradictions_L14_J32 (a1 + 1) a2 a3 sg))
def fX2_contradictions_L4_E38 (a2 : Int32) (a1 : Int32) (a3 : Int32) (sg : Sg) : Option ((Int32 × Int32) ⊕ (Int32 × Int32)) := some (.inr (a1, (a2 + 1)))
def fX2_contradictions_L4 (sg : Sg) (a1 : Int32) (a2 : Int32) : Option ((Int32 × Int32) ⊕ (Int32 × Int32)) := (if (8 : Int32) ≤ a2 then some (.inl (a1, a2)) else ((lpS (fun t => fX2_contradictions_L14 a2 sg t.1 t.2) 300 (a1, (a2 + (1 : Int32)))).bind fun t => fX2_contradictions_L4_E38 a2 t.1 t.2 sg))
def fX2_contradictions_E44 (a1 : Int32) (a2 : Int32) (sg : Sg) : Option (Int32) := some a1
def fX2_contradictions  (sg : Sg) : Option (Int32) := ((lpS (fun t => fX2_contradictions_L4 sg t.1 t.2) 300 ((0 : Int32), (0 : Int32))).bind fun t => fX2_contradictions_E44 t.1 t.2 sg)
def fX7_waysWithValley_L4_J49 (a1 : Int32) (a2 : Int32) (sg : Sg) : Option ((Int32 × Int32) ⊕ (Int32 × Int32)) := some (.inr (a1, (a2 + 1)))
def fX7_waysWithValley_L4 (sg : Sg) (a1 : Int32) (a2 : Int32) : Option ((Int32 × Int32) ⊕ (Int32 × Int32)) := (if (rd sg 3 4) ≤ a2 then some (.inl (a1, a2)) else gd (inb a2 12) ((fX2_firstValley_6 (a2 * (6 : Int32)) (rd sg 7 (Int32.toNatClampNeg a2)) sg).bind fun r_3 => (if r_3 = (-1 : Int32) then fX7_waysWithValley_L4_J49 a1 a2 sg else fX7_waysWithValley_L4_J49 (a1 + 1) a2 sg)))
def fX7_waysWithValley_E55 (a1 : Int32) (a2 : Int32) (sg : Sg) : Option (Int32) := some a1
def fX7_waysWithValley  (sg : Sg) : Option (Int32) := ((lpS (fun t => fX7_waysWithValley_L4 sg t.1 t.2) 300 ((0 : Int32), (0 : Int32))).bind fun t => fX7_waysWithValley_E55 t.1 t.2 sg)
def fX7_toldLinks_L15_J82 (a1 : Int32) (a2 : Int32) (a3 : Int32) (a4 : Int32) (sg : Sg) : Option ((Int32 × Int32) ⊕ (Int32 × Int32)) := some (.inr (a2, (a4 + 1)))
def fX7_toldLinks_L15_J75 (a1 : Int32) (a2 : Int32) (a3 : Int32) (a4 : Int32) (s0 : Int32) (sg : Sg) : Option ((Int32 × Int32) ⊕ (Int32 × Int32)) := (if s0 = a1 then fX7_toldLinks_L15_J82 a1 (a2 + 1) a3 a4 sg else fX7_toldLinks_L15_J82 a1 a2 a3 a4 sg)
def fX7_toldLinks_L15 (a1 : Int32) (a3 : Int32) (sg : Sg) (a2 : Int32) (a4 : Int32) : Option ((Int32 × Int32) ⊕ (Int32 × Int32)) := (if (8 : Int32) ≤ a4 then some (.inl (a2, a4)) else gd (inb ((a3 * (8 : Int32)) + a4) 64) (lt ((rd sg 19 (Int32.toNatClampNeg ((a3 * (8 : Int32)) + a4)))) fun a5_2 => gd (inb ((a3 * (8 : Int32)) + a4) 64) (lt ((rd sg 25 (Int32.toNatClampNeg ((a3 * (8 : Int32)) + a4)))) fun a6_4 => (if a5_2 = 0 then fX7_toldLinks_L15_J82 a1 a2 a3 a4 sg else (if a6_4 = 0 then fX7_toldLinks_L15_J82 a1 a2 a3 a4 sg else (if a6_4 = a5_2 then fX7_toldLinks_L15_J75 a1 a2 a3 a4 (1 : Int32) sg else fX7_toldLinks_L15_J75 a1 a2 a3 a4 (0 : Int32) sg))))))
def fX7_toldLinks_L4_E88 (a1 : Int32) (a3 : Int32) (a2 : Int32) (a4 : Int32) (sg : Sg) : Option ((Int32 × Int32) ⊕ (Int32 × Int32)) := some (.inr (a2, (a3 + 1)))
def fX7_toldLinks_L4 (a1 : Int32) (sg : Sg) (a2 : Int32) (a3 : Int32) : Option ((Int32 × Int32) ⊕ (Int32 × Int32)) := (if (8 : Int32) ≤ a3 then some (.inl (a2, a3)) else ((lpS (fun t => fX7_toldLinks_L15 a1 a3 sg t.1 t.2) 300 (a2, (a3 + (1 : Int32)))).bind fun t => fX7_toldLinks_L4_E88 a1 a3 t.1 t.2 sg))
def fX7_toldLinks_E94 (a1 : Int32) (a2 : Int32) (a3 : Int32) (sg : Sg) : Option (Int32) := some a2
def fX7_toldLinks (a1 : Int32) (sg : Sg) : Option (Int32) := ((lpS (fun t => fX7_toldLinks_L4 a1 sg t.1 t.2) 300 ((0 : Int32), (0 : Int32))).bind fun t => fX7_toldLinks_E94 a1 t.1 t.2 sg)
def fX7_count (a1 : Int32) (sg : Sg) : Option (Int32) := (if a1 = (0 : Int32) then some (rd sg 3 4) else if a1 = (1 : Int32) then (fX1_total sg).bind fun r_3 => some r_3 else if a1 = (2 : Int32) then (fX2_named (1 : Int32) sg).bind fun r_6 => (fX2_named (2 : Int32) sg).bind fun r_8 => some (r_6 + r_8) else if a1 = (3 : Int32) then (fX2_named (3 : Int32) sg).bind fun r_11 => some r_11 else if a1 = (4 : Int32) then (fX2_named (4 : Int32) sg).bind fun r_14 => some r_14 else if a1 = (5 : Int32) then (fX2_contradictions sg).bind fun r_17 => some r_17 else if a1 = (6 : Int32) then (fX7_waysWithValley sg).bind fun r_20 => some r_20 else if a1 = (7 : Int32) then (fX7_toldLinks (1 : Int32) sg).bind fun r_23 => some r_23 else if a1 = (8 : Int32) then (fX7_toldLinks (0 : Int32) sg).bind fun r_26 => some r_26 else if a1 = (9 : Int32) then some (rd sg 1 1) else if a1 = (10 : Int32) then some (rd sg 0 7) else if a1 = (11 : Int32) then some (rd sg 0 8) else some (-1002 : Int32))
def fX7_digestOfNets_L15 (a5 : Int32) (sg : Sg) (a3 : Int64) (a6 : Int32) : Option ((Int64 × Int32) ⊕ (Int64 × Int32)) := (if (5 : Int32) < a6 then some (.inl (a3, a6)) else (fX7_net a5 a6 sg).bind fun r_2 => lt ((((31 : Int64) * a3) + (Int32.toInt64 r_2))) fun a3_3 => some (.inr (a3_3, (a6 + 1))))
def fX7_digestOfNets_L5_E43 (a5 : Int32) (a3 : Int64) (a6 : Int32) (sg : Sg) : Option ((Int64 × Int32) ⊕ (Int64 × Int32)) := some (.inr (a3, (a5 + 1)))
def fX7_digestOfNets_L5 (sg : Sg) (a3 : Int64) (a5 : Int32) : Option ((Int64 × Int32) ⊕ (Int64 × Int32)) := (if (8 : Int32) ≤ a5 then some (.inl (a3, a5)) else ((lpS (fun t => fX7_digestOfNets_L15 a5 sg t.1 t.2) 300 (a3, (0 : Int32))).bind fun t => fX7_digestOfNets_L5_E43 a5 t.1 t.2 sg))
def fX7_digestOfNets_L52 (sg : Sg) (a3 : Int64) (a5 : Int32) : Option ((Int64 × Int32) ⊕ (Int64 × Int32)) := (if (8 : Int32) ≤ a5 then some (.inl (a3, a5)) else (fX7_rank a5 sg).bind fun r_11 => lt ((((31 : Int64) * a3) + (Int32.toInt64 r_11))) fun a3_12 => some (.inr (a3_12, (a5 + 1))))
def fX7_digestOfNets_E79 (a3 : Int64) (a5 : Int32) (sg : Sg) : Option (Int64) := (fX7_top sg).bind fun r_17 => some (((31 : Int64) * a3) + (Int32.toInt64 r_17))
def fX7_digestOfNets_E49 (a3 : Int64) (a5 : Int32) (sg : Sg) : Option (Int64) := ((lpS (fun t => fX7_digestOfNets_L52 sg t.1 t.2) 300 (a3, (0 : Int32))).bind fun t => fX7_digestOfNets_E79 t.1 t.2 sg)
def fX7_digestOfNets (a1 : Int64) (sg : Sg) : Option (Int64) := ((lpS (fun t => fX7_digestOfNets_L5 sg t.1 t.2) 300 (a1, (0 : Int32))).bind fun t => fX7_digestOfNets_E49 t.1 t.2 sg)
def fX7_digestOfPairs_L28 (a5 : Int32) (a6 : Int32) (sg : Sg) (a3 : Int64) (a7 : Int32) : Option ((Int64 × Int32) ⊕ (Int64 × Int32)) := (if (4 : Int32) < a7 then some (.inl (a3, a7)) else (fX7_link a5 a6 a7 sg).bind fun r_2 => lt ((((31 : Int64) * a3) + (Int32.toInt64 r_2))) fun a3_3 => some (.inr (a3_3, (a7 + 1))))
def fX7_digestOfPairs_L18_E58 (a5 : Int32) (a6 : Int32) (a3 : Int64) (a7 : Int32) (sg : Sg) : Option ((Int64 × Int32) ⊕ (Int64 × Int32)) := some (.inr (a3, (a6 + 1)))
def fX7_digestOfPairs_L18 (a5 : Int32) (sg : Sg) (a3 : Int64) (a6 : Int32) : Option ((Int64 × Int32) ⊕ (Int64 × Int32)) := (if (8 : Int32) ≤ a6 then some (.inl (a3, a6)) else ((lpS (fun t => fX7_digestOfPairs_L28 a5 a6 sg t.1 t.2) 300 (a3, (0 : Int32))).bind fun t => fX7_digestOfPairs_L18_E58 a5 a6 t.1 t.2 sg))
def fX7_digestOfPairs_L5_E64 (a5 : Int32) (a3 : Int64) (a6 : Int32) (sg : Sg) : Option ((Int64 × Int32) ⊕ (Int64 × Int32)) := some (.inr (a3, (a5 + 1)))
def fX7_digestOfPairs_L5 (sg : Sg) (a3 : Int64) (a5 : Int32) : Option ((Int64 × Int32) ⊕ (Int64 × Int32)) := (if (8 : Int32) ≤ a5 then some (.inl (a3, a5)) else ((lpS (fun t => fX7_digestOfPairs_L18 a5 sg t.1 t.2) 300 (a3, (a5 + (1 : Int32)))).bind fun t => fX7_digestOfPairs_L5_E64 a5 t.1 t.2 sg))
def fX7_digestOfPairs_L83 (a5 : Int32) (sg : Sg) (a3 : Int64) (a6 : Int32) : Option ((Int64 × Int32) ⊕ (Int64 × Int32)) := (if (8 : Int32) ≤ a6 then some (.inl (a3, a6)) else (fX7_near a5 a6 (0 : Int32) sg).bind fun r_14 => lt ((((31 : Int64) * a3) + (Int32.toInt64 r_14))) fun a3_15 => some (.inr (a3_15, (a6 + 1))))
def fX7_digestOfPairs_L73_E113 (a5 : Int32) (a3 : Int64) (a6 : Int32) (sg : Sg) : Option ((Int64 × Int32) ⊕ (Int64 × Int32)) := some (.inr (a3, (a5 + 1)))
def fX7_digestOfPairs_L73 (sg : Sg) (a3 : Int64) (a5 : Int32) : Option ((Int64 × Int32) ⊕ (Int64 × Int32)) := (if (8 : Int32) ≤ a5 then some (.inl (a3, a5)) else ((lpS (fun t => fX7_digestOfPairs_L83 a5 sg t.1 t.2) 300 (a3, (0 : Int32))).bind fun t => fX7_digestOfPairs_L73_E113 a5 t.1 t.2 sg))
def fX7_digestOfPairs_E119 (a3 : Int64) (a5 : Int32) (sg : Sg) : Option (Int64) := some a3
def fX7_digestOfPairs_E70 (a3 : Int64) (a5 : Int32) (sg : Sg) : Option (Int64) := ((lpS (fun t => fX7_digestOfPairs_L73 sg t.1 t.2) 300 (a3, (0 : Int32))).bind fun t => fX7_digestOfPairs_E119 t.1 t.2 sg)
def fX7_digestOfPairs (a1 : Int64) (sg : Sg) : Option (Int64) := ((lpS (fun t => fX7_digestOfPairs_L5 sg t.1 t.2) 300 (a1, (0 : Int32))).bind fun t => fX7_digestOfPairs_E70 t.1 t.2 sg)
def fX4_codeAt_J25 (s0 : Int32) (sg : Sg) : Option (Int32) := some s0
def fX4_codeAt_J24 (sg : Sg) : Option (Int32) := fX4_codeAt_J25 (-1 : Int32) sg
def fX4_codeAt (a1 : Int32) (sg : Sg) : Option (Int32) := (if a1 < 0 then fX4_codeAt_J24 sg else (if (rd sg 1 1) ≤ a1 then fX4_codeAt_J24 sg else gd (inb a1 6) (fX4_codeAt_J25 ((rd sg 2 (Int32.toNatClampNeg a1)) + (48 : Int32)) sg)))
def fX7_digestOfTheRest_L5 (sg : Sg) (a3 : Int64) (a5 : Int32) : Option ((Int64 × Int32) ⊕ (Int64 × Int32)) := (if (3 : Int32) < a5 then some (.inl (a3, a5)) else (fX7_contradicted a5 sg).bind fun r_2 => lt ((((31 : Int64) * a3) + (Int32.toInt64 r_2))) fun a3_3 => some (.inr (a3_3, (a5 + 1))))
def fX7_digestOfTheRest_L49 (a5 : Int32) (sg : Sg) (a3 : Int64) (a6 : Int32) : Option ((Int64 × Int32) ⊕ (Int64 × Int32)) := (if (2 : Int32) < a6 then some (.inl (a3, a6)) else (fX7_seen a5 a6 sg).bind fun r_8 => lt ((((31 : Int64) * a3) + (Int32.toInt64 r_8))) fun a3_9 => some (.inr (a3_9, (a6 + 1))))
def fX7_digestOfTheRest_L34_E77 (a5 : Int32) (a3 : Int64) (a6 : Int32) (sg : Sg) : Option ((Int64 × Int32) ⊕ (Int64 × Int32)) := some (.inr (a3, (a5 + 1)))
def fX7_digestOfTheRest_L34 (sg : Sg) (a3 : Int64) (a5 : Int32) : Option ((Int64 × Int32) ⊕ (Int64 × Int32)) := (if (rd sg 3 4) ≤ a5 then some (.inl (a3, a5)) else ((lpS (fun t => fX7_digestOfTheRest_L49 a5 sg t.1 t.2) 300 (a3, (0 : Int32))).bind fun t => fX7_digestOfTheRest_L34_E77 a5 t.1 t.2 sg))
def fX7_digestOfTheRest_L86 (sg : Sg) (a3 : Int64) (a5 : Int32) : Option ((Int64 × Int32) ⊕ (Int64 × Int32)) := (if (rd sg 1 1) ≤ a5 then some (.inl (a3, a5)) else (fX4_codeAt a5 sg).bind fun r_17 => lt ((((31 : Int64) * a3) + (Int32.toInt64 r_17))) fun a3_18 => some (.inr (a3_18, (a5 + 1))))
def fX7_digestOfTheRest_L124 (sg : Sg) (a3 : Int64) (a5 : Int32) : Option ((Int64 × Int32) ⊕ (Int64 × Int32)) := (if (11 : Int32) < a5 then some (.inl (a3, a5)) else (fX7_count a5 sg).bind fun r_23 => lt ((((31 : Int64) * a3) + (Int32.toInt64 r_23))) fun a3_24 => some (.inr (a3_24, (a5 + 1))))
def fX7_digestOfTheRest_E151 (a3 : Int64) (a5 : Int32) (sg : Sg) : Option (Int64) := some a3
def fX7_digestOfTheRest_E121 (a3 : Int64) (a5 : Int32) (sg : Sg) : Option (Int64) := ((lpS (fun t => fX7_digestOfTheRest_L124 sg t.1 t.2) 300 (a3, (0 : Int32))).bind fun t => fX7_digestOfTheRest_E151 t.1 t.2 sg)
def fX7_digestOfTheRest_E83 (a3 : Int64) (a5 : Int32) (sg : Sg) : Option (Int64) := ((lpS (fun t => fX7_digestOfTheRest_L86 sg t.1 t.2) 300 (a3, (0 : Int32))).bind fun t => fX7_digestOfTheRest_E121 t.1 t.2 sg)
def fX7_digestOfTheRest_E31 (a3 : Int64) (a5 : Int32) (sg : Sg) : Option (Int64) := ((lpS (fun t => fX7_digestOfTheRest_L34 sg t.1 t.2) 300 (a3, (0 : Int32))).bind fun t => fX7_digestOfTheRest_E83 t.1 t.2 sg)
def fX7_digestOfTheRest (a1 : Int64) (sg : Sg) : Option (Int64) := ((lpS (fun t => fX7_digestOfTheRest_L5 sg t.1 t.2) 300 (a1, (0 : Int32))).bind fun t => fX7_digestOfTheRest_E31 t.1 t.2 sg)
def fX7_digest  (sg : Sg) : Option (Int64) := (fX7_digestOfNets (1747 : Int64) sg).bind fun r_2 => (fX7_digestOfPairs r_2 sg).bind fun r_4 => (fX7_digestOfTheRest r_4 sg).bind fun r_6 => some r_6
end
