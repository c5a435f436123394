section
-- ===== PART A: goes FIRST, ahead of the names: the tables' words, and 'selects' of the private methods out of them =====
/-- a private method of a class that the tables say can be made, by its rows of tables_1 -/
def lw_okq (q : MethodName × Nat) : Prop := (q.1.cls ≠ "java/lang/invoke/MethodHandle" ∧ q.1.cls ≠ "java/lang/invoke/VarHandle") ∧ Cond.instantiable q.1.cls q.2 ∈ tables_1 ∧ Cond.privateMethod q.1 ∈ tables_1 ∧ Cond.instanceMethod q.1 ∈ tables_1
theorem lw_p0 : lw_okq (⟨"GateFlow", "forget", "()V"⟩, 16) := ⟨⟨by decide +kernel, by decide +kernel⟩, List.mem_of_getElem? (i := 23) (by decide +kernel), List.mem_of_getElem? (i := 464) (by decide +kernel), List.mem_of_getElem? (i := 465) (by decide +kernel)⟩
theorem lw_p1 : lw_okq (⟨"GateFlow", "freshWays", "()LGateFlow$ByWays;"⟩, 16) := ⟨⟨by decide +kernel, by decide +kernel⟩, List.mem_of_getElem? (i := 23) (by decide +kernel), List.mem_of_getElem? (i := 507) (by decide +kernel), List.mem_of_getElem? (i := 508) (by decide +kernel)⟩
theorem lw_p2 : lw_okq (⟨"GateFlow$ByWays", "measure", "(LGateFlow$Gates;)V"⟩, 11) := ⟨⟨by decide +kernel, by decide +kernel⟩, List.mem_of_getElem? (i := 116) (by decide +kernel), List.mem_of_getElem? (i := 525) (by decide +kernel), List.mem_of_getElem? (i := 526) (by decide +kernel)⟩
theorem lw_p3 : lw_okq (⟨"GateFlow$ByWays", "forward", "(I)Z"⟩, 11) := ⟨⟨by decide +kernel, by decide +kernel⟩, List.mem_of_getElem? (i := 116) (by decide +kernel), List.mem_of_getElem? (i := 529) (by decide +kernel), List.mem_of_getElem? (i := 530) (by decide +kernel)⟩
theorem lw_p4 : lw_okq (⟨"GateFlow$ByWays", "backward", "(I)Z"⟩, 11) := ⟨⟨by decide +kernel, by decide +kernel⟩, List.mem_of_getElem? (i := 116) (by decide +kernel), List.mem_of_getElem? (i := 533) (by decide +kernel), List.mem_of_getElem? (i := 534) (by decide +kernel)⟩
theorem lw_p5 : lw_okq (⟨"GateFlow$ByWays", "takeWay", "(LGateFlow$Gates;)V"⟩, 11) := ⟨⟨by decide +kernel, by decide +kernel⟩, List.mem_of_getElem? (i := 116) (by decide +kernel), List.mem_of_getElem? (i := 537) (by decide +kernel), List.mem_of_getElem? (i := 538) (by decide +kernel)⟩
theorem lw_p6 : lw_okq (⟨"GateFlow$ByWays", "nextStep", "(LGateFlow$Gates;I)I"⟩, 11) := ⟨⟨by decide +kernel, by decide +kernel⟩, List.mem_of_getElem? (i := 116) (by decide +kernel), List.mem_of_getElem? (i := 545) (by decide +kernel), List.mem_of_getElem? (i := 546) (by decide +kernel)⟩
theorem lw_p7 : lw_okq (⟨"GateFlow$ByWays", "roomOf", "(I)I"⟩, 11) := ⟨⟨by decide +kernel, by decide +kernel⟩, List.mem_of_getElem? (i := 116) (by decide +kernel), List.mem_of_getElem? (i := 549) (by decide +kernel), List.mem_of_getElem? (i := 550) (by decide +kernel)⟩
theorem lw_p8 : lw_okq (⟨"GateFlow$ByWays", "pour", "(III)V"⟩, 11) := ⟨⟨by decide +kernel, by decide +kernel⟩, List.mem_of_getElem? (i := 116) (by decide +kernel), List.mem_of_getElem? (i := 553) (by decide +kernel), List.mem_of_getElem? (i := 554) (by decide +kernel)⟩
theorem lw_p9 : lw_okq (⟨"GateFlow", "freshHeights", "()LGateFlow$ByHeights;"⟩, 16) := ⟨⟨by decide +kernel, by decide +kernel⟩, List.mem_of_getElem? (i := 23) (by decide +kernel), List.mem_of_getElem? (i := 576) (by decide +kernel), List.mem_of_getElem? (i := 577) (by decide +kernel)⟩
theorem lw_p10 : lw_okq (⟨"GateFlow$ByHeights", "begin", "(LGateFlow$Gates;)V"⟩, 11) := ⟨⟨by decide +kernel, by decide +kernel⟩, List.mem_of_getElem? (i := 166) (by decide +kernel), List.mem_of_getElem? (i := 584) (by decide +kernel), List.mem_of_getElem? (i := 585) (by decide +kernel)⟩
theorem lw_p11 : lw_okq (⟨"GateFlow$ByHeights", "push", "(LGateFlow$Gates;II)V"⟩, 11) := ⟨⟨by decide +kernel, by decide +kernel⟩, List.mem_of_getElem? (i := 166) (by decide +kernel), List.mem_of_getElem? (i := 590) (by decide +kernel), List.mem_of_getElem? (i := 591) (by decide +kernel)⟩
theorem lw_p12 : lw_okq (⟨"GateFlow$ByHeights", "serve", "(LGateFlow$Gates;I)V"⟩, 11) := ⟨⟨by decide +kernel, by decide +kernel⟩, List.mem_of_getElem? (i := 166) (by decide +kernel), List.mem_of_getElem? (i := 595) (by decide +kernel), List.mem_of_getElem? (i := 596) (by decide +kernel)⟩
theorem lw_p13 : lw_okq (⟨"GateFlow$ByHeights", "downStep", "(LGateFlow$Gates;I)I"⟩, 11) := ⟨⟨by decide +kernel, by decide +kernel⟩, List.mem_of_getElem? (i := 166) (by decide +kernel), List.mem_of_getElem? (i := 599) (by decide +kernel), List.mem_of_getElem? (i := 600) (by decide +kernel)⟩
theorem lw_p14 : lw_okq (⟨"GateFlow$ByHeights", "roomOf", "(I)I"⟩, 11) := ⟨⟨by decide +kernel, by decide +kernel⟩, List.mem_of_getElem? (i := 166) (by decide +kernel), List.mem_of_getElem? (i := 603) (by decide +kernel), List.mem_of_getElem? (i := 604) (by decide +kernel)⟩
theorem lw_p15 : lw_okq (⟨"GateFlow$ByHeights", "lift", "(LGateFlow$Gates;I)Z"⟩, 11) := ⟨⟨by decide +kernel, by decide +kernel⟩, List.mem_of_getElem? (i := 166) (by decide +kernel), List.mem_of_getElem? (i := 608) (by decide +kernel), List.mem_of_getElem? (i := 609) (by decide +kernel)⟩
def lw_privs_1 : List (MethodName × Nat) := [(⟨"GateFlow", "forget", "()V"⟩, 16), (⟨"GateFlow", "freshWays", "()LGateFlow$ByWays;"⟩, 16), (⟨"GateFlow$ByWays", "measure", "(LGateFlow$Gates;)V"⟩, 11), (⟨"GateFlow$ByWays", "forward", "(I)Z"⟩, 11), (⟨"GateFlow$ByWays", "backward", "(I)Z"⟩, 11), (⟨"GateFlow$ByWays", "takeWay", "(LGateFlow$Gates;)V"⟩, 11), (⟨"GateFlow$ByWays", "nextStep", "(LGateFlow$Gates;I)I"⟩, 11), (⟨"GateFlow$ByWays", "roomOf", "(I)I"⟩, 11), (⟨"GateFlow$ByWays", "pour", "(III)V"⟩, 11), (⟨"GateFlow", "freshHeights", "()LGateFlow$ByHeights;"⟩, 16), (⟨"GateFlow$ByHeights", "begin", "(LGateFlow$Gates;)V"⟩, 11), (⟨"GateFlow$ByHeights", "push", "(LGateFlow$Gates;II)V"⟩, 11), (⟨"GateFlow$ByHeights", "serve", "(LGateFlow$Gates;I)V"⟩, 11), (⟨"GateFlow$ByHeights", "downStep", "(LGateFlow$Gates;I)I"⟩, 11), (⟨"GateFlow$ByHeights", "roomOf", "(I)I"⟩, 11), (⟨"GateFlow$ByHeights", "lift", "(LGateFlow$Gates;I)Z"⟩, 11)]
theorem lw_r1 : ∀ q ∈ lw_privs_1, lw_okq q := List.forall_mem_cons.mpr ⟨lw_p0, List.forall_mem_cons.mpr ⟨lw_p1, List.forall_mem_cons.mpr ⟨lw_p2, List.forall_mem_cons.mpr ⟨lw_p3, List.forall_mem_cons.mpr ⟨lw_p4, List.forall_mem_cons.mpr ⟨lw_p5, List.forall_mem_cons.mpr ⟨lw_p6, List.forall_mem_cons.mpr ⟨lw_p7, List.forall_mem_cons.mpr ⟨lw_p8, List.forall_mem_cons.mpr ⟨lw_p9, List.forall_mem_cons.mpr ⟨lw_p10, List.forall_mem_cons.mpr ⟨lw_p11, List.forall_mem_cons.mpr ⟨lw_p12, List.forall_mem_cons.mpr ⟨lw_p13, List.forall_mem_cons.mpr ⟨lw_p14, List.forall_mem_cons.mpr ⟨lw_p15, fun _ h => absurd h List.not_mem_nil⟩⟩⟩⟩⟩⟩⟩⟩⟩⟩⟩⟩⟩⟩⟩⟩
theorem lw_p16 : lw_okq (⟨"GateFlow$Net", "isInNet", "(I)Z"⟩, 10) := ⟨⟨by decide +kernel, by decide +kernel⟩, List.mem_of_getElem? (i := 257) (by decide +kernel), List.mem_of_getElem? (i := 663) (by decide +kernel), List.mem_of_getElem? (i := 664) (by decide +kernel)⟩
theorem lw_p17 : lw_okq (⟨"GateFlow$Net", "addSide", "(III)V"⟩, 10) := ⟨⟨by decide +kernel, by decide +kernel⟩, List.mem_of_getElem? (i := 257) (by decide +kernel), List.mem_of_getElem? (i := 667) (by decide +kernel), List.mem_of_getElem? (i := 668) (by decide +kernel)⟩
theorem lw_p18 : lw_okq (⟨"GateFlow$Net", "layered", "(II)Z"⟩, 10) := ⟨⟨by decide +kernel, by decide +kernel⟩, List.mem_of_getElem? (i := 257) (by decide +kernel), List.mem_of_getElem? (i := 675) (by decide +kernel), List.mem_of_getElem? (i := 676) (by decide +kernel)⟩
theorem lw_p19 : lw_okq (⟨"GateFlow$Net", "passLayered", "(II)I"⟩, 10) := ⟨⟨by decide +kernel, by decide +kernel⟩, List.mem_of_getElem? (i := 257) (by decide +kernel), List.mem_of_getElem? (i := 685) (by decide +kernel), List.mem_of_getElem? (i := 686) (by decide +kernel)⟩
theorem lw_p20 : lw_okq (⟨"GateFlow$Net", "passPath", "(I)I"⟩, 10) := ⟨⟨by decide +kernel, by decide +kernel⟩, List.mem_of_getElem? (i := 257) (by decide +kernel), List.mem_of_getElem? (i := 693) (by decide +kernel), List.mem_of_getElem? (i := 694) (by decide +kernel)⟩
theorem lw_p21 : lw_okq (⟨"GateFlow$Net", "deeperSide", "(I)I"⟩, 10) := ⟨⟨by decide +kernel, by decide +kernel⟩, List.mem_of_getElem? (i := 257) (by decide +kernel), List.mem_of_getElem? (i := 698) (by decide +kernel), List.mem_of_getElem? (i := 699) (by decide +kernel)⟩
theorem lw_p22 : lw_okq (⟨"GateFlow", "freshWorst", "()LGateFlow$Worst;"⟩, 16) := ⟨⟨by decide +kernel, by decide +kernel⟩, List.mem_of_getElem? (i := 23) (by decide +kernel), List.mem_of_getElem? (i := 714) (by decide +kernel), List.mem_of_getElem? (i := 715) (by decide +kernel)⟩
theorem lw_p23 : lw_okq (⟨"GateFlow", "freshStrands", "()LGateFlow$Strands;"⟩, 16) := ⟨⟨by decide +kernel, by decide +kernel⟩, List.mem_of_getElem? (i := 23) (by decide +kernel), List.mem_of_getElem? (i := 728) (by decide +kernel), List.mem_of_getElem? (i := 729) (by decide +kernel)⟩
theorem lw_p24 : lw_okq (⟨"GateFlow$Strands", "walk", "(LGateFlow$Gates;)Z"⟩, 9) := ⟨⟨by decide +kernel, by decide +kernel⟩, List.mem_of_getElem? (i := 211) (by decide +kernel), List.mem_of_getElem? (i := 736) (by decide +kernel), List.mem_of_getElem? (i := 737) (by decide +kernel)⟩
theorem lw_p25 : lw_okq (⟨"GateFlow$Strands", "firstLeft", "(LGateFlow$Gates;I)I"⟩, 9) := ⟨⟨by decide +kernel, by decide +kernel⟩, List.mem_of_getElem? (i := 211) (by decide +kernel), List.mem_of_getElem? (i := 741) (by decide +kernel), List.mem_of_getElem? (i := 742) (by decide +kernel)⟩
theorem lw_p26 : lw_okq (⟨"GateFlow$Strands", "takeStrand", "(III)V"⟩, 9) := ⟨⟨by decide +kernel, by decide +kernel⟩, List.mem_of_getElem? (i := 211) (by decide +kernel), List.mem_of_getElem? (i := 745) (by decide +kernel), List.mem_of_getElem? (i := 746) (by decide +kernel)⟩
theorem lw_p27 : lw_okq (⟨"GateFlow$Models", "joinAboveLeast", "(LGateFlow$Gates;)V"⟩, 3) := ⟨⟨by decide +kernel, by decide +kernel⟩, List.mem_of_getElem? (i := 251) (by decide +kernel), List.mem_of_getElem? (i := 759) (by decide +kernel), List.mem_of_getElem? (i := 760) (by decide +kernel)⟩
theorem lw_p28 : lw_okq (⟨"GateFlow$Gates", "isSameTwo", "(II)Z"⟩, 9) := ⟨⟨by decide +kernel, by decide +kernel⟩, List.mem_of_getElem? (i := 31) (by decide +kernel), List.mem_of_getElem? (i := 801) (by decide +kernel), List.mem_of_getElem? (i := 802) (by decide +kernel)⟩
theorem lw_p29 : lw_okq (⟨"GateFlow", "ofTwo", "(II)I"⟩, 16) := ⟨⟨by decide +kernel, by decide +kernel⟩, List.mem_of_getElem? (i := 23) (by decide +kernel), List.mem_of_getElem? (i := 805) (by decide +kernel), List.mem_of_getElem? (i := 806) (by decide +kernel)⟩
theorem lw_p30 : lw_okq (⟨"GateFlow", "takeCondition", "()I"⟩, 16) := ⟨⟨by decide +kernel, by decide +kernel⟩, List.mem_of_getElem? (i := 23) (by decide +kernel), List.mem_of_getElem? (i := 883) (by decide +kernel), List.mem_of_getElem? (i := 884) (by decide +kernel)⟩
theorem lw_p31 : lw_okq (⟨"GateFlow$Condition", "openBracket", "(I)V"⟩, 4) := ⟨⟨by decide +kernel, by decide +kernel⟩, List.mem_of_getElem? (i := 352) (by decide +kernel), List.mem_of_getElem? (i := 891) (by decide +kernel), List.mem_of_getElem? (i := 892) (by decide +kernel)⟩
def lw_privs_2 : List (MethodName × Nat) := [(⟨"GateFlow$Net", "isInNet", "(I)Z"⟩, 10), (⟨"GateFlow$Net", "addSide", "(III)V"⟩, 10), (⟨"GateFlow$Net", "layered", "(II)Z"⟩, 10), (⟨"GateFlow$Net", "passLayered", "(II)I"⟩, 10), (⟨"GateFlow$Net", "passPath", "(I)I"⟩, 10), (⟨"GateFlow$Net", "deeperSide", "(I)I"⟩, 10), (⟨"GateFlow", "freshWorst", "()LGateFlow$Worst;"⟩, 16), (⟨"GateFlow", "freshStrands", "()LGateFlow$Strands;"⟩, 16), (⟨"GateFlow$Strands", "walk", "(LGateFlow$Gates;)Z"⟩, 9), (⟨"GateFlow$Strands", "firstLeft", "(LGateFlow$Gates;I)I"⟩, 9), (⟨"GateFlow$Strands", "takeStrand", "(III)V"⟩, 9), (⟨"GateFlow$Models", "joinAboveLeast", "(LGateFlow$Gates;)V"⟩, 3), (⟨"GateFlow$Gates", "isSameTwo", "(II)Z"⟩, 9), (⟨"GateFlow", "ofTwo", "(II)I"⟩, 16), (⟨"GateFlow", "takeCondition", "()I"⟩, 16), (⟨"GateFlow$Condition", "openBracket", "(I)V"⟩, 4)]
theorem lw_r2 : ∀ q ∈ lw_privs_2, lw_okq q := List.forall_mem_cons.mpr ⟨lw_p16, List.forall_mem_cons.mpr ⟨lw_p17, List.forall_mem_cons.mpr ⟨lw_p18, List.forall_mem_cons.mpr ⟨lw_p19, List.forall_mem_cons.mpr ⟨lw_p20, List.forall_mem_cons.mpr ⟨lw_p21, List.forall_mem_cons.mpr ⟨lw_p22, List.forall_mem_cons.mpr ⟨lw_p23, List.forall_mem_cons.mpr ⟨lw_p24, List.forall_mem_cons.mpr ⟨lw_p25, List.forall_mem_cons.mpr ⟨lw_p26, List.forall_mem_cons.mpr ⟨lw_p27, List.forall_mem_cons.mpr ⟨lw_p28, List.forall_mem_cons.mpr ⟨lw_p29, List.forall_mem_cons.mpr ⟨lw_p30, List.forall_mem_cons.mpr ⟨lw_p31, fun _ h => absurd h List.not_mem_nil⟩⟩⟩⟩⟩⟩⟩⟩⟩⟩⟩⟩⟩⟩⟩⟩
theorem lw_p32 : lw_okq (⟨"GateFlow$Condition", "takeOpening", "(LGateFlow$Tape;)Z"⟩, 4) := ⟨⟨by decide +kernel, by decide +kernel⟩, List.mem_of_getElem? (i := 352) (by decide +kernel), List.mem_of_getElem? (i := 897) (by decide +kernel), List.mem_of_getElem? (i := 898) (by decide +kernel)⟩
theorem lw_p33 : lw_okq (⟨"GateFlow$Condition", "takeComparison", "(LGateFlow$Tape;LGateFlow$Gates;[I)I"⟩, 4) := ⟨⟨by decide +kernel, by decide +kernel⟩, List.mem_of_getElem? (i := 352) (by decide +kernel), List.mem_of_getElem? (i := 902) (by decide +kernel), List.mem_of_getElem? (i := 903) (by decide +kernel)⟩
theorem lw_p34 : lw_okq (⟨"GateFlow$Condition", "takeWord", "(LGateFlow$Tape;)I"⟩, 4) := ⟨⟨by decide +kernel, by decide +kernel⟩, List.mem_of_getElem? (i := 352) (by decide +kernel), List.mem_of_getElem? (i := 906) (by decide +kernel), List.mem_of_getElem? (i := 907) (by decide +kernel)⟩
theorem lw_p35 : lw_okq (⟨"GateFlow$Condition", "putPart", "(I)V"⟩, 4) := ⟨⟨by decide +kernel, by decide +kernel⟩, List.mem_of_getElem? (i := 352) (by decide +kernel), List.mem_of_getElem? (i := 979) (by decide +kernel), List.mem_of_getElem? (i := 980) (by decide +kernel)⟩
theorem lw_p36 : lw_okq (⟨"GateFlow$Condition", "takeJoint", "(LGateFlow$Tape;)Z"⟩, 4) := ⟨⟨by decide +kernel, by decide +kernel⟩, List.mem_of_getElem? (i := 352) (by decide +kernel), List.mem_of_getElem? (i := 987) (by decide +kernel), List.mem_of_getElem? (i := 988) (by decide +kernel)⟩
theorem lw_p37 : lw_okq (⟨"GateFlow$Paper", "putSign", "(I)V"⟩, 2) := ⟨⟨by decide +kernel, by decide +kernel⟩, List.mem_of_getElem? (i := 371) (by decide +kernel), List.mem_of_getElem? (i := 1014) (by decide +kernel), List.mem_of_getElem? (i := 1015) (by decide +kernel)⟩
theorem lw_p38 : lw_okq (⟨"GateFlow$Paper", "putNumber", "(I)V"⟩, 2) := ⟨⟨by decide +kernel, by decide +kernel⟩, List.mem_of_getElem? (i := 371) (by decide +kernel), List.mem_of_getElem? (i := 1018) (by decide +kernel), List.mem_of_getElem? (i := 1019) (by decide +kernel)⟩
theorem lw_p39 : lw_okq (⟨"GateFlow$Paper", "putPassage", "(III)V"⟩, 2) := ⟨⟨by decide +kernel, by decide +kernel⟩, List.mem_of_getElem? (i := 371) (by decide +kernel), List.mem_of_getElem? (i := 1022) (by decide +kernel), List.mem_of_getElem? (i := 1023) (by decide +kernel)⟩
theorem lw_p40 : lw_okq (⟨"GateFlow$Lists", "goesLessComes", "(IILGateFlow$Gates;I)I"⟩, 2) := ⟨⟨by decide +kernel, by decide +kernel⟩, List.mem_of_getElem? (i := 386) (by decide +kernel), List.mem_of_getElem? (i := 1100) (by decide +kernel), List.mem_of_getElem? (i := 1101) (by decide +kernel)⟩
theorem lw_p41 : lw_okq (⟨"GateFlowModel", "comes", "(IIIIII)V"⟩, 39) := ⟨⟨by decide +kernel, by decide +kernel⟩, List.mem_of_getElem? (i := 1118) (by decide +kernel), List.mem_of_getElem? (i := 1253) (by decide +kernel), List.mem_of_getElem? (i := 1254) (by decide +kernel)⟩
theorem lw_p42 : lw_okq (⟨"GateFlowModel", "sets", "(III)V"⟩, 39) := ⟨⟨by decide +kernel, by decide +kernel⟩, List.mem_of_getElem? (i := 1118) (by decide +kernel), List.mem_of_getElem? (i := 1257) (by decide +kernel), List.mem_of_getElem? (i := 1258) (by decide +kernel)⟩
theorem lw_p43 : lw_okq (⟨"GateFlowModel", "isGate", "(I)Z"⟩, 39) := ⟨⟨by decide +kernel, by decide +kernel⟩, List.mem_of_getElem? (i := 1118) (by decide +kernel), List.mem_of_getElem? (i := 1265) (by decide +kernel), List.mem_of_getElem? (i := 1266) (by decide +kernel)⟩
theorem lw_p44 : lw_okq (⟨"GateFlowModel", "at", "(II)I"⟩, 39) := ⟨⟨by decide +kernel, by decide +kernel⟩, List.mem_of_getElem? (i := 1118) (by decide +kernel), List.mem_of_getElem? (i := 1269) (by decide +kernel), List.mem_of_getElem? (i := 1270) (by decide +kernel)⟩
theorem lw_p45 : lw_okq (⟨"GateFlowModel", "becomes", "(III)I"⟩, 39) := ⟨⟨by decide +kernel, by decide +kernel⟩, List.mem_of_getElem? (i := 1118) (by decide +kernel), List.mem_of_getElem? (i := 1277) (by decide +kernel), List.mem_of_getElem? (i := 1278) (by decide +kernel)⟩
theorem lw_p46 : lw_okq (⟨"GateFlowModel", "flowsNow", "()I"⟩, 39) := ⟨⟨by decide +kernel, by decide +kernel⟩, List.mem_of_getElem? (i := 1118) (by decide +kernel), List.mem_of_getElem? (i := 1301) (by decide +kernel), List.mem_of_getElem? (i := 1302) (by decide +kernel)⟩
theorem lw_p47 : lw_okq (⟨"GateFlowModel", "mayAll", "()V"⟩, 39) := ⟨⟨by decide +kernel, by decide +kernel⟩, List.mem_of_getElem? (i := 1118) (by decide +kernel), List.mem_of_getElem? (i := 1305) (by decide +kernel), List.mem_of_getElem? (i := 1306) (by decide +kernel)⟩
def lw_privs_3 : List (MethodName × Nat) := [(⟨"GateFlow$Condition", "takeOpening", "(LGateFlow$Tape;)Z"⟩, 4), (⟨"GateFlow$Condition", "takeComparison", "(LGateFlow$Tape;LGateFlow$Gates;[I)I"⟩, 4), (⟨"GateFlow$Condition", "takeWord", "(LGateFlow$Tape;)I"⟩, 4), (⟨"GateFlow$Condition", "putPart", "(I)V"⟩, 4), (⟨"GateFlow$Condition", "takeJoint", "(LGateFlow$Tape;)Z"⟩, 4), (⟨"GateFlow$Paper", "putSign", "(I)V"⟩, 2), (⟨"GateFlow$Paper", "putNumber", "(I)V"⟩, 2), (⟨"GateFlow$Paper", "putPassage", "(III)V"⟩, 2), (⟨"GateFlow$Lists", "goesLessComes", "(IILGateFlow$Gates;I)I"⟩, 2), (⟨"GateFlowModel", "comes", "(IIIIII)V"⟩, 39), (⟨"GateFlowModel", "sets", "(III)V"⟩, 39), (⟨"GateFlowModel", "isGate", "(I)Z"⟩, 39), (⟨"GateFlowModel", "at", "(II)I"⟩, 39), (⟨"GateFlowModel", "becomes", "(III)I"⟩, 39), (⟨"GateFlowModel", "flowsNow", "()I"⟩, 39), (⟨"GateFlowModel", "mayAll", "()V"⟩, 39)]
theorem lw_r3 : ∀ q ∈ lw_privs_3, lw_okq q := List.forall_mem_cons.mpr ⟨lw_p32, List.forall_mem_cons.mpr ⟨lw_p33, List.forall_mem_cons.mpr ⟨lw_p34, List.forall_mem_cons.mpr ⟨lw_p35, List.forall_mem_cons.mpr ⟨lw_p36, List.forall_mem_cons.mpr ⟨lw_p37, List.forall_mem_cons.mpr ⟨lw_p38, List.forall_mem_cons.mpr ⟨lw_p39, List.forall_mem_cons.mpr ⟨lw_p40, List.forall_mem_cons.mpr ⟨lw_p41, List.forall_mem_cons.mpr ⟨lw_p42, List.forall_mem_cons.mpr ⟨lw_p43, List.forall_mem_cons.mpr ⟨lw_p44, List.forall_mem_cons.mpr ⟨lw_p45, List.forall_mem_cons.mpr ⟨lw_p46, List.forall_mem_cons.mpr ⟨lw_p47, fun _ h => absurd h List.not_mem_nil⟩⟩⟩⟩⟩⟩⟩⟩⟩⟩⟩⟩⟩⟩⟩⟩
theorem lw_p48 : lw_okq (⟨"GateFlowModel", "capacity", "(I)I"⟩, 39) := ⟨⟨by decide +kernel, by decide +kernel⟩, List.mem_of_getElem? (i := 1118) (by decide +kernel), List.mem_of_getElem? (i := 1309) (by decide +kernel), List.mem_of_getElem? (i := 1310) (by decide +kernel)⟩
theorem lw_p49 : lw_okq (⟨"GateFlowModel", "isOpen", "(I)Z"⟩, 39) := ⟨⟨by decide +kernel, by decide +kernel⟩, List.mem_of_getElem? (i := 1118) (by decide +kernel), List.mem_of_getElem? (i := 1313) (by decide +kernel), List.mem_of_getElem? (i := 1314) (by decide +kernel)⟩
theorem lw_p50 : lw_okq (⟨"GateFlowModel", "flows", "()I"⟩, 39) := ⟨⟨by decide +kernel, by decide +kernel⟩, List.mem_of_getElem? (i := 1118) (by decide +kernel), List.mem_of_getElem? (i := 1317) (by decide +kernel), List.mem_of_getElem? (i := 1318) (by decide +kernel)⟩
theorem lw_p51 : lw_okq (⟨"GateFlowModel", "measures", "(IZ)V"⟩, 39) := ⟨⟨by decide +kernel, by decide +kernel⟩, List.mem_of_getElem? (i := 1118) (by decide +kernel), List.mem_of_getElem? (i := 1321) (by decide +kernel), List.mem_of_getElem? (i := 1322) (by decide +kernel)⟩
theorem lw_p52 : lw_okq (⟨"GateFlowModel", "stepAt", "(I)I"⟩, 39) := ⟨⟨by decide +kernel, by decide +kernel⟩, List.mem_of_getElem? (i := 1118) (by decide +kernel), List.mem_of_getElem? (i := 1325) (by decide +kernel), List.mem_of_getElem? (i := 1326) (by decide +kernel)⟩
theorem lw_p53 : lw_okq (⟨"GateFlowModel", "stepTo", "(I)I"⟩, 39) := ⟨⟨by decide +kernel, by decide +kernel⟩, List.mem_of_getElem? (i := 1118) (by decide +kernel), List.mem_of_getElem? (i := 1329) (by decide +kernel), List.mem_of_getElem? (i := 1330) (by decide +kernel)⟩
theorem lw_p54 : lw_okq (⟨"GateFlowModel", "stepFrom", "(I)I"⟩, 39) := ⟨⟨by decide +kernel, by decide +kernel⟩, List.mem_of_getElem? (i := 1118) (by decide +kernel), List.mem_of_getElem? (i := 1333) (by decide +kernel), List.mem_of_getElem? (i := 1334) (by decide +kernel)⟩
theorem lw_p55 : lw_okq (⟨"GateFlowModel", "room", "(I)I"⟩, 39) := ⟨⟨by decide +kernel, by decide +kernel⟩, List.mem_of_getElem? (i := 1118) (by decide +kernel), List.mem_of_getElem? (i := 1337) (by decide +kernel), List.mem_of_getElem? (i := 1338) (by decide +kernel)⟩
theorem lw_p56 : lw_okq (⟨"GateFlowModel", "stepOn", "(I)I"⟩, 39) := ⟨⟨by decide +kernel, by decide +kernel⟩, List.mem_of_getElem? (i := 1118) (by decide +kernel), List.mem_of_getElem? (i := 1342) (by decide +kernel), List.mem_of_getElem? (i := 1343) (by decide +kernel)⟩
theorem lw_p57 : lw_okq (⟨"GateFlowModel", "flowsByHeights", "()V"⟩, 39) := ⟨⟨by decide +kernel, by decide +kernel⟩, List.mem_of_getElem? (i := 1118) (by decide +kernel), List.mem_of_getElem? (i := 1359) (by decide +kernel), List.mem_of_getElem? (i := 1360) (by decide +kernel)⟩
theorem lw_p58 : lw_okq (⟨"GateFlowModel", "pushes", "(II)V"⟩, 39) := ⟨⟨by decide +kernel, by decide +kernel⟩, List.mem_of_getElem? (i := 1118) (by decide +kernel), List.mem_of_getElem? (i := 1363) (by decide +kernel), List.mem_of_getElem? (i := 1364) (by decide +kernel)⟩
theorem lw_p59 : lw_okq (⟨"GateFlowModel", "serves", "(I)V"⟩, 39) := ⟨⟨by decide +kernel, by decide +kernel⟩, List.mem_of_getElem? (i := 1118) (by decide +kernel), List.mem_of_getElem? (i := 1367) (by decide +kernel), List.mem_of_getElem? (i := 1368) (by decide +kernel)⟩
theorem lw_p60 : lw_okq (⟨"GateFlowModel", "downStep", "(I)I"⟩, 39) := ⟨⟨by decide +kernel, by decide +kernel⟩, List.mem_of_getElem? (i := 1118) (by decide +kernel), List.mem_of_getElem? (i := 1371) (by decide +kernel), List.mem_of_getElem? (i := 1372) (by decide +kernel)⟩
theorem lw_p61 : lw_okq (⟨"GateFlowModel", "lifts", "(I)V"⟩, 39) := ⟨⟨by decide +kernel, by decide +kernel⟩, List.mem_of_getElem? (i := 1118) (by decide +kernel), List.mem_of_getElem? (i := 1375) (by decide +kernel), List.mem_of_getElem? (i := 1376) (by decide +kernel)⟩
theorem lw_p62 : lw_okq (⟨"GateFlowModel", "reached", "()I"⟩, 39) := ⟨⟨by decide +kernel, by decide +kernel⟩, List.mem_of_getElem? (i := 1118) (by decide +kernel), List.mem_of_getElem? (i := 1387) (by decide +kernel), List.mem_of_getElem? (i := 1388) (by decide +kernel)⟩
theorem lw_p63 : lw_okq (⟨"GateFlowModel", "flowsWith", "(II)I"⟩, 39) := ⟨⟨by decide +kernel, by decide +kernel⟩, List.mem_of_getElem? (i := 1118) (by decide +kernel), List.mem_of_getElem? (i := 1405) (by decide +kernel), List.mem_of_getElem? (i := 1406) (by decide +kernel)⟩
def lw_privs_4 : List (MethodName × Nat) := [(⟨"GateFlowModel", "capacity", "(I)I"⟩, 39), (⟨"GateFlowModel", "isOpen", "(I)Z"⟩, 39), (⟨"GateFlowModel", "flows", "()I"⟩, 39), (⟨"GateFlowModel", "measures", "(IZ)V"⟩, 39), (⟨"GateFlowModel", "stepAt", "(I)I"⟩, 39), (⟨"GateFlowModel", "stepTo", "(I)I"⟩, 39), (⟨"GateFlowModel", "stepFrom", "(I)I"⟩, 39), (⟨"GateFlowModel", "room", "(I)I"⟩, 39), (⟨"GateFlowModel", "stepOn", "(I)I"⟩, 39), (⟨"GateFlowModel", "flowsByHeights", "()V"⟩, 39), (⟨"GateFlowModel", "pushes", "(II)V"⟩, 39), (⟨"GateFlowModel", "serves", "(I)V"⟩, 39), (⟨"GateFlowModel", "downStep", "(I)I"⟩, 39), (⟨"GateFlowModel", "lifts", "(I)V"⟩, 39), (⟨"GateFlowModel", "reached", "()I"⟩, 39), (⟨"GateFlowModel", "flowsWith", "(II)I"⟩, 39)]
theorem lw_r4 : ∀ q ∈ lw_privs_4, lw_okq q := List.forall_mem_cons.mpr ⟨lw_p48, List.forall_mem_cons.mpr ⟨lw_p49, List.forall_mem_cons.mpr ⟨lw_p50, List.forall_mem_cons.mpr ⟨lw_p51, List.forall_mem_cons.mpr ⟨lw_p52, List.forall_mem_cons.mpr ⟨lw_p53, List.forall_mem_cons.mpr ⟨lw_p54, List.forall_mem_cons.mpr ⟨lw_p55, List.forall_mem_cons.mpr ⟨lw_p56, List.forall_mem_cons.mpr ⟨lw_p57, List.forall_mem_cons.mpr ⟨lw_p58, List.forall_mem_cons.mpr ⟨lw_p59, List.forall_mem_cons.mpr ⟨lw_p60, List.forall_mem_cons.mpr ⟨lw_p61, List.forall_mem_cons.mpr ⟨lw_p62, List.forall_mem_cons.mpr ⟨lw_p63, fun _ h => absurd h List.not_mem_nil⟩⟩⟩⟩⟩⟩⟩⟩⟩⟩⟩⟩⟩⟩⟩⟩
theorem lw_p64 : lw_okq (⟨"GateFlowModel", "lossOf", "(II)I"⟩, 39) := ⟨⟨by decide +kernel, by decide +kernel⟩, List.mem_of_getElem? (i := 1118) (by decide +kernel), List.mem_of_getElem? (i := 1421) (by decide +kernel), List.mem_of_getElem? (i := 1422) (by decide +kernel)⟩
theorem lw_p65 : lw_okq (⟨"GateFlowModel", "findLines", "()V"⟩, 39) := ⟨⟨by decide +kernel, by decide +kernel⟩, List.mem_of_getElem? (i := 1118) (by decide +kernel), List.mem_of_getElem? (i := 1433) (by decide +kernel), List.mem_of_getElem? (i := 1434) (by decide +kernel)⟩
theorem lw_p66 : lw_okq (⟨"GateFlowModel", "watered", "(I)I"⟩, 39) := ⟨⟨by decide +kernel, by decide +kernel⟩, List.mem_of_getElem? (i := 1118) (by decide +kernel), List.mem_of_getElem? (i := 1437) (by decide +kernel), List.mem_of_getElem? (i := 1438) (by decide +kernel)⟩
theorem lw_p67 : lw_okq (⟨"GateFlowModel", "takes", "()V"⟩, 39) := ⟨⟨by decide +kernel, by decide +kernel⟩, List.mem_of_getElem? (i := 1118) (by decide +kernel), List.mem_of_getElem? (i := 1441) (by decide +kernel), List.mem_of_getElem? (i := 1442) (by decide +kernel)⟩
theorem lw_p68 : lw_okq (⟨"GateFlowModel", "clears", "(I)V"⟩, 39) := ⟨⟨by decide +kernel, by decide +kernel⟩, List.mem_of_getElem? (i := 1118) (by decide +kernel), List.mem_of_getElem? (i := 1450) (by decide +kernel), List.mem_of_getElem? (i := 1451) (by decide +kernel)⟩
theorem lw_p69 : lw_okq (⟨"GateFlowModel", "adds", "(III)V"⟩, 39) := ⟨⟨by decide +kernel, by decide +kernel⟩, List.mem_of_getElem? (i := 1118) (by decide +kernel), List.mem_of_getElem? (i := 1454) (by decide +kernel), List.mem_of_getElem? (i := 1455) (by decide +kernel)⟩
theorem lw_p70 : lw_okq (⟨"GateFlowModel", "passes", "(II)I"⟩, 39) := ⟨⟨by decide +kernel, by decide +kernel⟩, List.mem_of_getElem? (i := 1118) (by decide +kernel), List.mem_of_getElem? (i := 1458) (by decide +kernel), List.mem_of_getElem? (i := 1459) (by decide +kernel)⟩
theorem lw_p71 : lw_okq (⟨"GateFlowModel", "findsWay", "(II)Z"⟩, 39) := ⟨⟨by decide +kernel, by decide +kernel⟩, List.mem_of_getElem? (i := 1118) (by decide +kernel), List.mem_of_getElem? (i := 1462) (by decide +kernel), List.mem_of_getElem? (i := 1463) (by decide +kernel)⟩
theorem lw_p72 : lw_okq (⟨"GateFlowModel", "parts", "(I)V"⟩, 39) := ⟨⟨by decide +kernel, by decide +kernel⟩, List.mem_of_getElem? (i := 1118) (by decide +kernel), List.mem_of_getElem? (i := 1466) (by decide +kernel), List.mem_of_getElem? (i := 1467) (by decide +kernel)⟩
theorem lw_p73 : lw_okq (⟨"GateFlowModel", "isFirst", "(I)Z"⟩, 39) := ⟨⟨by decide +kernel, by decide +kernel⟩, List.mem_of_getElem? (i := 1118) (by decide +kernel), List.mem_of_getElem? (i := 1483) (by decide +kernel), List.mem_of_getElem? (i := 1484) (by decide +kernel)⟩
theorem lw_p74 : lw_okq (⟨"GateFlowModel", "areAlike", "(II)Z"⟩, 39) := ⟨⟨by decide +kernel, by decide +kernel⟩, List.mem_of_getElem? (i := 1118) (by decide +kernel), List.mem_of_getElem? (i := 1487) (by decide +kernel), List.mem_of_getElem? (i := 1488) (by decide +kernel)⟩
theorem lw_p75 : lw_okq (⟨"GateFlowModel", "tellsTwo", "(II)I"⟩, 39) := ⟨⟨by decide +kernel, by decide +kernel⟩, List.mem_of_getElem? (i := 1118) (by decide +kernel), List.mem_of_getElem? (i := 1491) (by decide +kernel), List.mem_of_getElem? (i := 1492) (by decide +kernel)⟩
theorem lw_p76 : lw_okq (⟨"GateFlowModel", "readBook", "(Z)V"⟩, 39) := ⟨⟨by decide +kernel, by decide +kernel⟩, List.mem_of_getElem? (i := 1118) (by decide +kernel), List.mem_of_getElem? (i := 1511) (by decide +kernel), List.mem_of_getElem? (i := 1512) (by decide +kernel)⟩
theorem lw_p77 : lw_okq (⟨"GateFlowModel", "begins", "()V"⟩, 39) := ⟨⟨by decide +kernel, by decide +kernel⟩, List.mem_of_getElem? (i := 1118) (by decide +kernel), List.mem_of_getElem? (i := 1515) (by decide +kernel), List.mem_of_getElem? (i := 1516) (by decide +kernel)⟩
theorem lw_p78 : lw_okq (⟨"GateFlowModel", "readGate", "(Z)V"⟩, 39) := ⟨⟨by decide +kernel, by decide +kernel⟩, List.mem_of_getElem? (i := 1118) (by decide +kernel), List.mem_of_getElem? (i := 1519) (by decide +kernel), List.mem_of_getElem? (i := 1520) (by decide +kernel)⟩
theorem lw_p79 : lw_okq (⟨"GateFlowModel", "wrong", "(I)V"⟩, 39) := ⟨⟨by decide +kernel, by decide +kernel⟩, List.mem_of_getElem? (i := 1118) (by decide +kernel), List.mem_of_getElem? (i := 1523) (by decide +kernel), List.mem_of_getElem? (i := 1524) (by decide +kernel)⟩
def lw_privs_5 : List (MethodName × Nat) := [(⟨"GateFlowModel", "lossOf", "(II)I"⟩, 39), (⟨"GateFlowModel", "findLines", "()V"⟩, 39), (⟨"GateFlowModel", "watered", "(I)I"⟩, 39), (⟨"GateFlowModel", "takes", "()V"⟩, 39), (⟨"GateFlowModel", "clears", "(I)V"⟩, 39), (⟨"GateFlowModel", "adds", "(III)V"⟩, 39), (⟨"GateFlowModel", "passes", "(II)I"⟩, 39), (⟨"GateFlowModel", "findsWay", "(II)Z"⟩, 39), (⟨"GateFlowModel", "parts", "(I)V"⟩, 39), (⟨"GateFlowModel", "isFirst", "(I)Z"⟩, 39), (⟨"GateFlowModel", "areAlike", "(II)Z"⟩, 39), (⟨"GateFlowModel", "tellsTwo", "(II)I"⟩, 39), (⟨"GateFlowModel", "readBook", "(Z)V"⟩, 39), (⟨"GateFlowModel", "begins", "()V"⟩, 39), (⟨"GateFlowModel", "readGate", "(Z)V"⟩, 39), (⟨"GateFlowModel", "wrong", "(I)V"⟩, 39)]
theorem lw_r5 : ∀ q ∈ lw_privs_5, lw_okq q := List.forall_mem_cons.mpr ⟨lw_p64, List.forall_mem_cons.mpr ⟨lw_p65, List.forall_mem_cons.mpr ⟨lw_p66, List.forall_mem_cons.mpr ⟨lw_p67, List.forall_mem_cons.mpr ⟨lw_p68, List.forall_mem_cons.mpr ⟨lw_p69, List.forall_mem_cons.mpr ⟨lw_p70, List.forall_mem_cons.mpr ⟨lw_p71, List.forall_mem_cons.mpr ⟨lw_p72, List.forall_mem_cons.mpr ⟨lw_p73, List.forall_mem_cons.mpr ⟨lw_p74, List.forall_mem_cons.mpr ⟨lw_p75, List.forall_mem_cons.mpr ⟨lw_p76, List.forall_mem_cons.mpr ⟨lw_p77, List.forall_mem_cons.mpr ⟨lw_p78, List.forall_mem_cons.mpr ⟨lw_p79, fun _ h => absurd h List.not_mem_nil⟩⟩⟩⟩⟩⟩⟩⟩⟩⟩⟩⟩⟩⟩⟩⟩
theorem lw_p80 : lw_okq (⟨"GateFlowModel", "number", "(III)I"⟩, 39) := ⟨⟨by decide +kernel, by decide +kernel⟩, List.mem_of_getElem? (i := 1118) (by decide +kernel), List.mem_of_getElem? (i := 1527) (by decide +kernel), List.mem_of_getElem? (i := 1528) (by decide +kernel)⟩
theorem lw_p81 : lw_okq (⟨"GateFlowModel", "here", "()I"⟩, 39) := ⟨⟨by decide +kernel, by decide +kernel⟩, List.mem_of_getElem? (i := 1118) (by decide +kernel), List.mem_of_getElem? (i := 1531) (by decide +kernel), List.mem_of_getElem? (i := 1532) (by decide +kernel)⟩
theorem lw_p82 : lw_okq (⟨"GateFlowModel", "must", "(I)V"⟩, 39) := ⟨⟨by decide +kernel, by decide +kernel⟩, List.mem_of_getElem? (i := 1118) (by decide +kernel), List.mem_of_getElem? (i := 1535) (by decide +kernel), List.mem_of_getElem? (i := 1536) (by decide +kernel)⟩
theorem lw_p83 : lw_okq (⟨"GateFlowModel", "takes", "(I)Z"⟩, 39) := ⟨⟨by decide +kernel, by decide +kernel⟩, List.mem_of_getElem? (i := 1118) (by decide +kernel), List.mem_of_getElem? (i := 1539) (by decide +kernel), List.mem_of_getElem? (i := 1540) (by decide +kernel)⟩
theorem lw_p84 : lw_okq (⟨"GateFlowModel", "meant", "()I"⟩, 39) := ⟨⟨by decide +kernel, by decide +kernel⟩, List.mem_of_getElem? (i := 1118) (by decide +kernel), List.mem_of_getElem? (i := 1547) (by decide +kernel), List.mem_of_getElem? (i := 1548) (by decide +kernel)⟩
theorem lw_p85 : lw_okq (⟨"GateFlowModel", "isSo", "(I)Z"⟩, 39) := ⟨⟨by decide +kernel, by decide +kernel⟩, List.mem_of_getElem? (i := 1118) (by decide +kernel), List.mem_of_getElem? (i := 1551) (by decide +kernel), List.mem_of_getElem? (i := 1552) (by decide +kernel)⟩
theorem lw_p86 : lw_okq (⟨"GateFlowModel", "either", "()Z"⟩, 39) := ⟨⟨by decide +kernel, by decide +kernel⟩, List.mem_of_getElem? (i := 1118) (by decide +kernel), List.mem_of_getElem? (i := 1555) (by decide +kernel), List.mem_of_getElem? (i := 1556) (by decide +kernel)⟩
theorem lw_p87 : lw_okq (⟨"GateFlowModel", "both", "()Z"⟩, 39) := ⟨⟨by decide +kernel, by decide +kernel⟩, List.mem_of_getElem? (i := 1118) (by decide +kernel), List.mem_of_getElem? (i := 1559) (by decide +kernel), List.mem_of_getElem? (i := 1560) (by decide +kernel)⟩
theorem lw_p88 : lw_okq (⟨"GateFlowModel", "one", "()Z"⟩, 39) := ⟨⟨by decide +kernel, by decide +kernel⟩, List.mem_of_getElem? (i := 1118) (by decide +kernel), List.mem_of_getElem? (i := 1563) (by decide +kernel), List.mem_of_getElem? (i := 1564) (by decide +kernel)⟩
theorem lw_p89 : lw_okq (⟨"GateFlowModel", "word", "()I"⟩, 39) := ⟨⟨by decide +kernel, by decide +kernel⟩, List.mem_of_getElem? (i := 1118) (by decide +kernel), List.mem_of_getElem? (i := 1567) (by decide +kernel), List.mem_of_getElem? (i := 1568) (by decide +kernel)⟩
theorem lw_p90 : lw_okq (⟨"GateFlowModel", "valueOf", "(II)I"⟩, 39) := ⟨⟨by decide +kernel, by decide +kernel⟩, List.mem_of_getElem? (i := 1118) (by decide +kernel), List.mem_of_getElem? (i := 1574) (by decide +kernel), List.mem_of_getElem? (i := 1575) (by decide +kernel)⟩
theorem lw_p91 : lw_okq (⟨"GateFlowModel", "puts", "(I)V"⟩, 39) := ⟨⟨by decide +kernel, by decide +kernel⟩, List.mem_of_getElem? (i := 1118) (by decide +kernel), List.mem_of_getElem? (i := 1591) (by decide +kernel), List.mem_of_getElem? (i := 1592) (by decide +kernel)⟩
theorem lw_p92 : lw_okq (⟨"GateFlowModel", "putsNumber", "(I)V"⟩, 39) := ⟨⟨by decide +kernel, by decide +kernel⟩, List.mem_of_getElem? (i := 1118) (by decide +kernel), List.mem_of_getElem? (i := 1595) (by decide +kernel), List.mem_of_getElem? (i := 1596) (by decide +kernel)⟩
theorem lw_p93 : lw_okq (⟨"GateFlowModel", "openMany", "()I"⟩, 39) := ⟨⟨by decide +kernel, by decide +kernel⟩, List.mem_of_getElem? (i := 1118) (by decide +kernel), List.mem_of_getElem? (i := 1607) (by decide +kernel), List.mem_of_getElem? (i := 1608) (by decide +kernel)⟩
theorem lw_p94 : lw_okq (⟨"GateFlowModel", "capacities", "(II)I"⟩, 39) := ⟨⟨by decide +kernel, by decide +kernel⟩, List.mem_of_getElem? (i := 1118) (by decide +kernel), List.mem_of_getElem? (i := 1611) (by decide +kernel), List.mem_of_getElem? (i := 1612) (by decide +kernel)⟩
theorem lw_p95 : lw_okq (⟨"GateFlowModel", "linesOf", "(Z)I"⟩, 39) := ⟨⟨by decide +kernel, by decide +kernel⟩, List.mem_of_getElem? (i := 1118) (by decide +kernel), List.mem_of_getElem? (i := 1616) (by decide +kernel), List.mem_of_getElem? (i := 1617) (by decide +kernel)⟩
def lw_privs_6 : List (MethodName × Nat) := [(⟨"GateFlowModel", "number", "(III)I"⟩, 39), (⟨"GateFlowModel", "here", "()I"⟩, 39), (⟨"GateFlowModel", "must", "(I)V"⟩, 39), (⟨"GateFlowModel", "takes", "(I)Z"⟩, 39), (⟨"GateFlowModel", "meant", "()I"⟩, 39), (⟨"GateFlowModel", "isSo", "(I)Z"⟩, 39), (⟨"GateFlowModel", "either", "()Z"⟩, 39), (⟨"GateFlowModel", "both", "()Z"⟩, 39), (⟨"GateFlowModel", "one", "()Z"⟩, 39), (⟨"GateFlowModel", "word", "()I"⟩, 39), (⟨"GateFlowModel", "valueOf", "(II)I"⟩, 39), (⟨"GateFlowModel", "puts", "(I)V"⟩, 39), (⟨"GateFlowModel", "putsNumber", "(I)V"⟩, 39), (⟨"GateFlowModel", "openMany", "()I"⟩, 39), (⟨"GateFlowModel", "capacities", "(II)I"⟩, 39), (⟨"GateFlowModel", "linesOf", "(Z)I"⟩, 39)]
theorem lw_r6 : ∀ q ∈ lw_privs_6, lw_okq q := List.forall_mem_cons.mpr ⟨lw_p80, List.forall_mem_cons.mpr ⟨lw_p81, List.forall_mem_cons.mpr ⟨lw_p82, List.forall_mem_cons.mpr ⟨lw_p83, List.forall_mem_cons.mpr ⟨lw_p84, List.forall_mem_cons.mpr ⟨lw_p85, List.forall_mem_cons.mpr ⟨lw_p86, List.forall_mem_cons.mpr ⟨lw_p87, List.forall_mem_cons.mpr ⟨lw_p88, List.forall_mem_cons.mpr ⟨lw_p89, List.forall_mem_cons.mpr ⟨lw_p90, List.forall_mem_cons.mpr ⟨lw_p91, List.forall_mem_cons.mpr ⟨lw_p92, List.forall_mem_cons.mpr ⟨lw_p93, List.forall_mem_cons.mpr ⟨lw_p94, List.forall_mem_cons.mpr ⟨lw_p95, fun _ h => absurd h List.not_mem_nil⟩⟩⟩⟩⟩⟩⟩⟩⟩⟩⟩⟩⟩⟩⟩⟩
def lw_privs : List (MethodName × Nat) := lw_privs_1 ++ (lw_privs_2 ++ (lw_privs_3 ++ (lw_privs_4 ++ (lw_privs_5 ++ (lw_privs_6)))))
def lw_tbl : List Cond := k2_sels lw_privs ++ tables_1
theorem lw_privs_ok : ∀ q ∈ lw_privs, lw_okq q := by
  show ∀ q ∈ lw_privs_1 ++ (lw_privs_2 ++ (lw_privs_3 ++ (lw_privs_4 ++ (lw_privs_5 ++ (lw_privs_6))))), lw_okq q
  exact List.forall_mem_append.mpr ⟨lw_r1, List.forall_mem_append.mpr ⟨lw_r2, List.forall_mem_append.mpr ⟨lw_r3, List.forall_mem_append.mpr ⟨lw_r4, List.forall_mem_append.mpr ⟨lw_r5, lw_r6⟩⟩⟩⟩⟩
end
section
def RX0 : String := "GateFlow$ByHeights"
def TX0 : u_T := fun k => match k with
  | 0 => ("GateFlow$ByHeights", "number", "[I", true)
  | 1 => ("GateFlow$ByHeights", "height", "[I", true)
  | 2 => ("GateFlow$ByHeights", "lifted", "[I", true)
  | 3 => ("GateFlow$ByHeights", "served", "[I", true)
  | 4 => ("GateFlow$ByHeights", "limit", "[I", true)
  | 5 => ("GateFlow$ByHeights", "excess", "[I", true)
  | 6 => ("GateFlow$ByHeights", "queue", "[I", true)
  | 7 => ("GateFlow$ByHeights", "queued", "[I", true)
  | 8 => ("GateFlow$ByHeights", "first", "I", false)
  | 9 => ("GateFlow$ByHeights", "waiting", "I", false)
  | _ => ("GateFlow$ByHeights", "pushes", "I", false)
def tyX0 : Nat → FieldType := fun k => match k with
  | 0 => .array .int
  | 1 => .array .int
  | 2 => .array .int
  | 3 => .array .int
  | 4 => .array .int
  | 5 => .array .int
  | 6 => .array .int
  | 7 => .array .int
  | 8 => .int
  | 9 => .int
  | _ => .int
theorem nmX0 : ∀ a, a < 11 → ∀ b, b < 11 → a ≠ b → (TX0 a).2.1 ≠ (TX0 b).2.1 := by decide +kernel
theorem tyX0_ok : ∀ k, k < 11 → parseFieldDescriptor (TX0 k).2.2.1 = some (tyX0 k) := by decide +kernel
abbrev cX0_init : ByteArray := prog_2_method_1_code
def yX0_init : MethodName := ⟨RX0, "<init>", "()V"⟩
abbrev cX0_run : ByteArray := prog_2_method_2_code
def yX0_run : MethodName := ⟨RX0, "run", "(LGateFlow$Gates;)V"⟩
abbrev cX0_begin : ByteArray := prog_2_method_3_code
def yX0_begin : MethodName := ⟨RX0, "begin", "(LGateFlow$Gates;)V"⟩
abbrev cX0_serve : ByteArray := prog_2_method_4_code
def yX0_serve : MethodName := ⟨RX0, "serve", "(LGateFlow$Gates;I)V"⟩
abbrev cX0_downStep : ByteArray := prog_2_method_5_code
def yX0_downStep : MethodName := ⟨RX0, "downStep", "(LGateFlow$Gates;I)I"⟩
abbrev cX0_lift : ByteArray := prog_2_method_6_code
def yX0_lift : MethodName := ⟨RX0, "lift", "(LGateFlow$Gates;I)Z"⟩
abbrev cX0_roomOf : ByteArray := prog_2_method_7_code
def yX0_roomOf : MethodName := ⟨RX0, "roomOf", "(I)I"⟩
abbrev cX0_push : ByteArray := prog_2_method_8_code
def yX0_push : MethodName := ⟨RX0, "push", "(LGateFlow$Gates;II)V"⟩
def RX1 : String := "GateFlow$ByWays"
def TX1 : u_T := fun k => match k with
  | 0 => ("GateFlow$ByWays", "number", "[I", true)
  | 1 => ("GateFlow$ByWays", "amounts", "[I", true)
  | 2 => ("GateFlow$ByWays", "lengths", "[I", true)
  | 3 => ("GateFlow$ByWays", "steps", "[I", true)
  | 4 => ("GateFlow$ByWays", "limit", "[I", true)
  | 5 => ("GateFlow$ByWays", "distance", "[I", true)
  | 6 => ("GateFlow$ByWays", "queue", "[I", true)
  | 7 => ("GateFlow$ByWays", "count", "I", false)
  | 8 => ("GateFlow$ByWays", "value", "I", false)
  | 9 => ("GateFlow$ByWays", "nearBits", "I", false)
  | _ => ("GateFlow$ByWays", "farBits", "I", false)
def tyX1 : Nat → FieldType := fun k => match k with
  | 0 => .array .int
  | 1 => .array .int
  | 2 => .array .int
  | 3 => .array .int
  | 4 => .array .int
  | 5 => .array .int
  | 6 => .array .int
  | 7 => .int
  | 8 => .int
  | 9 => .int
  | _ => .int
theorem nmX1 : ∀ a, a < 11 → ∀ b, b < 11 → a ≠ b → (TX1 a).2.1 ≠ (TX1 b).2.1 := by decide +kernel
theorem tyX1_ok : ∀ k, k < 11 → parseFieldDescriptor (TX1 k).2.2.1 = some (tyX1 k) := by decide +kernel
abbrev cX1_init : ByteArray := prog_3_method_1_code
def yX1_init : MethodName := ⟨RX1, "<init>", "()V"⟩
abbrev cX1_run : ByteArray := prog_3_method_2_code
def yX1_run : MethodName := ⟨RX1, "run", "(LGateFlow$Gates;)V"⟩
abbrev cX1_forward : ByteArray := prog_3_method_3_code
def yX1_forward : MethodName := ⟨RX1, "forward", "(I)Z"⟩
abbrev cX1_backward : ByteArray := prog_3_method_4_code
def yX1_backward : MethodName := ⟨RX1, "backward", "(I)Z"⟩
abbrev cX1_measure : ByteArray := prog_3_method_5_code
def yX1_measure : MethodName := ⟨RX1, "measure", "(LGateFlow$Gates;)V"⟩
abbrev cX1_takeWay : ByteArray := prog_3_method_6_code
def yX1_takeWay : MethodName := ⟨RX1, "takeWay", "(LGateFlow$Gates;)V"⟩
abbrev cX1_nextStep : ByteArray := prog_3_method_7_code
def yX1_nextStep : MethodName := ⟨RX1, "nextStep", "(LGateFlow$Gates;I)I"⟩
abbrev cX1_roomOf : ByteArray := prog_3_method_8_code
def yX1_roomOf : MethodName := ⟨RX1, "roomOf", "(I)I"⟩
abbrev cX1_pour : ByteArray := prog_3_method_9_code
def yX1_pour : MethodName := ⟨RX1, "pour", "(III)V"⟩
abbrev cX1_spreadAlong : ByteArray := prog_3_method_10_code
def yX1_spreadAlong : MethodName := ⟨RX1, "spreadAlong", "(LGateFlow$Gates;I)I"⟩
def RX2 : String := "GateFlow$Condition"
def TX2 : u_T := fun k => match k with
  | 0 => ("GateFlow$Condition", "ahead", "[I", true)
  | 1 => ("GateFlow$Condition", "behind", "[I", true)
  | 2 => ("GateFlow$Condition", "flip", "[I", true)
  | _ => ("GateFlow$Condition", "depth", "I", false)
def tyX2 : Nat → FieldType := fun k => match k with
  | 0 => .array .int
  | 1 => .array .int
  | 2 => .array .int
  | _ => .int
theorem nmX2 : ∀ a, a < 4 → ∀ b, b < 4 → a ≠ b → (TX2 a).2.1 ≠ (TX2 b).2.1 := by decide +kernel
theorem tyX2_ok : ∀ k, k < 4 → parseFieldDescriptor (TX2 k).2.2.1 = some (tyX2 k) := by decide +kernel
abbrev cX2_init : ByteArray := prog_4_method_1_code
def yX2_init : MethodName := ⟨RX2, "<init>", "()V"⟩
abbrev cX2_holding : ByteArray := prog_4_method_2_code
def yX2_holding : MethodName := ⟨RX2, "holding", "(LGateFlow$Tape;LGateFlow$Gates;[I)I"⟩
abbrev cX2_takeOpening : ByteArray := prog_4_method_3_code
def yX2_takeOpening : MethodName := ⟨RX2, "takeOpening", "(LGateFlow$Tape;)Z"⟩
abbrev cX2_takeJoint : ByteArray := prog_4_method_4_code
def yX2_takeJoint : MethodName := ⟨RX2, "takeJoint", "(LGateFlow$Tape;)Z"⟩
abbrev cX2_openBracket : ByteArray := prog_4_method_5_code
def yX2_openBracket : MethodName := ⟨RX2, "openBracket", "(I)V"⟩
abbrev cX2_putPart : ByteArray := prog_4_method_6_code
def yX2_putPart : MethodName := ⟨RX2, "putPart", "(I)V"⟩
abbrev cX2_takeComparison : ByteArray := prog_4_method_7_code
def yX2_takeComparison : MethodName := ⟨RX2, "takeComparison", "(LGateFlow$Tape;LGateFlow$Gates;[I)I"⟩
abbrev cX2_takeWord : ByteArray := prog_4_method_8_code
def yX2_takeWord : MethodName := ⟨RX2, "takeWord", "(LGateFlow$Tape;)I"⟩
abbrev cX2_isWord : ByteArray := prog_4_method_9_code
def yX2_isWord : MethodName := ⟨RX2, "isWord", "(LGateFlow$Tape;ILjava/lang/String;)Z"⟩
abbrev cX2_nameOf : ByteArray := prog_4_method_10_code
def yX2_nameOf : MethodName := ⟨RX2, "nameOf", "(I)Ljava/lang/String;"⟩
abbrev cX2_valueOf : ByteArray := prog_4_method_11_code
def yX2_valueOf : MethodName := ⟨RX2, "valueOf", "(ILGateFlow$Gates;II)I"⟩
def RX3 : String := "GateFlow$Gates"
def TX3 : u_T := fun k => match k with
  | 0 => ("GateFlow$Gates", "from", "[I", true)
  | 1 => ("GateFlow$Gates", "to", "[I", true)
  | 2 => ("GateFlow$Gates", "least", "[I", true)
  | 3 => ("GateFlow$Gates", "capacity", "[I", true)
  | 4 => ("GateFlow$Gates", "delay", "[I", true)
  | 5 => ("GateFlow$Gates", "open", "[I", true)
  | 6 => ("GateFlow$Gates", "count", "I", false)
  | 7 => ("GateFlow$Gates", "source", "I", false)
  | _ => ("GateFlow$Gates", "sink", "I", false)
def tyX3 : Nat → FieldType := fun k => match k with
  | 0 => .array .int
  | 1 => .array .int
  | 2 => .array .int
  | 3 => .array .int
  | 4 => .array .int
  | 5 => .array .int
  | 6 => .int
  | 7 => .int
  | _ => .int
theorem nmX3 : ∀ a, a < 9 → ∀ b, b < 9 → a ≠ b → (TX3 a).2.1 ≠ (TX3 b).2.1 := by decide +kernel
theorem tyX3_ok : ∀ k, k < 9 → parseFieldDescriptor (TX3 k).2.2.1 = some (tyX3 k) := by decide +kernel
abbrev cX3_init : ByteArray := prog_5_method_1_code
def yX3_init : MethodName := ⟨RX3, "<init>", "()V"⟩
abbrev cX3_has : ByteArray := prog_5_method_2_code
def yX3_has : MethodName := ⟨RX3, "has", "(I)Z"⟩
abbrev cX3_add : ByteArray := prog_5_method_3_code
def yX3_add : MethodName := ⟨RX3, "add", "(IIIIII)I"⟩
abbrev cX3_copyFrom : ByteArray := prog_5_method_4_code
def yX3_copyFrom : MethodName := ⟨RX3, "copyFrom", "(LGateFlow$Gates;)V"⟩
abbrev cX3_usable : ByteArray := prog_5_method_5_code
def yX3_usable : MethodName := ⟨RX3, "usable", "(I)I"⟩
abbrev cX3_usableLeast : ByteArray := prog_5_method_6_code
def yX3_usableLeast : MethodName := ⟨RX3, "usableLeast", "(I)I"⟩
abbrev cX3_copyUsable : ByteArray := prog_5_method_7_code
def yX3_copyUsable : MethodName := ⟨RX3, "copyUsable", "([I)V"⟩
abbrev cX3_allBits : ByteArray := prog_5_method_8_code
def yX3_allBits : MethodName := ⟨RX3, "allBits", "()I"⟩
abbrev cX3_countOpen : ByteArray := prog_5_method_9_code
def yX3_countOpen : MethodName := ⟨RX3, "countOpen", "()I"⟩
abbrev cX3_capacityFrom : ByteArray := prog_5_method_10_code
def yX3_capacityFrom : MethodName := ⟨RX3, "capacityFrom", "(I)I"⟩
abbrev cX3_capacityTo : ByteArray := prog_5_method_11_code
def yX3_capacityTo : MethodName := ⟨RX3, "capacityTo", "(I)I"⟩
abbrev cX3_isSameTwo : ByteArray := prog_5_method_12_code
def yX3_isSameTwo : MethodName := ⟨RX3, "isSameTwo", "(II)Z"⟩
abbrev cX3_isFirstOfTwo : ByteArray := prog_5_method_13_code
def yX3_isFirstOfTwo : MethodName := ⟨RX3, "isFirstOfTwo", "(I)Z"⟩
abbrev cX3_countOfTwo : ByteArray := prog_5_method_14_code
def yX3_countOfTwo : MethodName := ⟨RX3, "countOfTwo", "(I)I"⟩
abbrev cX3_capacityOfTwo : ByteArray := prog_5_method_15_code
def yX3_capacityOfTwo : MethodName := ⟨RX3, "capacityOfTwo", "(I)I"⟩
def RX4 : String := "GateFlow$Lists"
def TX4 : u_T := fun k => match k with
  | 0 => ("GateFlow$Lists", "values", "[I", true)
  | _ => ("GateFlow$Lists", "sizes", "[I", true)
def tyX4 : Nat → FieldType := fun k => match k with
  | 0 => .array .int
  | _ => .array .int
theorem nmX4 : ∀ a, a < 2 → ∀ b, b < 2 → a ≠ b → (TX4 a).2.1 ≠ (TX4 b).2.1 := by decide +kernel
theorem tyX4_ok : ∀ k, k < 2 → parseFieldDescriptor (TX4 k).2.2.1 = some (tyX4 k) := by decide +kernel
abbrev cX4_init : ByteArray := prog_6_method_1_code
def yX4_init : MethodName := ⟨RX4, "<init>", "()V"⟩
abbrev cX4_become : ByteArray := prog_6_method_2_code
def yX4_become : MethodName := ⟨RX4, "become", "(II)V"⟩
abbrev cX4_holds : ByteArray := prog_6_method_3_code
def yX4_holds : MethodName := ⟨RX4, "holds", "(I)Z"⟩
abbrev cX4_hasPlace : ByteArray := prog_6_method_4_code
def yX4_hasPlace : MethodName := ⟨RX4, "hasPlace", "(II)Z"⟩
abbrev cX4_value : ByteArray := prog_6_method_5_code
def yX4_value : MethodName := ⟨RX4, "value", "(II)I"⟩
abbrev cX4_put : ByteArray := prog_6_method_6_code
def yX4_put : MethodName := ⟨RX4, "put", "(III)V"⟩
abbrev cX4_judged : ByteArray := prog_6_method_7_code
def yX4_judged : MethodName := ⟨RX4, "judged", "(IILGateFlow$Gates;)I"⟩
abbrev cX4_goesLessComes : ByteArray := prog_6_method_8_code
def yX4_goesLessComes : MethodName := ⟨RX4, "goesLessComes", "(IILGateFlow$Gates;I)I"⟩
def RX5 : String := "GateFlow$Models"
def TX5 : u_T := fun k => match k with
  | 0 => ("GateFlow$Models", "net", "LGateFlow$Net;", true)
  | 1 => ("GateFlow$Models", "need", "[I", true)
  | _ => ("GateFlow$Models", "reached", "[I", true)
def tyX5 : Nat → FieldType := fun k => match k with
  | 0 => .object "GateFlow$Net"
  | 1 => .array .int
  | _ => .array .int
theorem nmX5 : ∀ a, a < 3 → ∀ b, b < 3 → a ≠ b → (TX5 a).2.1 ≠ (TX5 b).2.1 := by decide +kernel
theorem tyX5_ok : ∀ k, k < 3 → parseFieldDescriptor (TX5 k).2.2.1 = some (tyX5 k) := by decide +kernel
abbrev cX5_init : ByteArray := prog_7_method_1_code
def yX5_init : MethodName := ⟨RX5, "<init>", "()V"⟩
abbrev cX5_mostIf : ByteArray := prog_7_method_2_code
def yX5_mostIf : MethodName := ⟨RX5, "mostIf", "(LGateFlow$Gates;III)I"⟩
abbrev cX5_boundValue : ByteArray := prog_7_method_3_code
def yX5_boundValue : MethodName := ⟨RX5, "boundValue", "(LGateFlow$Gates;Z)I"⟩
abbrev cX5_joinAboveLeast : ByteArray := prog_7_method_4_code
def yX5_joinAboveLeast : MethodName := ⟨RX5, "joinAboveLeast", "(LGateFlow$Gates;)V"⟩
abbrev cX5_waysApart : ByteArray := prog_7_method_5_code
def yX5_waysApart : MethodName := ⟨RX5, "waysApart", "(LGateFlow$Gates;Z)I"⟩
abbrev cX5_inHours : ByteArray := prog_7_method_6_code
def yX5_inHours : MethodName := ⟨RX5, "inHours", "(LGateFlow$Gates;I)I"⟩
abbrev cX5_nodeAt : ByteArray := prog_7_method_7_code
def yX5_nodeAt : MethodName := ⟨RX5, "nodeAt", "(LGateFlow$Gates;II)I"⟩
abbrev cX5_reachedIn : ByteArray := prog_7_method_8_code
def yX5_reachedIn : MethodName := ⟨RX5, "reachedIn", "(LGateFlow$Gates;II)I"⟩
def RX6 : String := "GateFlow$Net"
def TX6 : u_T := fun k => match k with
  | 0 => ("GateFlow$Net", "head", "[I", true)
  | 1 => ("GateFlow$Net", "cursor", "[I", true)
  | 2 => ("GateFlow$Net", "level", "[I", true)
  | 3 => ("GateFlow$Net", "queue", "[I", true)
  | 4 => ("GateFlow$Net", "path", "[I", true)
  | 5 => ("GateFlow$Net", "next", "[I", true)
  | 6 => ("GateFlow$Net", "target", "[I", true)
  | 7 => ("GateFlow$Net", "room", "[I", true)
  | 8 => ("GateFlow$Net", "nodes", "I", false)
  | _ => ("GateFlow$Net", "sides", "I", false)
def tyX6 : Nat → FieldType := fun k => match k with
  | 0 => .array .int
  | 1 => .array .int
  | 2 => .array .int
  | 3 => .array .int
  | 4 => .array .int
  | 5 => .array .int
  | 6 => .array .int
  | 7 => .array .int
  | 8 => .int
  | _ => .int
theorem nmX6 : ∀ a, a < 10 → ∀ b, b < 10 → a ≠ b → (TX6 a).2.1 ≠ (TX6 b).2.1 := by decide +kernel
theorem tyX6_ok : ∀ k, k < 10 → parseFieldDescriptor (TX6 k).2.2.1 = some (tyX6 k) := by decide +kernel
abbrev cX6_init : ByteArray := prog_8_method_1_code
def yX6_init : MethodName := ⟨RX6, "<init>", "()V"⟩
abbrev cX6_begin : ByteArray := prog_8_method_2_code
def yX6_begin : MethodName := ⟨RX6, "begin", "(I)V"⟩
abbrev cX6_join : ByteArray := prog_8_method_3_code
def yX6_join : MethodName := ⟨RX6, "join", "(III)I"⟩
abbrev cX6_isInNet : ByteArray := prog_8_method_4_code
def yX6_isInNet : MethodName := ⟨RX6, "isInNet", "(I)Z"⟩
abbrev cX6_addSide : ByteArray := prog_8_method_5_code
def yX6_addSide : MethodName := ⟨RX6, "addSide", "(III)V"⟩
abbrev cX6_close : ByteArray := prog_8_method_6_code
def yX6_close : MethodName := ⟨RX6, "close", "(I)I"⟩
abbrev cX6_pass : ByteArray := prog_8_method_7_code
def yX6_pass : MethodName := ⟨RX6, "pass", "(II)I"⟩
abbrev cX6_layered : ByteArray := prog_8_method_8_code
def yX6_layered : MethodName := ⟨RX6, "layered", "(II)Z"⟩
abbrev cX6_passLayered : ByteArray := prog_8_method_9_code
def yX6_passLayered : MethodName := ⟨RX6, "passLayered", "(II)I"⟩
abbrev cX6_deeperSide : ByteArray := prog_8_method_10_code
def yX6_deeperSide : MethodName := ⟨RX6, "deeperSide", "(I)I"⟩
abbrev cX6_passPath : ByteArray := prog_8_method_11_code
def yX6_passPath : MethodName := ⟨RX6, "passPath", "(I)I"⟩
def RX7 : String := "GateFlow$Paper"
def TX7 : u_T := fun k => match k with
  | 0 => ("GateFlow$Paper", "bytes", "[B", true)
  | _ => ("GateFlow$Paper", "size", "I", false)
def tyX7 : Nat → FieldType := fun k => match k with
  | 0 => .array .byte
  | _ => .int
theorem nmX7 : ∀ a, a < 2 → ∀ b, b < 2 → a ≠ b → (TX7 a).2.1 ≠ (TX7 b).2.1 := by decide +kernel
theorem tyX7_ok : ∀ k, k < 2 → parseFieldDescriptor (TX7 k).2.2.1 = some (tyX7 k) := by decide +kernel
abbrev cX7_init : ByteArray := prog_9_method_1_code
def yX7_init : MethodName := ⟨RX7, "<init>", "()V"⟩
abbrev cX7_write : ByteArray := prog_9_method_2_code
def yX7_write : MethodName := ⟨RX7, "write", "(LGateFlow$Gates;)V"⟩
abbrev cX7_putPassage : ByteArray := prog_9_method_3_code
def yX7_putPassage : MethodName := ⟨RX7, "putPassage", "(III)V"⟩
abbrev cX7_putNumber : ByteArray := prog_9_method_4_code
def yX7_putNumber : MethodName := ⟨RX7, "putNumber", "(I)V"⟩
abbrev cX7_putSign : ByteArray := prog_9_method_5_code
def yX7_putSign : MethodName := ⟨RX7, "putSign", "(I)V"⟩
def RX8 : String := "GateFlow$Strands"
def TX8 : u_T := fun k => match k with
  | 0 => ("GateFlow$Strands", "amounts", "[I", true)
  | 1 => ("GateFlow$Strands", "lengths", "[I", true)
  | 2 => ("GateFlow$Strands", "ring", "[I", true)
  | 3 => ("GateFlow$Strands", "gates", "[I", true)
  | 4 => ("GateFlow$Strands", "left", "[I", true)
  | 5 => ("GateFlow$Strands", "path", "[I", true)
  | 6 => ("GateFlow$Strands", "reachedAt", "[I", true)
  | 7 => ("GateFlow$Strands", "count", "I", false)
  | _ => ("GateFlow$Strands", "rings", "I", false)
def tyX8 : Nat → FieldType := fun k => match k with
  | 0 => .array .int
  | 1 => .array .int
  | 2 => .array .int
  | 3 => .array .int
  | 4 => .array .int
  | 5 => .array .int
  | 6 => .array .int
  | 7 => .int
  | _ => .int
theorem nmX8 : ∀ a, a < 9 → ∀ b, b < 9 → a ≠ b → (TX8 a).2.1 ≠ (TX8 b).2.1 := by decide +kernel
theorem tyX8_ok : ∀ k, k < 9 → parseFieldDescriptor (TX8 k).2.2.1 = some (tyX8 k) := by decide +kernel
abbrev cX8_init : ByteArray := prog_10_method_1_code
def yX8_init : MethodName := ⟨RX8, "<init>", "()V"⟩
abbrev cX8_run : ByteArray := prog_10_method_2_code
def yX8_run : MethodName := ⟨RX8, "run", "(LGateFlow$Gates;[I)V"⟩
abbrev cX8_walk : ByteArray := prog_10_method_3_code
def yX8_walk : MethodName := ⟨RX8, "walk", "(LGateFlow$Gates;)Z"⟩
abbrev cX8_firstLeft : ByteArray := prog_10_method_4_code
def yX8_firstLeft : MethodName := ⟨RX8, "firstLeft", "(LGateFlow$Gates;I)I"⟩
abbrev cX8_takeStrand : ByteArray := prog_10_method_5_code
def yX8_takeStrand : MethodName := ⟨RX8, "takeStrand", "(III)V"⟩
def RX9 : String := "GateFlow$Tape"
def TX9 : u_T := fun k => match k with
  | 0 => ("GateFlow$Tape", "bytes", "[B", true)
  | 1 => ("GateFlow$Tape", "length", "I", false)
  | 2 => ("GateFlow$Tape", "place", "I", false)
  | _ => ("GateFlow$Tape", "fault", "I", false)
def tyX9 : Nat → FieldType := fun k => match k with
  | 0 => .array .byte
  | 1 => .int
  | 2 => .int
  | _ => .int
theorem nmX9 : ∀ a, a < 4 → ∀ b, b < 4 → a ≠ b → (TX9 a).2.1 ≠ (TX9 b).2.1 := by decide +kernel
theorem tyX9_ok : ∀ k, k < 4 → parseFieldDescriptor (TX9 k).2.2.1 = some (tyX9 k) := by decide +kernel
abbrev cX9_init : ByteArray := prog_11_method_1_code
def yX9_init : MethodName := ⟨RX9, "<init>", "()V"⟩
abbrev cX9_add : ByteArray := prog_11_method_2_code
def yX9_add : MethodName := ⟨RX9, "add", "(I)Z"⟩
abbrev cX9_begin : ByteArray := prog_11_method_3_code
def yX9_begin : MethodName := ⟨RX9, "begin", "()V"⟩
abbrev cX9_fail : ByteArray := prog_11_method_4_code
def yX9_fail : MethodName := ⟨RX9, "fail", "(I)V"⟩
abbrev cX9_isAtEnd : ByteArray := prog_11_method_5_code
def yX9_isAtEnd : MethodName := ⟨RX9, "isAtEnd", "()Z"⟩
abbrev cX9_byteAt : ByteArray := prog_11_method_6_code
def yX9_byteAt : MethodName := ⟨RX9, "byteAt", "(I)I"⟩
abbrev cX9_takes : ByteArray := prog_11_method_7_code
def yX9_takes : MethodName := ⟨RX9, "takes", "(C)Z"⟩
abbrev cX9_expect : ByteArray := prog_11_method_8_code
def yX9_expect : MethodName := ⟨RX9, "expect", "(C)V"⟩
abbrev cX9_number : ByteArray := prog_11_method_9_code
def yX9_number : MethodName := ⟨RX9, "number", "()I"⟩
def RX10 : String := "GateFlow$Worst"
def TX10 : u_T := fun k => match k with
  | 0 => ("GateFlow$Worst", "gate", "I", false)
  | 1 => ("GateFlow$Worst", "gateLoss", "I", false)
  | 2 => ("GateFlow$Worst", "pair", "I", false)
  | _ => ("GateFlow$Worst", "pairLoss", "I", false)
def tyX10 : Nat → FieldType := fun k => match k with
  | 0 => .int
  | 1 => .int
  | 2 => .int
  | _ => .int
theorem nmX10 : ∀ a, a < 4 → ∀ b, b < 4 → a ≠ b → (TX10 a).2.1 ≠ (TX10 b).2.1 := by decide +kernel
theorem tyX10_ok : ∀ k, k < 4 → parseFieldDescriptor (TX10 k).2.2.1 = some (tyX10 k) := by decide +kernel
abbrev cX10_init : ByteArray := prog_12_method_1_code
def yX10_init : MethodName := ⟨RX10, "<init>", "()V"⟩
abbrev cX10_run : ByteArray := prog_12_method_2_code
def yX10_run : MethodName := ⟨RX10, "run", "(LGateFlow$Gates;LGateFlow$ByWays;LGateFlow$Models;)V"⟩
def RX11 : String := "GateFlow"
def TX11 : u_T := fun k => match k with
  | 0 => ("GateFlow", "now", "LGateFlow$Gates;", true)
  | 1 => ("GateFlow", "image", "LGateFlow$Gates;", true)
  | 2 => ("GateFlow", "imaged", "Z", false)
  | 3 => ("GateFlow", "byWays", "LGateFlow$ByWays;", true)
  | 4 => ("GateFlow", "waysFresh", "Z", false)
  | 5 => ("GateFlow", "byHeights", "LGateFlow$ByHeights;", true)
  | 6 => ("GateFlow", "heightsFresh", "Z", false)
  | 7 => ("GateFlow", "strands", "LGateFlow$Strands;", true)
  | 8 => ("GateFlow", "strandsFresh", "Z", false)
  | 9 => ("GateFlow", "worst", "LGateFlow$Worst;", true)
  | 10 => ("GateFlow", "worstFresh", "Z", false)
  | 11 => ("GateFlow", "models", "LGateFlow$Models;", true)
  | 12 => ("GateFlow", "tape", "LGateFlow$Tape;", true)
  | 13 => ("GateFlow", "condition", "LGateFlow$Condition;", true)
  | 14 => ("GateFlow", "paper", "LGateFlow$Paper;", true)
  | _ => ("GateFlow", "lists", "LGateFlow$Lists;", true)
def tyX11 : Nat → FieldType := fun k => match k with
  | 0 => .object "GateFlow$Gates"
  | 1 => .object "GateFlow$Gates"
  | 2 => .boolean
  | 3 => .object "GateFlow$ByWays"
  | 4 => .boolean
  | 5 => .object "GateFlow$ByHeights"
  | 6 => .boolean
  | 7 => .object "GateFlow$Strands"
  | 8 => .boolean
  | 9 => .object "GateFlow$Worst"
  | 10 => .boolean
  | 11 => .object "GateFlow$Models"
  | 12 => .object "GateFlow$Tape"
  | 13 => .object "GateFlow$Condition"
  | 14 => .object "GateFlow$Paper"
  | _ => .object "GateFlow$Lists"
theorem nmX11 : ∀ a, a < 16 → ∀ b, b < 16 → a ≠ b → (TX11 a).2.1 ≠ (TX11 b).2.1 := by decide +kernel
theorem tyX11_ok : ∀ k, k < 16 → parseFieldDescriptor (TX11 k).2.2.1 = some (tyX11 k) := by decide +kernel
abbrev cX11_init : ByteArray := prog_1_method_1_code
def yX11_init : MethodName := ⟨RX11, "<init>", "()V"⟩
abbrev cX11_gate : ByteArray := prog_1_method_2_code
def yX11_gate : MethodName := ⟨RX11, "gate", "(IIIII)I"⟩
abbrev cX11_of : ByteArray := prog_1_method_3_code
def yX11_of : MethodName := ⟨RX11, "of", "(II)I"⟩
abbrev cX11_widen : ByteArray := prog_1_method_4_code
def yX11_widen : MethodName := ⟨RX11, "widen", "(II)I"⟩
abbrev cX11_bind : ByteArray := prog_1_method_5_code
def yX11_bind : MethodName := ⟨RX11, "bind", "(II)I"⟩
abbrev cX11_turn : ByteArray := prog_1_method_6_code
def yX11_turn : MethodName := ⟨RX11, "turn", "(II)I"⟩
abbrev cX11_drop : ByteArray := prog_1_method_7_code
def yX11_drop : MethodName := ⟨RX11, "drop", "()I"⟩
abbrev cX11_ends : ByteArray := prog_1_method_8_code
def yX11_ends : MethodName := ⟨RX11, "ends", "(II)I"⟩
abbrev cX11_most : ByteArray := prog_1_method_9_code
def yX11_most : MethodName := ⟨RX11, "most", "()I"⟩
abbrev cX11_water : ByteArray := prog_1_method_10_code
def yX11_water : MethodName := ⟨RX11, "water", "(I)I"⟩
abbrev cX11_ways : ByteArray := prog_1_method_11_code
def yX11_ways : MethodName := ⟨RX11, "ways", "(II)I"⟩
abbrev cX11_byHeights : ByteArray := prog_1_method_12_code
def yX11_byHeights : MethodName := ⟨RX11, "byHeights", "(I)I"⟩
abbrev cX11_heights : ByteArray := prog_1_method_13_code
def yX11_heights : MethodName := ⟨RX11, "heights", "(II)I"⟩
abbrev cX11_near : ByteArray := prog_1_method_14_code
def yX11_near : MethodName := ⟨RX11, "near", "()I"⟩
abbrev cX11_far : ByteArray := prog_1_method_15_code
def yX11_far : MethodName := ⟨RX11, "far", "()I"⟩
abbrev cX11_cut : ByteArray := prog_1_method_16_code
def yX11_cut : MethodName := ⟨RX11, "cut", "(I)I"⟩
abbrev cX11_wide : ByteArray := prog_1_method_17_code
def yX11_wide : MethodName := ⟨RX11, "wide", "()I"⟩
abbrev cX11_narrow : ByteArray := prog_1_method_18_code
def yX11_narrow : MethodName := ⟨RX11, "narrow", "()I"⟩
abbrev cX11_more : ByteArray := prog_1_method_19_code
def yX11_more : MethodName := ⟨RX11, "more", "(II)I"⟩
abbrev cX11_loss : ByteArray := prog_1_method_20_code
def yX11_loss : MethodName := ⟨RX11, "loss", "(I)I"⟩
abbrev cX11_worst : ByteArray := prog_1_method_21_code
def yX11_worst : MethodName := ⟨RX11, "worst", "(I)I"⟩
abbrev cX11_lines : ByteArray := prog_1_method_22_code
def yX11_lines : MethodName := ⟨RX11, "lines", "(II)I"⟩
abbrev cX11_bound : ByteArray := prog_1_method_23_code
def yX11_bound : MethodName := ⟨RX11, "bound", "(I)I"⟩
abbrev cX11_apart : ByteArray := prog_1_method_24_code
def yX11_apart : MethodName := ⟨RX11, "apart", "(I)I"⟩
abbrev cX11_hours : ByteArray := prog_1_method_25_code
def yX11_hours : MethodName := ⟨RX11, "hours", "(I)I"⟩
abbrev cX11_two : ByteArray := prog_1_method_26_code
def yX11_two : MethodName := ⟨RX11, "two", "(II)I"⟩
abbrev cX11_ofTwo : ByteArray := prog_1_method_27_code
def yX11_ofTwo : MethodName := ⟨RX11, "ofTwo", "(II)I"⟩
abbrev cX11_reach : ByteArray := prog_1_method_28_code
def yX11_reach : MethodName := ⟨RX11, "reach", "(II)I"⟩
abbrev cX11_feed : ByteArray := prog_1_method_29_code
def yX11_feed : MethodName := ⟨RX11, "feed", "(I)I"⟩
abbrev cX11_clear : ByteArray := prog_1_method_30_code
def yX11_clear : MethodName := ⟨RX11, "clear", "()I"⟩
abbrev cX11_read : ByteArray := prog_1_method_31_code
def yX11_read : MethodName := ⟨RX11, "read", "()I"⟩
abbrev cX11_pick : ByteArray := prog_1_method_32_code
def yX11_pick : MethodName := ⟨RX11, "pick", "()I"⟩
abbrev cX11_many : ByteArray := prog_1_method_33_code
def yX11_many : MethodName := ⟨RX11, "many", "()I"⟩
abbrev cX11_shutAll : ByteArray := prog_1_method_34_code
def yX11_shutAll : MethodName := ⟨RX11, "shutAll", "(I)I"⟩
abbrev cX11_spell : ByteArray := prog_1_method_35_code
def yX11_spell : MethodName := ⟨RX11, "spell", "()I"⟩
abbrev cX11_paper : ByteArray := prog_1_method_36_code
def yX11_paper : MethodName := ⟨RX11, "paper", "(I)I"⟩
abbrev cX11_told : ByteArray := prog_1_method_37_code
def yX11_told : MethodName := ⟨RX11, "told", "(I)I"⟩
abbrev cX11_list : ByteArray := prog_1_method_38_code
def yX11_list : MethodName := ⟨RX11, "list", "(II)I"⟩
abbrev cX11_set : ByteArray := prog_1_method_39_code
def yX11_set : MethodName := ⟨RX11, "set", "(III)I"⟩
abbrev cX11_get : ByteArray := prog_1_method_40_code
def yX11_get : MethodName := ⟨RX11, "get", "(II)I"⟩
abbrev cX11_lay : ByteArray := prog_1_method_41_code
def yX11_lay : MethodName := ⟨RX11, "lay", "(III)I"⟩
abbrev cX11_judge : ByteArray := prog_1_method_42_code
def yX11_judge : MethodName := ⟨RX11, "judge", "(II)I"⟩
abbrev cX11_image : ByteArray := prog_1_method_43_code
def yX11_image : MethodName := ⟨RX11, "image", "()I"⟩
abbrev cX11_undo : ByteArray := prog_1_method_44_code
def yX11_undo : MethodName := ⟨RX11, "undo", "()I"⟩
abbrev cX11_forget : ByteArray := prog_1_method_45_code
def yX11_forget : MethodName := ⟨RX11, "forget", "()V"⟩
abbrev cX11_freshWays : ByteArray := prog_1_method_46_code
def yX11_freshWays : MethodName := ⟨RX11, "freshWays", "()LGateFlow$ByWays;"⟩
abbrev cX11_freshHeights : ByteArray := prog_1_method_47_code
def yX11_freshHeights : MethodName := ⟨RX11, "freshHeights", "()LGateFlow$ByHeights;"⟩
abbrev cX11_freshStrands : ByteArray := prog_1_method_48_code
def yX11_freshStrands : MethodName := ⟨RX11, "freshStrands", "()LGateFlow$Strands;"⟩
abbrev cX11_freshWorst : ByteArray := prog_1_method_49_code
def yX11_freshWorst : MethodName := ⟨RX11, "freshWorst", "()LGateFlow$Worst;"⟩
abbrev cX11_takeCondition : ByteArray := prog_1_method_50_code
def yX11_takeCondition : MethodName := ⟨RX11, "takeCondition", "()I"⟩
abbrev cX11_isNode : ByteArray := prog_1_method_51_code
def yX11_isNode : MethodName := ⟨RX11, "isNode", "(I)Z"⟩
abbrev cX11_isCapacity : ByteArray := prog_1_method_52_code
def yX11_isCapacity : MethodName := ⟨RX11, "isCapacity", "(I)Z"⟩
abbrev cX11_isDelay : ByteArray := prog_1_method_53_code
def yX11_isDelay : MethodName := ⟨RX11, "isDelay", "(I)Z"⟩
abbrev cX11_isOneOrZero : ByteArray := prog_1_method_54_code
def yX11_isOneOrZero : MethodName := ⟨RX11, "isOneOrZero", "(I)Z"⟩
abbrev cX11_isList : ByteArray := prog_1_method_55_code
def yX11_isList : MethodName := ⟨RX11, "isList", "(I)Z"⟩
abbrev cX11_hasBit : ByteArray := prog_1_method_56_code
def yX11_hasBit : MethodName := ⟨RX11, "hasBit", "(II)Z"⟩
abbrev cX11_readBook : ByteArray := prog_1_method_57_code
def yX11_readBook : MethodName := ⟨RX11, "readBook", "(LGateFlow$Tape;LGateFlow$Gates;)V"⟩
abbrev cX11_readGate : ByteArray := prog_1_method_58_code
def yX11_readGate : MethodName := ⟨RX11, "readGate", "(LGateFlow$Tape;LGateFlow$Gates;)V"⟩
abbrev cX11_readNode : ByteArray := prog_1_method_59_code
def yX11_readNode : MethodName := ⟨RX11, "readNode", "(LGateFlow$Tape;I)I"⟩
abbrev cX11_readDelay : ByteArray := prog_1_method_60_code
def yX11_readDelay : MethodName := ⟨RX11, "readDelay", "(LGateFlow$Tape;)I"⟩
def RX12 : String := "GateFlowModel"
def TX12 : u_T := fun k => match k with
  | 0 => ("GateFlowModel", "g", "[I", true)
  | 1 => ("GateFlowModel", "kept", "[I", true)
  | 2 => ("GateFlowModel", "isKept", "Z", false)
  | 3 => ("GateFlowModel", "may", "[I", true)
  | 4 => ("GateFlowModel", "number", "[I", true)
  | 5 => ("GateFlowModel", "far", "[I", true)
  | 6 => ("GateFlowModel", "queue", "[I", true)
  | 7 => ("GateFlowModel", "wayMany", "I", false)
  | 8 => ("GateFlowModel", "wayAmount", "[I", true)
  | 9 => ("GateFlowModel", "waySize", "[I", true)
  | 10 => ("GateFlowModel", "wayStep", "[I", true)
  | 11 => ("GateFlowModel", "height", "[I", true)
  | 12 => ("GateFlowModel", "excess", "[I", true)
  | 13 => ("GateFlowModel", "lifted", "[I", true)
  | 14 => ("GateFlowModel", "served", "[I", true)
  | 15 => ("GateFlowModel", "waiting", "[I", true)
  | 16 => ("GateFlowModel", "waitingMany", "I", false)
  | 17 => ("GateFlowModel", "pushed", "I", false)
  | 18 => ("GateFlowModel", "lineMany", "I", false)
  | 19 => ("GateFlowModel", "lineAmount", "[I", true)
  | 20 => ("GateFlowModel", "lineSize", "[I", true)
  | 21 => ("GateFlowModel", "isRing", "[Z", true)
  | 22 => ("GateFlowModel", "lineGate", "[I", true)
  | 23 => ("GateFlowModel", "left", "[I", true)
  | 24 => ("GateFlowModel", "walked", "[I", true)
  | 25 => ("GateFlowModel", "side", "I", false)
  | 26 => ("GateFlowModel", "square", "[I", true)
  | 27 => ("GateFlowModel", "before", "[I", true)
  | 28 => ("GateFlowModel", "tape", "[B", true)
  | 29 => ("GateFlowModel", "taped", "I", false)
  | 30 => ("GateFlowModel", "spot", "I", false)
  | 31 => ("GateFlowModel", "fault", "I", false)
  | 32 => ("GateFlowModel", "readMany", "I", false)
  | 33 => ("GateFlowModel", "asked", "I", false)
  | 34 => ("GateFlowModel", "open", "I", false)
  | 35 => ("GateFlowModel", "paper", "[I", true)
  | 36 => ("GateFlowModel", "papered", "I", false)
  | 37 => ("GateFlowModel", "size", "[I", true)
  | _ => ("GateFlowModel", "items", "[I", true)
def tyX12 : Nat → FieldType := fun k => match k with
  | 0 => .array .int
  | 1 => .array .int
  | 2 => .boolean
  | 3 => .array .int
  | 4 => .array .int
  | 5 => .array .int
  | 6 => .array .int
  | 7 => .int
  | 8 => .array .int
  | 9 => .array .int
  | 10 => .array .int
  | 11 => .array .int
  | 12 => .array .int
  | 13 => .array .int
  | 14 => .array .int
  | 15 => .array .int
  | 16 => .int
  | 17 => .int
  | 18 => .int
  | 19 => .array .int
  | 20 => .array .int
  | 21 => .array .boolean
  | 22 => .array .int
  | 23 => .array .int
  | 24 => .array .int
  | 25 => .int
  | 26 => .array .int
  | 27 => .array .int
  | 28 => .array .byte
  | 29 => .int
  | 30 => .int
  | 31 => .int
  | 32 => .int
  | 33 => .int
  | 34 => .int
  | 35 => .array .int
  | 36 => .int
  | 37 => .array .int
  | _ => .array .int
theorem nmX12 : ∀ a, a < 39 → ∀ b, b < 39 → a ≠ b → (TX12 a).2.1 ≠ (TX12 b).2.1 := by decide +kernel
theorem tyX12_ok : ∀ k, k < 39 → parseFieldDescriptor (TX12 k).2.2.1 = some (tyX12 k) := by decide +kernel
abbrev cX12_init : ByteArray := prog_14_method_1_code
def yX12_init : MethodName := ⟨RX12, "<init>", "()V"⟩
abbrev cX12_in : ByteArray := prog_14_method_2_code
def yX12_in : MethodName := ⟨RX12, "in", "(III)Z"⟩
abbrev cX12_isNode : ByteArray := prog_14_method_3_code
def yX12_isNode : MethodName := ⟨RX12, "isNode", "(I)Z"⟩
abbrev cX12_isGate : ByteArray := prog_14_method_4_code
def yX12_isGate : MethodName := ⟨RX12, "isGate", "(I)Z"⟩
abbrev cX12_at : ByteArray := prog_14_method_5_code
def yX12_at : MethodName := ⟨RX12, "at", "(II)I"⟩
abbrev cX12_sets : ByteArray := prog_14_method_6_code
def yX12_sets : MethodName := ⟨RX12, "sets", "(III)V"⟩
abbrev cX12_isOpen : ByteArray := prog_14_method_7_code
def yX12_isOpen : MethodName := ⟨RX12, "isOpen", "(I)Z"⟩
abbrev cX12_capacity : ByteArray := prog_14_method_8_code
def yX12_capacity : MethodName := ⟨RX12, "capacity", "(I)I"⟩
abbrev cX12_comes : ByteArray := prog_14_method_9_code
def yX12_comes : MethodName := ⟨RX12, "comes", "(IIIIII)V"⟩
abbrev cX12_gate : ByteArray := prog_14_method_10_code
def yX12_gate : MethodName := ⟨RX12, "gate", "(IIIII)I"⟩
abbrev cX12_of : ByteArray := prog_14_method_11_code
def yX12_of : MethodName := ⟨RX12, "of", "(II)I"⟩
abbrev cX12_becomes : ByteArray := prog_14_method_12_code
def yX12_becomes : MethodName := ⟨RX12, "becomes", "(III)I"⟩
abbrev cX12_widen : ByteArray := prog_14_method_13_code
def yX12_widen : MethodName := ⟨RX12, "widen", "(II)I"⟩
abbrev cX12_bind : ByteArray := prog_14_method_14_code
def yX12_bind : MethodName := ⟨RX12, "bind", "(II)I"⟩
abbrev cX12_turn : ByteArray := prog_14_method_15_code
def yX12_turn : MethodName := ⟨RX12, "turn", "(II)I"⟩
abbrev cX12_drop : ByteArray := prog_14_method_16_code
def yX12_drop : MethodName := ⟨RX12, "drop", "()I"⟩
abbrev cX12_ends : ByteArray := prog_14_method_17_code
def yX12_ends : MethodName := ⟨RX12, "ends", "(II)I"⟩
abbrev cX12_room : ByteArray := prog_14_method_18_code
def yX12_room : MethodName := ⟨RX12, "room", "(I)I"⟩
abbrev cX12_stepFrom : ByteArray := prog_14_method_19_code
def yX12_stepFrom : MethodName := ⟨RX12, "stepFrom", "(I)I"⟩
abbrev cX12_stepTo : ByteArray := prog_14_method_20_code
def yX12_stepTo : MethodName := ⟨RX12, "stepTo", "(I)I"⟩
abbrev cX12_stepAt : ByteArray := prog_14_method_21_code
def yX12_stepAt : MethodName := ⟨RX12, "stepAt", "(I)I"⟩
abbrev cX12_measures : ByteArray := prog_14_method_22_code
def yX12_measures : MethodName := ⟨RX12, "measures", "(IZ)V"⟩
abbrev cX12_stepOn : ByteArray := prog_14_method_23_code
def yX12_stepOn : MethodName := ⟨RX12, "stepOn", "(I)I"⟩
abbrev cX12_flows : ByteArray := prog_14_method_24_code
def yX12_flows : MethodName := ⟨RX12, "flows", "()I"⟩
abbrev cX12_mayAll : ByteArray := prog_14_method_25_code
def yX12_mayAll : MethodName := ⟨RX12, "mayAll", "()V"⟩
abbrev cX12_flowsNow : ByteArray := prog_14_method_26_code
def yX12_flowsNow : MethodName := ⟨RX12, "flowsNow", "()I"⟩
abbrev cX12_most : ByteArray := prog_14_method_27_code
def yX12_most : MethodName := ⟨RX12, "most", "()I"⟩
abbrev cX12_water : ByteArray := prog_14_method_28_code
def yX12_water : MethodName := ⟨RX12, "water", "(I)I"⟩
abbrev cX12_ways : ByteArray := prog_14_method_29_code
def yX12_ways : MethodName := ⟨RX12, "ways", "(II)I"⟩
abbrev cX12_pushes : ByteArray := prog_14_method_30_code
def yX12_pushes : MethodName := ⟨RX12, "pushes", "(II)V"⟩
abbrev cX12_downStep : ByteArray := prog_14_method_31_code
def yX12_downStep : MethodName := ⟨RX12, "downStep", "(I)I"⟩
abbrev cX12_lifts : ByteArray := prog_14_method_32_code
def yX12_lifts : MethodName := ⟨RX12, "lifts", "(I)V"⟩
abbrev cX12_serves : ByteArray := prog_14_method_33_code
def yX12_serves : MethodName := ⟨RX12, "serves", "(I)V"⟩
abbrev cX12_flowsByHeights : ByteArray := prog_14_method_34_code
def yX12_flowsByHeights : MethodName := ⟨RX12, "flowsByHeights", "()V"⟩
abbrev cX12_byHeights : ByteArray := prog_14_method_35_code
def yX12_byHeights : MethodName := ⟨RX12, "byHeights", "(I)I"⟩
abbrev cX12_heights : ByteArray := prog_14_method_36_code
def yX12_heights : MethodName := ⟨RX12, "heights", "(II)I"⟩
abbrev cX12_reached : ByteArray := prog_14_method_37_code
def yX12_reached : MethodName := ⟨RX12, "reached", "()I"⟩
abbrev cX12_near : ByteArray := prog_14_method_38_code
def yX12_near : MethodName := ⟨RX12, "near", "()I"⟩
abbrev cX12_far : ByteArray := prog_14_method_39_code
def yX12_far : MethodName := ⟨RX12, "far", "()I"⟩
abbrev cX12_cut : ByteArray := prog_14_method_40_code
def yX12_cut : MethodName := ⟨RX12, "cut", "(I)I"⟩
abbrev cX12_flowsWith : ByteArray := prog_14_method_41_code
def yX12_flowsWith : MethodName := ⟨RX12, "flowsWith", "(II)I"⟩
abbrev cX12_wide : ByteArray := prog_14_method_42_code
def yX12_wide : MethodName := ⟨RX12, "wide", "()I"⟩
abbrev cX12_narrow : ByteArray := prog_14_method_43_code
def yX12_narrow : MethodName := ⟨RX12, "narrow", "()I"⟩
abbrev cX12_more : ByteArray := prog_14_method_44_code
def yX12_more : MethodName := ⟨RX12, "more", "(II)I"⟩
abbrev cX12_lossOf : ByteArray := prog_14_method_45_code
def yX12_lossOf : MethodName := ⟨RX12, "lossOf", "(II)I"⟩
abbrev cX12_loss : ByteArray := prog_14_method_46_code
def yX12_loss : MethodName := ⟨RX12, "loss", "(I)I"⟩
abbrev cX12_worst : ByteArray := prog_14_method_47_code
def yX12_worst : MethodName := ⟨RX12, "worst", "(I)I"⟩
abbrev cX12_watered : ByteArray := prog_14_method_48_code
def yX12_watered : MethodName := ⟨RX12, "watered", "(I)I"⟩
abbrev cX12_takes : ByteArray := prog_14_method_49_code
def yX12_takes : MethodName := ⟨RX12, "takes", "()V"⟩
abbrev cX12_findLines : ByteArray := prog_14_method_50_code
def yX12_findLines : MethodName := ⟨RX12, "findLines", "()V"⟩
abbrev cX12_lines : ByteArray := prog_14_method_51_code
def yX12_lines : MethodName := ⟨RX12, "lines", "(II)I"⟩
abbrev cX12_linesOf : ByteArray := prog_14_method_52_code
def yX12_linesOf : MethodName := ⟨RX12, "linesOf", "(Z)I"⟩
abbrev cX12_clears : ByteArray := prog_14_method_53_code
def yX12_clears : MethodName := ⟨RX12, "clears", "(I)V"⟩
abbrev cX12_adds : ByteArray := prog_14_method_54_code
def yX12_adds : MethodName := ⟨RX12, "adds", "(III)V"⟩
abbrev cX12_findsWay : ByteArray := prog_14_method_55_code
def yX12_findsWay : MethodName := ⟨RX12, "findsWay", "(II)Z"⟩
abbrev cX12_passes : ByteArray := prog_14_method_56_code
def yX12_passes : MethodName := ⟨RX12, "passes", "(II)I"⟩
abbrev cX12_parts : ByteArray := prog_14_method_57_code
def yX12_parts : MethodName := ⟨RX12, "parts", "(I)V"⟩
abbrev cX12_bound : ByteArray := prog_14_method_58_code
def yX12_bound : MethodName := ⟨RX12, "bound", "(I)I"⟩
abbrev cX12_apart : ByteArray := prog_14_method_59_code
def yX12_apart : MethodName := ⟨RX12, "apart", "(I)I"⟩
abbrev cX12_hours : ByteArray := prog_14_method_60_code
def yX12_hours : MethodName := ⟨RX12, "hours", "(I)I"⟩
abbrev cX12_areAlike : ByteArray := prog_14_method_61_code
def yX12_areAlike : MethodName := ⟨RX12, "areAlike", "(II)Z"⟩
abbrev cX12_isFirst : ByteArray := prog_14_method_62_code
def yX12_isFirst : MethodName := ⟨RX12, "isFirst", "(I)Z"⟩
abbrev cX12_tellsTwo : ByteArray := prog_14_method_63_code
def yX12_tellsTwo : MethodName := ⟨RX12, "tellsTwo", "(II)I"⟩
abbrev cX12_two : ByteArray := prog_14_method_64_code
def yX12_two : MethodName := ⟨RX12, "two", "(II)I"⟩
abbrev cX12_reach : ByteArray := prog_14_method_65_code
def yX12_reach : MethodName := ⟨RX12, "reach", "(II)I"⟩
abbrev cX12_feed : ByteArray := prog_14_method_66_code
def yX12_feed : MethodName := ⟨RX12, "feed", "(I)I"⟩
abbrev cX12_clear : ByteArray := prog_14_method_67_code
def yX12_clear : MethodName := ⟨RX12, "clear", "()I"⟩
abbrev cX12_here : ByteArray := prog_14_method_68_code
def yX12_here : MethodName := ⟨RX12, "here", "()I"⟩
abbrev cX12_wrong : ByteArray := prog_14_method_69_code
def yX12_wrong : MethodName := ⟨RX12, "wrong", "(I)V"⟩
abbrev cX12_begins : ByteArray := prog_14_method_70_code
def yX12_begins : MethodName := ⟨RX12, "begins", "()V"⟩
abbrev cX12_takes_ : ByteArray := prog_14_method_71_code
def yX12_takes_ : MethodName := ⟨RX12, "takes", "(I)Z"⟩
abbrev cX12_must : ByteArray := prog_14_method_72_code
def yX12_must : MethodName := ⟨RX12, "must", "(I)V"⟩
abbrev cX12_number : ByteArray := prog_14_method_73_code
def yX12_number : MethodName := ⟨RX12, "number", "(III)I"⟩
abbrev cX12_readGate : ByteArray := prog_14_method_74_code
def yX12_readGate : MethodName := ⟨RX12, "readGate", "(Z)V"⟩
abbrev cX12_readBook : ByteArray := prog_14_method_75_code
def yX12_readBook : MethodName := ⟨RX12, "readBook", "(Z)V"⟩
abbrev cX12_read : ByteArray := prog_14_method_76_code
def yX12_read : MethodName := ⟨RX12, "read", "()I"⟩
abbrev cX12_either : ByteArray := prog_14_method_77_code
def yX12_either : MethodName := ⟨RX12, "either", "()Z"⟩
abbrev cX12_both : ByteArray := prog_14_method_78_code
def yX12_both : MethodName := ⟨RX12, "both", "()Z"⟩
abbrev cX12_one : ByteArray := prog_14_method_79_code
def yX12_one : MethodName := ⟨RX12, "one", "()Z"⟩
abbrev cX12_word : ByteArray := prog_14_method_80_code
def yX12_word : MethodName := ⟨RX12, "word", "()I"⟩
abbrev cX12_valueOf : ByteArray := prog_14_method_81_code
def yX12_valueOf : MethodName := ⟨RX12, "valueOf", "(II)I"⟩
abbrev cX12_isSo : ByteArray := prog_14_method_82_code
def yX12_isSo : MethodName := ⟨RX12, "isSo", "(I)Z"⟩
abbrev cX12_meant : ByteArray := prog_14_method_83_code
def yX12_meant : MethodName := ⟨RX12, "meant", "()I"⟩
abbrev cX12_pick : ByteArray := prog_14_method_84_code
def yX12_pick : MethodName := ⟨RX12, "pick", "()I"⟩
abbrev cX12_many : ByteArray := prog_14_method_85_code
def yX12_many : MethodName := ⟨RX12, "many", "()I"⟩
abbrev cX12_shutAll : ByteArray := prog_14_method_86_code
def yX12_shutAll : MethodName := ⟨RX12, "shutAll", "(I)I"⟩
abbrev cX12_puts : ByteArray := prog_14_method_87_code
def yX12_puts : MethodName := ⟨RX12, "puts", "(I)V"⟩
abbrev cX12_putsNumber : ByteArray := prog_14_method_88_code
def yX12_putsNumber : MethodName := ⟨RX12, "putsNumber", "(I)V"⟩
abbrev cX12_spell : ByteArray := prog_14_method_89_code
def yX12_spell : MethodName := ⟨RX12, "spell", "()I"⟩
abbrev cX12_paper : ByteArray := prog_14_method_90_code
def yX12_paper : MethodName := ⟨RX12, "paper", "(I)I"⟩
abbrev cX12_capacities : ByteArray := prog_14_method_91_code
def yX12_capacities : MethodName := ⟨RX12, "capacities", "(II)I"⟩
abbrev cX12_openMany : ByteArray := prog_14_method_92_code
def yX12_openMany : MethodName := ⟨RX12, "openMany", "()I"⟩
abbrev cX12_told : ByteArray := prog_14_method_93_code
def yX12_told : MethodName := ⟨RX12, "told", "(I)I"⟩
abbrev cX12_isList : ByteArray := prog_14_method_94_code
def yX12_isList : MethodName := ⟨RX12, "isList", "(I)Z"⟩
abbrev cX12_list : ByteArray := prog_14_method_95_code
def yX12_list : MethodName := ⟨RX12, "list", "(II)I"⟩
abbrev cX12_set : ByteArray := prog_14_method_96_code
def yX12_set : MethodName := ⟨RX12, "set", "(III)I"⟩
abbrev cX12_get : ByteArray := prog_14_method_97_code
def yX12_get : MethodName := ⟨RX12, "get", "(II)I"⟩
abbrev cX12_lay : ByteArray := prog_14_method_98_code
def yX12_lay : MethodName := ⟨RX12, "lay", "(III)I"⟩
abbrev cX12_judge : ByteArray := prog_14_method_99_code
def yX12_judge : MethodName := ⟨RX12, "judge", "(II)I"⟩
abbrev cX12_image : ByteArray := prog_14_method_100_code
def yX12_image : MethodName := ⟨RX12, "image", "()I"⟩
abbrev cX12_undo : ByteArray := prog_14_method_101_code
def yX12_undo : MethodName := ⟨RX12, "undo", "()I"⟩
def RJ6 : String := "java/lang/Integer"
abbrev cJ6_bitCount_0f7a4 : ByteArray := prog_15_method_49_code
def yJ6_bitCount_0f7a4 : MethodName := ⟨RJ6, "bitCount", "(I)I"⟩
def RJ9 : String := "java/lang/Math"
abbrev cJ9_max_7cf53 : ByteArray := prog_16_method_65_code
def yJ9_max_7cf53 : MethodName := ⟨RJ9, "max", "(II)I"⟩
abbrev cJ9_min_7cf53 : ByteArray := prog_16_method_69_code
def yJ9_min_7cf53 : MethodName := ⟨RJ9, "min", "(II)I"⟩
def RJ0 : String := "java/lang/String"
abbrev cJ0_length_8abf5 : ByteArray := prog_17_method_54_code
def yJ0_length_8abf5 : MethodName := ⟨RJ0, "length", "()I"⟩
abbrev cJ0_charAt_5068e : ByteArray := prog_17_method_56_code
def yJ0_charAt_5068e : MethodName := ⟨RJ0, "charAt", "(I)C"⟩
abbrev cJ0_coder_7d493 : ByteArray := prog_17_method_152_code
def yJ0_coder_7d493 : MethodName := ⟨RJ0, "coder", "()B"⟩
abbrev cJ0_isLatin1_aae02 : ByteArray := prog_17_method_154_code
def yJ0_isLatin1_aae02 : MethodName := ⟨RJ0, "isLatin1", "()Z"⟩
abbrev cJ0_checkIndex_df160 : ByteArray := prog_17_method_155_code
def yJ0_checkIndex_df160 : MethodName := ⟨RJ0, "checkIndex", "(II)V"⟩
def RJ1 : String := "java/lang/StringLatin1"
abbrev cJ1_charAt_3b067 : ByteArray := prog_18_method_2_code
def yJ1_charAt_3b067 : MethodName := ⟨RJ1, "charAt", "([BI)C"⟩
def RJ2 : String := "java/lang/StringUTF16"
abbrev cJ2_getChar_3b067 : ByteArray := prog_19_method_5_code
def yJ2_getChar_3b067 : MethodName := ⟨RJ2, "getChar", "([BI)C"⟩
abbrev cJ2_length_9d52b : ByteArray := prog_19_method_6_code
def yJ2_length_9d52b : MethodName := ⟨RJ2, "length", "([B)I"⟩
abbrev cJ2_charAt_3b067 : ByteArray := prog_19_method_83_code
def yJ2_charAt_3b067 : MethodName := ⟨RJ2, "charAt", "([BI)C"⟩
abbrev cJ2_checkIndex_2214a : ByteArray := prog_19_method_91_code
def yJ2_checkIndex_2214a : MethodName := ⟨RJ2, "checkIndex", "(I[B)V"⟩
def RJ10 : String := "java/lang/System"
def RJ7 : String := "java/util/Arrays"
abbrev cJ7_rangeCheck_23922 : ByteArray := prog_21_method_30_code
def yJ7_rangeCheck_23922 : MethodName := ⟨RJ7, "rangeCheck", "(III)V"⟩
abbrev cJ7_fill_53178 : ByteArray := prog_21_method_103_code
def yJ7_fill_53178 : MethodName := ⟨RJ7, "fill", "([II)V"⟩
abbrev cJ7_fill_fda19 : ByteArray := prog_21_method_104_code
def yJ7_fill_fda19 : MethodName := ⟨RJ7, "fill", "([IIII)V"⟩
def RJ3 : String := "jdk/internal/util/Preconditions"
abbrev cJ3_checkIndex_8e157 : ByteArray := prog_22_method_11_code
def yJ3_checkIndex_8e157 : MethodName := ⟨RJ3, "checkIndex", "(IILjava/util/function/BiFunction;)I"⟩
def RL : String := "GateFlowLaw"
abbrev cL_law : ByteArray := code
def yL_law : MethodName := ⟨RL, "law", "([I)Z"⟩
abbrev vwCl : List vw_C := [(RX0, TX0, 11), (RX1, TX1, 11), (RX2, TX2, 4), (RX3, TX3, 9), (RX4, TX4, 2), (RX5, TX5, 3), (RX6, TX6, 10), (RX7, TX7, 2), (RX8, TX8, 9), (RX9, TX9, 4), (RX10, TX10, 4), (RX11, TX11, 16), (RX12, TX12, 39)]
end
section
/-- a method's instructions, as its bytes have them -/
def dcs (b : ByteArray) (l : List (Nat × Instr × Nat)) : Prop := ∀ q ∈ l, decode b q.1 = .ok q.2
def dcb (b : ByteArray) (l : List (Nat × Instr × Nat)) : Bool := l.all fun q => decide (decode b q.1 = .ok q.2)
theorem dcs_of {b : ByteArray} {l : List (Nat × Instr × Nat)} (h : dcb b l = true) : dcs b l := fun q hq => of_decide_eq_true (List.all_eq_true.mp h q hq)
theorem dc {b : ByteArray} {l : List (Nat × Instr × Nat)} (h : dcs b l) (k : Nat) {pc : Nat} {i : Instr} {n : Nat} (hk : l[k]? = some (pc, i, n)) : decode b pc = .ok (i, n) := h (pc, i, n) (List.mem_of_getElem? hk)
theorem dcs_app {b : ByteArray} {l1 l2 : List (Nat × Instr × Nat)} (h1 : dcs b l1) (h2 : dcs b l2) : dcs b (l1 ++ l2) := fun q hq => (List.mem_append.mp hq).elim (h1 q) (h2 q)
def l_cX0_init_0 : List (Nat × Instr × Nat) := [(0, .aload_n 0, 1), (1, .invokespecial 3, 3), (4, .aload_n 0, 1), (5, .bipush 30, 2), (7, .newarray .int, 2), (9, .putfield 9, 3), (12, .aload_n 0, 1), (13, .bipush 12, 2), (15, .newarray .int, 2), (17, .putfield 15, 3), (20, .aload_n 0, 1), (21, .bipush 12, 2), (23, .newarray .int, 2), (25, .putfield 18, 3), (28, .aload_n 0, 1), (29, .bipush 12, 2), (31, .newarray .int, 2), (33, .putfield 21, 3), (36, .aload_n 0, 1), (37, .bipush 30, 2), (39, .newarray .int, 2), (41, .putfield 24, 3), (44, .aload_n 0, 1), (45, .bipush 12, 2), (47, .newarray .int, 2), (49, .putfield 27, 3), (52, .aload_n 0, 1), (53, .bipush 12, 2), (55, .newarray .int, 2), (57, .putfield 30, 3), (60, .aload_n 0, 1), (61, .bipush 12, 2), (63, .newarray .int, 2), (65, .putfield 33, 3), (68, .return_, 1)]
theorem D_cX0_init_0 : dcs cX0_init l_cX0_init_0 := dcs_of (by decide +kernel)
def l_cX0_run_0 : List (Nat × Instr × Nat) := [(0, .aload_n 0, 1), (1, .aload_n 1, 1), (2, .invokevirtual 36, 3), (5, .iconst 0, 1), (6, .istore_n 2, 1), (7, .iload_n 2, 1), (8, .ldc 40, 2), (10, .if_icmp .ge 62, 3), (13, .aload_n 0, 1), (14, .getfield 41, 3), (17, .ifCond .le 55, 3), (20, .aload_n 0, 1), (21, .getfield 30, 3), (24, .aload_n 0, 1), (25, .getfield 45, 3), (28, .iaload, 1), (29, .istore_n 3, 1), (30, .aload_n 0, 1), (31, .aload_n 1, 1), (32, .iload_n 3, 1), (33, .invokevirtual 48, 3), (36, .aload_n 0, 1), (37, .aload_n 0, 1), (38, .getfield 45, 3), (41, .iconst 1, 1), (42, .iadd, 1), (43, .bipush 12, 2), (45, .irem, 1), (46, .putfield 45, 3), (49, .aload_n 0, 1), (50, .dup, 1), (51, .getfield 41, 3), (54, .iconst 1, 1), (55, .isub, 1), (56, .putfield 41, 3), (59, .aload_n 0, 1), (60, .getfield 33, 3), (63, .iload_n 3, 1), (64, .iconst 0, 1), (65, .iastore, 1)]
theorem D_cX0_run_0 : dcs cX0_run l_cX0_run_0 := dcs_of (by decide +kernel)
def l_cX0_run_1 : List (Nat × Instr × Nat) := [(66, .iinc 2 1, 3), (69, .goto (-62), 3), (72, .return_, 1)]
theorem D_cX0_run_1 : dcs cX0_run l_cX0_run_1 := dcs_of (by decide +kernel)
def l_cX0_begin_0 : List (Nat × Instr × Nat) := [(0, .aload_n 1, 1), (1, .aload_n 0, 1), (2, .getfield 24, 3), (5, .invokevirtual 52, 3), (8, .aload_n 0, 1), (9, .getfield 9, 3), (12, .iconst 0, 1), (13, .invokestatic 58, 3), (16, .aload_n 0, 1), (17, .getfield 15, 3), (20, .iconst 0, 1), (21, .invokestatic 58, 3), (24, .aload_n 0, 1), (25, .getfield 18, 3), (28, .iconst 0, 1), (29, .invokestatic 58, 3), (32, .aload_n 0, 1), (33, .getfield 21, 3), (36, .iconst 0, 1), (37, .invokestatic 58, 3), (40, .aload_n 0, 1), (41, .getfield 27, 3), (44, .iconst 0, 1), (45, .invokestatic 58, 3), (48, .aload_n 0, 1), (49, .getfield 33, 3), (52, .iconst 0, 1), (53, .invokestatic 58, 3), (56, .aload_n 0, 1), (57, .iconst 0, 1), (58, .putfield 45, 3), (61, .aload_n 0, 1), (62, .iconst 0, 1), (63, .putfield 41, 3), (66, .aload_n 0, 1), (67, .iconst 0, 1), (68, .putfield 64, 3), (71, .aload_n 0, 1), (72, .getfield 15, 3), (75, .aload_n 1, 1)]
theorem D_cX0_begin_0 : dcs cX0_begin l_cX0_begin_0 := dcs_of (by decide +kernel)
def l_cX0_begin_1 : List (Nat × Instr × Nat) := [(76, .getfield 67, 3), (79, .bipush 12, 2), (81, .iastore, 1), (82, .iconst 0, 1), (83, .istore_n 2, 1), (84, .iload_n 2, 1), (85, .aload_n 1, 1), (86, .getfield 70, 3), (89, .if_icmp .ge 43, 3), (92, .aload_n 1, 1), (93, .getfield 73, 3), (96, .iload_n 2, 1), (97, .iaload, 1), (98, .aload_n 1, 1), (99, .getfield 67, 3), (102, .if_icmp .ne 24, 3), (105, .aload_n 0, 1), (106, .getfield 24, 3), (109, .iload_n 2, 1), (110, .iaload, 1), (111, .ifCond .le 15, 3), (114, .aload_n 0, 1), (115, .aload_n 1, 1), (116, .iload_n 2, 1), (117, .aload_n 0, 1), (118, .getfield 24, 3), (121, .iload_n 2, 1), (122, .iaload, 1), (123, .invokevirtual 76, 3), (126, .iinc 2 1, 3), (129, .goto (-45), 3), (132, .return_, 1)]
theorem D_cX0_begin_1 : dcs cX0_begin l_cX0_begin_1 := dcs_of (by decide +kernel)
def l_cX0_serve_0 : List (Nat × Instr × Nat) := [(0, .aload_n 0, 1), (1, .getfield 21, 3), (4, .iload_n 2, 1), (5, .dup2, 1), (6, .iaload, 1), (7, .iconst 1, 1), (8, .iadd, 1), (9, .iastore, 1), (10, .iconst 0, 1), (11, .istore_n 3, 1), (12, .iload_n 3, 1), (13, .ldc 40, 2), (15, .if_icmp .ge 68, 3), (18, .aload_n 0, 1), (19, .getfield 27, 3), (22, .iload_n 2, 1), (23, .iaload, 1), (24, .ifCond .le 59, 3), (27, .aload_n 0, 1), (28, .aload_n 1, 1), (29, .iload_n 2, 1), (30, .invokevirtual 80, 3), (33, .istore 4, 2), (35, .iload 4, 2), (37, .ifCond .lt 28, 3), (40, .aload_n 0, 1), (41, .aload_n 1, 1), (42, .iload 4, 2), (44, .aload_n 0, 1), (45, .getfield 27, 3), (48, .iload_n 2, 1), (49, .iaload, 1), (50, .aload_n 0, 1), (51, .iload 4, 2), (53, .invokevirtual 84, 3), (56, .invokestatic 88, 3), (59, .invokevirtual 76, 3), (62, .goto 15, 3), (65, .aload_n 0, 1), (66, .aload_n 1, 1)]
theorem D_cX0_serve_0 : dcs cX0_serve l_cX0_serve_0 := dcs_of (by decide +kernel)
def l_cX0_serve_1 : List (Nat × Instr × Nat) := [(67, .iload_n 2, 1), (68, .invokevirtual 94, 3), (71, .ifCond .ne 6, 3), (74, .goto 9, 3), (77, .iinc 3 1, 3), (80, .goto (-68), 3), (83, .return_, 1)]
theorem D_cX0_serve_1 : dcs cX0_serve l_cX0_serve_1 := dcs_of (by decide +kernel)
def l_cX0_downStep_0 : List (Nat × Instr × Nat) := [(0, .iconst 0, 1), (1, .istore_n 3, 1), (2, .iload_n 3, 1), (3, .aload_n 1, 1), (4, .getfield 70, 3), (7, .if_icmp .ge 58, 3), (10, .aload_n 1, 1), (11, .getfield 73, 3), (14, .iload_n 3, 1), (15, .iaload, 1), (16, .iload_n 2, 1), (17, .if_icmp .ne 42, 3), (20, .aload_n 0, 1), (21, .getfield 9, 3), (24, .iload_n 3, 1), (25, .iaload, 1), (26, .aload_n 0, 1), (27, .getfield 24, 3), (30, .iload_n 3, 1), (31, .iaload, 1), (32, .if_icmp .ge 27, 3), (35, .aload_n 0, 1), (36, .getfield 15, 3), (39, .aload_n 1, 1), (40, .getfield 98, 3), (43, .iload_n 3, 1), (44, .iaload, 1), (45, .iaload, 1), (46, .aload_n 0, 1), (47, .getfield 15, 3), (50, .iload_n 2, 1), (51, .iaload, 1), (52, .iconst 1, 1), (53, .isub, 1), (54, .if_icmp .ne 5, 3), (57, .iload_n 3, 1), (58, .ireturn, 1), (59, .iinc 3 1, 3), (62, .goto (-60), 3), (65, .iconst 0, 1)]
theorem D_cX0_downStep_0 : dcs cX0_downStep l_cX0_downStep_0 := dcs_of (by decide +kernel)
def l_cX0_downStep_1 : List (Nat × Instr × Nat) := [(66, .istore_n 3, 1), (67, .iload_n 3, 1), (68, .aload_n 1, 1), (69, .getfield 70, 3), (72, .if_icmp .ge 55, 3), (75, .aload_n 1, 1), (76, .getfield 98, 3), (79, .iload_n 3, 1), (80, .iaload, 1), (81, .iload_n 2, 1), (82, .if_icmp .ne 39, 3), (85, .aload_n 0, 1), (86, .getfield 9, 3), (89, .iload_n 3, 1), (90, .iaload, 1), (91, .ifCond .le 30, 3), (94, .aload_n 0, 1), (95, .getfield 15, 3), (98, .aload_n 1, 1), (99, .getfield 73, 3), (102, .iload_n 3, 1), (103, .iaload, 1), (104, .iaload, 1), (105, .aload_n 0, 1), (106, .getfield 15, 3), (109, .iload_n 2, 1), (110, .iaload, 1), (111, .iconst 1, 1), (112, .isub, 1), (113, .if_icmp .ne 8, 3), (116, .bipush 100, 2), (118, .iload_n 3, 1), (119, .iadd, 1), (120, .ireturn, 1), (121, .iinc 3 1, 3), (124, .goto (-57), 3), (127, .iconst (-1), 1), (128, .ireturn, 1)]
theorem D_cX0_downStep_1 : dcs cX0_downStep l_cX0_downStep_1 := dcs_of (by decide +kernel)
def l_cX0_lift_0 : List (Nat × Instr × Nat) := [(0, .ldc 101, 2), (2, .istore_n 3, 1), (3, .iconst 0, 1), (4, .istore 4, 2), (6, .iload 4, 2), (8, .aload_n 1, 1), (9, .getfield 70, 3), (12, .if_icmp .ge 92, 3), (15, .aload_n 1, 1), (16, .getfield 73, 3), (19, .iload 4, 2), (21, .iaload, 1), (22, .iload_n 2, 1), (23, .if_icmp .ne 37, 3), (26, .aload_n 0, 1), (27, .getfield 9, 3), (30, .iload 4, 2), (32, .iaload, 1), (33, .aload_n 0, 1), (34, .getfield 24, 3), (37, .iload 4, 2), (39, .iaload, 1), (40, .if_icmp .ge 20, 3), (43, .iload_n 3, 1), (44, .aload_n 0, 1), (45, .getfield 15, 3), (48, .aload_n 1, 1), (49, .getfield 98, 3), (52, .iload 4, 2), (54, .iaload, 1), (55, .iaload, 1), (56, .invokestatic 88, 3), (59, .istore_n 3, 1), (60, .aload_n 1, 1), (61, .getfield 98, 3), (64, .iload 4, 2), (66, .iaload, 1), (67, .iload_n 2, 1), (68, .if_icmp .ne 30, 3), (71, .aload_n 0, 1)]
theorem D_cX0_lift_0 : dcs cX0_lift l_cX0_lift_0 := dcs_of (by decide +kernel)
def l_cX0_lift_1 : List (Nat × Instr × Nat) := [(72, .getfield 9, 3), (75, .iload 4, 2), (77, .iaload, 1), (78, .ifCond .le 20, 3), (81, .iload_n 3, 1), (82, .aload_n 0, 1), (83, .getfield 15, 3), (86, .aload_n 1, 1), (87, .getfield 73, 3), (90, .iload 4, 2), (92, .iaload, 1), (93, .iaload, 1), (94, .invokestatic 88, 3), (97, .istore_n 3, 1), (98, .iinc 4 1, 3), (101, .goto (-95), 3), (104, .iload_n 3, 1), (105, .ldc 101, 2), (107, .if_icmp .ne 5, 3), (110, .iconst 0, 1), (111, .ireturn, 1), (112, .aload_n 0, 1), (113, .getfield 15, 3), (116, .iload_n 2, 1), (117, .iload_n 3, 1), (118, .iconst 1, 1), (119, .iadd, 1), (120, .iastore, 1), (121, .aload_n 0, 1), (122, .getfield 18, 3), (125, .iload_n 2, 1), (126, .dup2, 1), (127, .iaload, 1), (128, .iconst 1, 1), (129, .iadd, 1), (130, .iastore, 1), (131, .iconst 1, 1), (132, .ireturn, 1)]
theorem D_cX0_lift_1 : dcs cX0_lift l_cX0_lift_1 := dcs_of (by decide +kernel)
def l_cX0_roomOf_0 : List (Nat × Instr × Nat) := [(0, .iload_n 1, 1), (1, .bipush 100, 2), (3, .if_icmp .ge 19, 3), (6, .aload_n 0, 1), (7, .getfield 24, 3), (10, .iload_n 1, 1), (11, .iaload, 1), (12, .aload_n 0, 1), (13, .getfield 9, 3), (16, .iload_n 1, 1), (17, .iaload, 1), (18, .isub, 1), (19, .goto 12, 3), (22, .aload_n 0, 1), (23, .getfield 9, 3), (26, .iload_n 1, 1), (27, .bipush 100, 2), (29, .isub, 1), (30, .iaload, 1), (31, .ireturn, 1)]
theorem D_cX0_roomOf_0 : dcs cX0_roomOf l_cX0_roomOf_0 := dcs_of (by decide +kernel)
def l_cX0_push_0 : List (Nat × Instr × Nat) := [(0, .iload_n 2, 1), (1, .bipush 100, 2), (3, .if_icmp .ge 7, 3), (6, .iconst 1, 1), (7, .goto 4, 3), (10, .iconst 0, 1), (11, .istore 4, 2), (13, .iload 4, 2), (15, .ifCond .eq 7, 3), (18, .iload_n 2, 1), (19, .goto 7, 3), (22, .iload_n 2, 1), (23, .bipush 100, 2), (25, .isub, 1), (26, .istore 5, 2), (28, .iload 4, 2), (30, .ifCond .eq 13, 3), (33, .aload_n 1, 1), (34, .getfield 73, 3), (37, .iload 5, 2), (39, .iaload, 1), (40, .goto 10, 3), (43, .aload_n 1, 1), (44, .getfield 98, 3), (47, .iload 5, 2), (49, .iaload, 1), (50, .istore 6, 2), (52, .iload 4, 2), (54, .ifCond .eq 13, 3), (57, .aload_n 1, 1), (58, .getfield 98, 3), (61, .iload 5, 2), (63, .iaload, 1), (64, .goto 10, 3), (67, .aload_n 1, 1), (68, .getfield 73, 3), (71, .iload 5, 2), (73, .iaload, 1), (74, .istore 7, 2), (76, .aload_n 0, 1)]
theorem D_cX0_push_0 : dcs cX0_push l_cX0_push_0 := dcs_of (by decide +kernel)
def l_cX0_push_1 : List (Nat × Instr × Nat) := [(77, .getfield 9, 3), (80, .iload 5, 2), (82, .dup2, 1), (83, .iaload, 1), (84, .iload 4, 2), (86, .ifCond .eq 7, 3), (89, .iload_n 3, 1), (90, .goto 5, 3), (93, .iload_n 3, 1), (94, .ineg, 1), (95, .iadd, 1), (96, .iastore, 1), (97, .aload_n 0, 1), (98, .getfield 27, 3), (101, .iload 6, 2), (103, .dup2, 1), (104, .iaload, 1), (105, .iload_n 3, 1), (106, .isub, 1), (107, .iastore, 1), (108, .aload_n 0, 1), (109, .getfield 27, 3), (112, .iload 7, 2), (114, .dup2, 1), (115, .iaload, 1), (116, .iload_n 3, 1), (117, .iadd, 1), (118, .iastore, 1), (119, .aload_n 0, 1), (120, .dup, 1), (121, .getfield 64, 3), (124, .iconst 1, 1), (125, .iadd, 1), (126, .putfield 64, 3), (129, .iload 7, 2), (131, .aload_n 1, 1), (132, .getfield 67, 3), (135, .if_icmp .eq 68, 3), (138, .iload 7, 2), (140, .aload_n 1, 1)]
theorem D_cX0_push_1 : dcs cX0_push l_cX0_push_1 := dcs_of (by decide +kernel)
def l_cX0_push_2 : List (Nat × Instr × Nat) := [(141, .getfield 102, 3), (144, .if_icmp .eq 59, 3), (147, .aload_n 0, 1), (148, .getfield 33, 3), (151, .iload 7, 2), (153, .iaload, 1), (154, .ifCond .ne 49, 3), (157, .aload_n 0, 1), (158, .getfield 41, 3), (161, .bipush 12, 2), (163, .if_icmp .ge 40, 3), (166, .aload_n 0, 1), (167, .getfield 30, 3), (170, .aload_n 0, 1), (171, .getfield 45, 3), (174, .aload_n 0, 1), (175, .getfield 41, 3), (178, .iadd, 1), (179, .bipush 12, 2), (181, .irem, 1), (182, .iload 7, 2), (184, .iastore, 1), (185, .aload_n 0, 1), (186, .dup, 1), (187, .getfield 41, 3), (190, .iconst 1, 1), (191, .iadd, 1), (192, .putfield 41, 3), (195, .aload_n 0, 1), (196, .getfield 33, 3), (199, .iload 7, 2), (201, .iconst 1, 1), (202, .iastore, 1), (203, .return_, 1)]
theorem D_cX0_push_2 : dcs cX0_push l_cX0_push_2 := dcs_of (by decide +kernel)
def l_cX1_init_0 : List (Nat × Instr × Nat) := [(0, .aload_n 0, 1), (1, .invokespecial 3, 3), (4, .aload_n 0, 1), (5, .bipush 30, 2), (7, .newarray .int, 2), (9, .putfield 9, 3), (12, .aload_n 0, 1), (13, .sipush 360, 3), (16, .newarray .int, 2), (18, .putfield 15, 3), (21, .aload_n 0, 1), (22, .sipush 360, 3), (25, .newarray .int, 2), (27, .putfield 18, 3), (30, .aload_n 0, 1), (31, .sipush 4320, 3), (34, .newarray .int, 2), (36, .putfield 21, 3), (39, .aload_n 0, 1), (40, .bipush 30, 2), (42, .newarray .int, 2), (44, .putfield 24, 3), (47, .aload_n 0, 1), (48, .bipush 12, 2), (50, .newarray .int, 2), (52, .putfield 27, 3), (55, .aload_n 0, 1), (56, .bipush 12, 2), (58, .newarray .int, 2), (60, .putfield 30, 3), (63, .return_, 1)]
theorem D_cX1_init_0 : dcs cX1_init l_cX1_init_0 := dcs_of (by decide +kernel)
def l_cX1_run_0 : List (Nat × Instr × Nat) := [(0, .aload_n 1, 1), (1, .aload_n 0, 1), (2, .getfield 24, 3), (5, .invokevirtual 33, 3), (8, .aload_n 0, 1), (9, .getfield 9, 3), (12, .iconst 0, 1), (13, .invokestatic 39, 3), (16, .aload_n 0, 1), (17, .iconst 0, 1), (18, .putfield 45, 3), (21, .aload_n 0, 1), (22, .aload_n 1, 1), (23, .invokevirtual 49, 3), (26, .aload_n 0, 1), (27, .iconst 0, 1), (28, .putfield 53, 3), (31, .aload_n 0, 1), (32, .getfield 53, 3), (35, .sipush 360, 3), (38, .if_icmp .ge 38, 3), (41, .aload_n 0, 1), (42, .getfield 27, 3), (45, .aload_n 1, 1), (46, .getfield 56, 3), (49, .iaload, 1), (50, .ifCond .le 26, 3), (53, .aload_n 0, 1), (54, .aload_n 1, 1), (55, .invokevirtual 59, 3), (58, .aload_n 0, 1), (59, .aload_n 1, 1), (60, .invokevirtual 49, 3), (63, .aload_n 0, 1), (64, .dup, 1), (65, .getfield 53, 3), (68, .iconst 1, 1), (69, .iadd, 1), (70, .putfield 53, 3), (73, .goto (-42), 3)]
theorem D_cX1_run_0 : dcs cX1_run l_cX1_run_0 := dcs_of (by decide +kernel)
def l_cX1_run_1 : List (Nat × Instr × Nat) := [(76, .aload_n 0, 1), (77, .aload_n 0, 1), (78, .aload_n 1, 1), (79, .aload_n 1, 1), (80, .getfield 56, 3), (83, .invokevirtual 62, 3), (86, .putfield 66, 3), (89, .aload_n 0, 1), (90, .iconst 0, 1), (91, .putfield 69, 3), (94, .iconst 0, 1), (95, .istore_n 2, 1), (96, .iload_n 2, 1), (97, .bipush 12, 2), (99, .if_icmp .ge 34, 3), (102, .aload_n 0, 1), (103, .dup, 1), (104, .getfield 69, 3), (107, .aload_n 0, 1), (108, .getfield 27, 3), (111, .iload_n 2, 1), (112, .iaload, 1), (113, .ifCond .lt 9, 3), (116, .iconst 1, 1), (117, .iload_n 2, 1), (118, .ishl, 1), (119, .goto 4, 3), (122, .iconst 0, 1), (123, .ior, 1), (124, .putfield 69, 3), (127, .iinc 2 1, 3), (130, .goto (-34), 3), (133, .return_, 1)]
theorem D_cX1_run_1 : dcs cX1_run l_cX1_run_1 := dcs_of (by decide +kernel)
def l_cX1_forward_0 : List (Nat × Instr × Nat) := [(0, .aload_n 0, 1), (1, .getfield 9, 3), (4, .iload_n 1, 1), (5, .iaload, 1), (6, .aload_n 0, 1), (7, .getfield 24, 3), (10, .iload_n 1, 1), (11, .iaload, 1), (12, .if_icmp .ge 7, 3), (15, .iconst 1, 1), (16, .goto 4, 3), (19, .iconst 0, 1), (20, .ireturn, 1)]
theorem D_cX1_forward_0 : dcs cX1_forward l_cX1_forward_0 := dcs_of (by decide +kernel)
def l_cX1_backward_0 : List (Nat × Instr × Nat) := [(0, .aload_n 0, 1), (1, .getfield 9, 3), (4, .iload_n 1, 1), (5, .iaload, 1), (6, .ifCond .le 7, 3), (9, .iconst 1, 1), (10, .goto 4, 3), (13, .iconst 0, 1), (14, .ireturn, 1)]
theorem D_cX1_backward_0 : dcs cX1_backward l_cX1_backward_0 := dcs_of (by decide +kernel)
def l_cX1_measure_0 : List (Nat × Instr × Nat) := [(0, .aload_n 0, 1), (1, .getfield 27, 3), (4, .iconst (-1), 1), (5, .invokestatic 39, 3), (8, .aload_n 0, 1), (9, .getfield 27, 3), (12, .aload_n 1, 1), (13, .getfield 72, 3), (16, .iconst 0, 1), (17, .iastore, 1), (18, .aload_n 0, 1), (19, .getfield 30, 3), (22, .iconst 0, 1), (23, .aload_n 1, 1), (24, .getfield 72, 3), (27, .iastore, 1), (28, .iconst 1, 1), (29, .istore_n 2, 1), (30, .iconst 0, 1), (31, .istore_n 3, 1), (32, .iload_n 3, 1), (33, .iload_n 2, 1), (34, .if_icmp .ge 155, 3), (37, .iload_n 3, 1), (38, .bipush 12, 2), (40, .if_icmp .ge 149, 3), (43, .aload_n 0, 1), (44, .getfield 30, 3), (47, .iload_n 3, 1), (48, .iaload, 1), (49, .istore 4, 2), (51, .iconst 0, 1), (52, .istore 5, 2), (54, .iload 5, 2), (56, .aload_n 1, 1), (57, .getfield 75, 3), (60, .if_icmp .ge 123, 3), (63, .iconst (-1), 1), (64, .istore 6, 2), (66, .aload_n 1, 1)]
theorem D_cX1_measure_0 : dcs cX1_measure l_cX1_measure_0 := dcs_of (by decide +kernel)
def l_cX1_measure_1 : List (Nat × Instr × Nat) := [(67, .getfield 76, 3), (70, .iload 5, 2), (72, .iaload, 1), (73, .iload 4, 2), (75, .if_icmp .ne 24, 3), (78, .aload_n 0, 1), (79, .iload 5, 2), (81, .invokevirtual 79, 3), (84, .ifCond .eq 15, 3), (87, .aload_n 1, 1), (88, .getfield 83, 3), (91, .iload 5, 2), (93, .iaload, 1), (94, .istore 6, 2), (96, .goto 33, 3), (99, .aload_n 1, 1), (100, .getfield 83, 3), (103, .iload 5, 2), (105, .iaload, 1), (106, .iload 4, 2), (108, .if_icmp .ne 21, 3), (111, .aload_n 0, 1), (112, .iload 5, 2), (114, .invokevirtual 86, 3), (117, .ifCond .eq 12, 3), (120, .aload_n 1, 1), (121, .getfield 76, 3), (124, .iload 5, 2), (126, .iaload, 1), (127, .istore 6, 2), (129, .iload 6, 2), (131, .ifCond .lt 46, 3), (134, .aload_n 0, 1), (135, .getfield 27, 3), (138, .iload 6, 2), (140, .iaload, 1), (141, .ifCond .ge 36, 3), (144, .iload_n 2, 1), (145, .bipush 12, 2), (147, .if_icmp .ge 30, 3)]
theorem D_cX1_measure_1 : dcs cX1_measure l_cX1_measure_1 := dcs_of (by decide +kernel)
def l_cX1_measure_2 : List (Nat × Instr × Nat) := [(150, .aload_n 0, 1), (151, .getfield 27, 3), (154, .iload 6, 2), (156, .aload_n 0, 1), (157, .getfield 27, 3), (160, .iload 4, 2), (162, .iaload, 1), (163, .iconst 1, 1), (164, .iadd, 1), (165, .iastore, 1), (166, .aload_n 0, 1), (167, .getfield 30, 3), (170, .iload_n 2, 1), (171, .iload 6, 2), (173, .iastore, 1), (174, .iinc 2 1, 3), (177, .iinc 5 1, 3), (180, .goto (-126), 3), (183, .iinc 3 1, 3), (186, .goto (-154), 3), (189, .return_, 1)]
theorem D_cX1_measure_2 : dcs cX1_measure l_cX1_measure_2 := dcs_of (by decide +kernel)
def l_cX1_takeWay_0 : List (Nat × Instr × Nat) := [(0, .aload_n 0, 1), (1, .getfield 53, 3), (4, .bipush 12, 2), (6, .imul, 1), (7, .istore_n 2, 1), (8, .aload_n 0, 1), (9, .getfield 27, 3), (12, .aload_n 1, 1), (13, .getfield 56, 3), (16, .iaload, 1), (17, .bipush 12, 2), (19, .invokestatic 89, 3), (22, .istore_n 3, 1), (23, .aload_n 1, 1), (24, .getfield 56, 3), (27, .istore 4, 2), (29, .ldc 95, 2), (31, .istore 5, 2), (33, .iconst 0, 1), (34, .istore 6, 2), (36, .iload 6, 2), (38, .iload_n 3, 1), (39, .if_icmp .ge 79, 3), (42, .aload_n 0, 1), (43, .aload_n 1, 1), (44, .iload 4, 2), (46, .invokevirtual 96, 3), (49, .istore 7, 2), (51, .iload 7, 2), (53, .ifCond .ge 6, 3), (56, .goto 62, 3), (59, .aload_n 0, 1), (60, .getfield 21, 3), (63, .iload_n 2, 1), (64, .iload 6, 2), (66, .iadd, 1), (67, .iload 7, 2), (69, .iastore, 1), (70, .iload 5, 2), (72, .aload_n 0, 1)]
theorem D_cX1_takeWay_0 : dcs cX1_takeWay l_cX1_takeWay_0 := dcs_of (by decide +kernel)
def l_cX1_takeWay_1 : List (Nat × Instr × Nat) := [(73, .iload 7, 2), (75, .invokevirtual 99, 3), (78, .invokestatic 89, 3), (81, .istore 5, 2), (83, .iload 7, 2), (85, .bipush 100, 2), (87, .if_icmp .ge 13, 3), (90, .aload_n 1, 1), (91, .getfield 76, 3), (94, .iload 7, 2), (96, .iaload, 1), (97, .goto 13, 3), (100, .aload_n 1, 1), (101, .getfield 83, 3), (104, .iload 7, 2), (106, .bipush 100, 2), (108, .isub, 1), (109, .iaload, 1), (110, .istore 4, 2), (112, .iinc 6 1, 3), (115, .goto (-79), 3), (118, .aload_n 0, 1), (119, .getfield 15, 3), (122, .aload_n 0, 1), (123, .getfield 53, 3), (126, .iload 5, 2), (128, .iastore, 1), (129, .aload_n 0, 1), (130, .getfield 18, 3), (133, .aload_n 0, 1), (134, .getfield 53, 3), (137, .iload_n 3, 1), (138, .iastore, 1), (139, .aload_n 0, 1), (140, .dup, 1), (141, .getfield 45, 3), (144, .iload 5, 2), (146, .iadd, 1), (147, .putfield 45, 3), (150, .aload_n 0, 1)]
theorem D_cX1_takeWay_1 : dcs cX1_takeWay l_cX1_takeWay_1 := dcs_of (by decide +kernel)
def l_cX1_takeWay_2 : List (Nat × Instr × Nat) := [(151, .iload_n 2, 1), (152, .iload_n 3, 1), (153, .iload 5, 2), (155, .invokevirtual 103, 3), (158, .return_, 1)]
theorem D_cX1_takeWay_2 : dcs cX1_takeWay l_cX1_takeWay_2 := dcs_of (by decide +kernel)
def l_cX1_nextStep_0 : List (Nat × Instr × Nat) := [(0, .iconst 0, 1), (1, .istore_n 3, 1), (2, .iload_n 3, 1), (3, .aload_n 1, 1), (4, .getfield 75, 3), (7, .if_icmp .ge 51, 3), (10, .aload_n 1, 1), (11, .getfield 83, 3), (14, .iload_n 3, 1), (15, .iaload, 1), (16, .iload_n 2, 1), (17, .if_icmp .ne 35, 3), (20, .aload_n 0, 1), (21, .iload_n 3, 1), (22, .invokevirtual 79, 3), (25, .ifCond .eq 27, 3), (28, .aload_n 0, 1), (29, .getfield 27, 3), (32, .aload_n 1, 1), (33, .getfield 76, 3), (36, .iload_n 3, 1), (37, .iaload, 1), (38, .iaload, 1), (39, .aload_n 0, 1), (40, .getfield 27, 3), (43, .iload_n 2, 1), (44, .iaload, 1), (45, .iconst 1, 1), (46, .isub, 1), (47, .if_icmp .ne 5, 3), (50, .iload_n 3, 1), (51, .ireturn, 1), (52, .iinc 3 1, 3), (55, .goto (-53), 3), (58, .iconst 0, 1), (59, .istore_n 3, 1), (60, .iload_n 3, 1), (61, .aload_n 1, 1), (62, .getfield 75, 3), (65, .if_icmp .ge 54, 3)]
theorem D_cX1_nextStep_0 : dcs cX1_nextStep l_cX1_nextStep_0 := dcs_of (by decide +kernel)
def l_cX1_nextStep_1 : List (Nat × Instr × Nat) := [(68, .aload_n 1, 1), (69, .getfield 76, 3), (72, .iload_n 3, 1), (73, .iaload, 1), (74, .iload_n 2, 1), (75, .if_icmp .ne 38, 3), (78, .aload_n 0, 1), (79, .iload_n 3, 1), (80, .invokevirtual 86, 3), (83, .ifCond .eq 30, 3), (86, .aload_n 0, 1), (87, .getfield 27, 3), (90, .aload_n 1, 1), (91, .getfield 83, 3), (94, .iload_n 3, 1), (95, .iaload, 1), (96, .iaload, 1), (97, .aload_n 0, 1), (98, .getfield 27, 3), (101, .iload_n 2, 1), (102, .iaload, 1), (103, .iconst 1, 1), (104, .isub, 1), (105, .if_icmp .ne 8, 3), (108, .bipush 100, 2), (110, .iload_n 3, 1), (111, .iadd, 1), (112, .ireturn, 1), (113, .iinc 3 1, 3), (116, .goto (-56), 3), (119, .iconst (-1), 1), (120, .ireturn, 1)]
theorem D_cX1_nextStep_1 : dcs cX1_nextStep l_cX1_nextStep_1 := dcs_of (by decide +kernel)
def l_cX1_roomOf_0 : List (Nat × Instr × Nat) := [(0, .iload_n 1, 1), (1, .bipush 100, 2), (3, .if_icmp .ge 19, 3), (6, .aload_n 0, 1), (7, .getfield 24, 3), (10, .iload_n 1, 1), (11, .iaload, 1), (12, .aload_n 0, 1), (13, .getfield 9, 3), (16, .iload_n 1, 1), (17, .iaload, 1), (18, .isub, 1), (19, .goto 12, 3), (22, .aload_n 0, 1), (23, .getfield 9, 3), (26, .iload_n 1, 1), (27, .bipush 100, 2), (29, .isub, 1), (30, .iaload, 1), (31, .ireturn, 1)]
theorem D_cX1_roomOf_0 : dcs cX1_roomOf l_cX1_roomOf_0 := dcs_of (by decide +kernel)
def l_cX1_pour_0 : List (Nat × Instr × Nat) := [(0, .iconst 0, 1), (1, .istore 4, 2), (3, .iload 4, 2), (5, .iload_n 2, 1), (6, .if_icmp .ge 55, 3), (9, .aload_n 0, 1), (10, .getfield 21, 3), (13, .iload_n 1, 1), (14, .iload 4, 2), (16, .iadd, 1), (17, .iaload, 1), (18, .istore 5, 2), (20, .iload 5, 2), (22, .bipush 100, 2), (24, .if_icmp .ge 17, 3), (27, .aload_n 0, 1), (28, .getfield 9, 3), (31, .iload 5, 2), (33, .dup2, 1), (34, .iaload, 1), (35, .iload_n 3, 1), (36, .iadd, 1), (37, .iastore, 1), (38, .goto 17, 3), (41, .aload_n 0, 1), (42, .getfield 9, 3), (45, .iload 5, 2), (47, .bipush 100, 2), (49, .isub, 1), (50, .dup2, 1), (51, .iaload, 1), (52, .iload_n 3, 1), (53, .isub, 1), (54, .iastore, 1), (55, .iinc 4 1, 3), (58, .goto (-55), 3), (61, .return_, 1)]
theorem D_cX1_pour_0 : dcs cX1_pour l_cX1_pour_0 := dcs_of (by decide +kernel)
def l_cX1_spreadAlong_0 : List (Nat × Instr × Nat) := [(0, .iconst 1, 1), (1, .iload_n 2, 1), (2, .ishl, 1), (3, .istore_n 3, 1), (4, .iconst 0, 1), (5, .istore 4, 2), (7, .iload 4, 2), (9, .bipush 12, 2), (11, .if_icmp .ge 109, 3), (14, .iload_n 3, 1), (15, .istore 5, 2), (17, .iconst 0, 1), (18, .istore 6, 2), (20, .iload 6, 2), (22, .aload_n 1, 1), (23, .getfield 75, 3), (26, .if_icmp .ge 79, 3), (29, .iload_n 3, 1), (30, .aload_n 1, 1), (31, .getfield 83, 3), (34, .iload 6, 2), (36, .iaload, 1), (37, .invokestatic 107, 3), (40, .ifCond .eq 24, 3), (43, .aload_n 0, 1), (44, .iload 6, 2), (46, .invokevirtual 79, 3), (49, .ifCond .eq 15, 3), (52, .iload_n 3, 1), (53, .iconst 1, 1), (54, .aload_n 1, 1), (55, .getfield 76, 3), (58, .iload 6, 2), (60, .iaload, 1), (61, .ishl, 1), (62, .ior, 1), (63, .istore_n 3, 1), (64, .iload_n 3, 1), (65, .aload_n 1, 1), (66, .getfield 76, 3)]
theorem D_cX1_spreadAlong_0 : dcs cX1_spreadAlong l_cX1_spreadAlong_0 := dcs_of (by decide +kernel)
def l_cX1_spreadAlong_1 : List (Nat × Instr × Nat) := [(69, .iload 6, 2), (71, .iaload, 1), (72, .invokestatic 107, 3), (75, .ifCond .eq 24, 3), (78, .aload_n 0, 1), (79, .iload 6, 2), (81, .invokevirtual 86, 3), (84, .ifCond .eq 15, 3), (87, .iload_n 3, 1), (88, .iconst 1, 1), (89, .aload_n 1, 1), (90, .getfield 83, 3), (93, .iload 6, 2), (95, .iaload, 1), (96, .ishl, 1), (97, .ior, 1), (98, .istore_n 3, 1), (99, .iinc 6 1, 3), (102, .goto (-82), 3), (105, .iload_n 3, 1), (106, .iload 5, 2), (108, .if_icmp .ne 6, 3), (111, .goto 9, 3), (114, .iinc 4 1, 3), (117, .goto (-110), 3), (120, .iload_n 3, 1), (121, .ireturn, 1)]
theorem D_cX1_spreadAlong_1 : dcs cX1_spreadAlong l_cX1_spreadAlong_1 := dcs_of (by decide +kernel)
def l_cX2_init_0 : List (Nat × Instr × Nat) := [(0, .aload_n 0, 1), (1, .invokespecial 3, 3), (4, .aload_n 0, 1), (5, .bipush 6, 2), (7, .newarray .int, 2), (9, .putfield 9, 3), (12, .aload_n 0, 1), (13, .bipush 6, 2), (15, .newarray .int, 2), (17, .putfield 15, 3), (20, .aload_n 0, 1), (21, .bipush 6, 2), (23, .newarray .int, 2), (25, .putfield 18, 3), (28, .return_, 1)]
theorem D_cX2_init_0 : dcs cX2_init l_cX2_init_0 := dcs_of (by decide +kernel)
def l_cX2_holding_0 : List (Nat × Instr × Nat) := [(0, .aload_n 0, 1), (1, .iconst 0, 1), (2, .invokevirtual 21, 3), (5, .iconst 1, 1), (6, .istore 4, 2), (8, .iconst 0, 1), (9, .istore 5, 2), (11, .iload 5, 2), (13, .bipush 90, 2), (15, .if_icmp .gt 71, 3), (18, .aload_n 1, 1), (19, .getfield 25, 3), (22, .ifCond .ge 64, 3), (25, .iload 4, 2), (27, .ifCond .eq 14, 3), (30, .aload_n 0, 1), (31, .aload_n 1, 1), (32, .invokevirtual 31, 3), (35, .ifCond .eq 6, 3), (38, .goto 42, 3), (41, .iload 4, 2), (43, .ifCond .eq 20, 3), (46, .aload_n 0, 1), (47, .aload_n 0, 1), (48, .aload_n 1, 1), (49, .aload_n 2, 1), (50, .aload_n 3, 1), (51, .invokevirtual 35, 3), (54, .invokevirtual 39, 3), (57, .iconst 0, 1), (58, .istore 4, 2), (60, .goto 20, 3), (63, .aload_n 1, 1), (64, .invokevirtual 42, 3), (67, .ifCond .eq 6, 3), (70, .goto 16, 3), (73, .aload_n 0, 1), (74, .aload_n 1, 1), (75, .invokevirtual 46, 3), (78, .istore 4, 2)]
theorem D_cX2_holding_0 : dcs cX2_holding l_cX2_holding_0 := dcs_of (by decide +kernel)
def l_cX2_holding_1 : List (Nat × Instr × Nat) := [(80, .iinc 5 1, 3), (83, .goto (-72), 3), (86, .aload_n 0, 1), (87, .getfield 49, 3), (90, .ifCond .le 11, 3), (93, .aload_n 1, 1), (94, .aload_n 1, 1), (95, .getfield 52, 3), (98, .invokevirtual 55, 3), (101, .aload_n 0, 1), (102, .getfield 9, 3), (105, .iconst 0, 1), (106, .iaload, 1), (107, .aload_n 0, 1), (108, .getfield 15, 3), (111, .iconst 0, 1), (112, .iaload, 1), (113, .ior, 1), (114, .aload_n 2, 1), (115, .invokevirtual 58, 3), (118, .iand, 1), (119, .ireturn, 1)]
theorem D_cX2_holding_1 : dcs cX2_holding l_cX2_holding_1 := dcs_of (by decide +kernel)
def l_cX2_takeOpening_0 : List (Nat × Instr × Nat) := [(0, .aload_n 1, 1), (1, .bipush 33, 2), (3, .invokevirtual 64, 3), (6, .ifCond .eq 18, 3), (9, .aload_n 0, 1), (10, .getfield 18, 3), (13, .aload_n 0, 1), (14, .getfield 49, 3), (17, .dup2, 1), (18, .iaload, 1), (19, .iconst 1, 1), (20, .ixor, 1), (21, .iastore, 1), (22, .iconst 1, 1), (23, .ireturn, 1), (24, .aload_n 0, 1), (25, .getfield 49, 3), (28, .iconst 5, 1), (29, .if_icmp .ge 24, 3), (32, .aload_n 1, 1), (33, .bipush 40, 2), (35, .invokevirtual 64, 3), (38, .ifCond .eq 15, 3), (41, .aload_n 0, 1), (42, .aload_n 0, 1), (43, .getfield 49, 3), (46, .iconst 1, 1), (47, .iadd, 1), (48, .invokevirtual 21, 3), (51, .iconst 1, 1), (52, .ireturn, 1), (53, .iconst 0, 1), (54, .ireturn, 1)]
theorem D_cX2_takeOpening_0 : dcs cX2_takeOpening l_cX2_takeOpening_0 := dcs_of (by decide +kernel)
def l_cX2_takeJoint_0 : List (Nat × Instr × Nat) := [(0, .aload_n 1, 1), (1, .bipush 38, 2), (3, .invokevirtual 64, 3), (6, .ifCond .eq 5, 3), (9, .iconst 1, 1), (10, .ireturn, 1), (11, .aload_n 1, 1), (12, .bipush 124, 2), (14, .invokevirtual 64, 3), (17, .ifCond .eq 36, 3), (20, .aload_n 0, 1), (21, .getfield 9, 3), (24, .aload_n 0, 1), (25, .getfield 49, 3), (28, .dup2, 1), (29, .iaload, 1), (30, .aload_n 0, 1), (31, .getfield 15, 3), (34, .aload_n 0, 1), (35, .getfield 49, 3), (38, .iaload, 1), (39, .ior, 1), (40, .iastore, 1), (41, .aload_n 0, 1), (42, .getfield 15, 3), (45, .aload_n 0, 1), (46, .getfield 49, 3), (49, .iconst (-1), 1), (50, .iastore, 1), (51, .iconst 1, 1), (52, .ireturn, 1), (53, .aload_n 0, 1), (54, .getfield 49, 3), (57, .ifCond .le 50, 3), (60, .aload_n 1, 1), (61, .bipush 41, 2), (63, .invokevirtual 64, 3), (66, .ifCond .eq 41, 3), (69, .aload_n 0, 1), (70, .getfield 9, 3)]
theorem D_cX2_takeJoint_0 : dcs cX2_takeJoint l_cX2_takeJoint_0 := dcs_of (by decide +kernel)
def l_cX2_takeJoint_1 : List (Nat × Instr × Nat) := [(73, .aload_n 0, 1), (74, .getfield 49, 3), (77, .iaload, 1), (78, .aload_n 0, 1), (79, .getfield 15, 3), (82, .aload_n 0, 1), (83, .getfield 49, 3), (86, .iaload, 1), (87, .ior, 1), (88, .istore_n 2, 1), (89, .aload_n 0, 1), (90, .dup, 1), (91, .getfield 49, 3), (94, .iconst 1, 1), (95, .isub, 1), (96, .putfield 49, 3), (99, .aload_n 0, 1), (100, .iload_n 2, 1), (101, .invokevirtual 39, 3), (104, .goto 11, 3), (107, .aload_n 1, 1), (108, .aload_n 1, 1), (109, .getfield 52, 3), (112, .invokevirtual 55, 3), (115, .iconst 0, 1), (116, .ireturn, 1)]
theorem D_cX2_takeJoint_1 : dcs cX2_takeJoint l_cX2_takeJoint_1 := dcs_of (by decide +kernel)
def l_cX2_openBracket_0 : List (Nat × Instr × Nat) := [(0, .aload_n 0, 1), (1, .iconst 0, 1), (2, .iload_n 1, 1), (3, .iconst 5, 1), (4, .invokestatic 68, 3), (7, .invokestatic 74, 3), (10, .putfield 49, 3), (13, .aload_n 0, 1), (14, .getfield 9, 3), (17, .aload_n 0, 1), (18, .getfield 49, 3), (21, .iconst 0, 1), (22, .iastore, 1), (23, .aload_n 0, 1), (24, .getfield 15, 3), (27, .aload_n 0, 1), (28, .getfield 49, 3), (31, .iconst (-1), 1), (32, .iastore, 1), (33, .aload_n 0, 1), (34, .getfield 18, 3), (37, .aload_n 0, 1), (38, .getfield 49, 3), (41, .iconst 0, 1), (42, .iastore, 1), (43, .return_, 1)]
theorem D_cX2_openBracket_0 : dcs cX2_openBracket l_cX2_openBracket_0 := dcs_of (by decide +kernel)
def l_cX2_putPart_0 : List (Nat × Instr × Nat) := [(0, .aload_n 0, 1), (1, .getfield 15, 3), (4, .aload_n 0, 1), (5, .getfield 49, 3), (8, .dup2, 1), (9, .iaload, 1), (10, .aload_n 0, 1), (11, .getfield 18, 3), (14, .aload_n 0, 1), (15, .getfield 49, 3), (18, .iaload, 1), (19, .iconst 1, 1), (20, .if_icmp .ne 9, 3), (23, .iload_n 1, 1), (24, .iconst (-1), 1), (25, .ixor, 1), (26, .goto 4, 3), (29, .iload_n 1, 1), (30, .iand, 1), (31, .iastore, 1), (32, .aload_n 0, 1), (33, .getfield 18, 3), (36, .aload_n 0, 1), (37, .getfield 49, 3), (40, .iconst 0, 1), (41, .iastore, 1), (42, .return_, 1)]
theorem D_cX2_putPart_0 : dcs cX2_putPart l_cX2_putPart_0 := dcs_of (by decide +kernel)
def l_cX2_takeComparison_0 : List (Nat × Instr × Nat) := [(0, .aload_n 0, 1), (1, .aload_n 1, 1), (2, .invokevirtual 77, 3), (5, .istore 4, 2), (7, .aload_n 1, 1), (8, .aload_n 1, 1), (9, .getfield 52, 3), (12, .invokevirtual 81, 3), (15, .istore 5, 2), (17, .aload_n 1, 1), (18, .bipush 60, 2), (20, .invokevirtual 64, 3), (23, .ifCond .ne 18, 3), (26, .aload_n 1, 1), (27, .bipush 61, 2), (29, .invokevirtual 64, 3), (32, .ifCond .ne 9, 3), (35, .aload_n 1, 1), (36, .bipush 62, 2), (38, .invokevirtual 85, 3), (41, .aload_n 1, 1), (42, .invokevirtual 89, 3), (45, .istore 6, 2), (47, .iconst 0, 1), (48, .istore 7, 2), (50, .iconst 0, 1), (51, .istore 8, 2), (53, .iload 8, 2), (55, .aload_n 2, 1), (56, .getfield 92, 3), (59, .if_icmp .ge 113, 3), (62, .iload 8, 2), (64, .aload_n 3, 1), (65, .arraylength, 1), (66, .if_icmp .ge 106, 3), (69, .aload_n 1, 1), (70, .getfield 25, 3), (73, .ifCond .ge 99, 3), (76, .iload 4, 2), (78, .aload_n 2, 1)]
theorem D_cX2_takeComparison_0 : dcs cX2_takeComparison l_cX2_takeComparison_0 := dcs_of (by decide +kernel)
def l_cX2_takeComparison_1 : List (Nat × Instr × Nat) := [(79, .iload 8, 2), (81, .aload_n 3, 1), (82, .iload 8, 2), (84, .iaload, 1), (85, .invokestatic 95, 3), (88, .istore 9, 2), (90, .iload 5, 2), (92, .bipush 60, 2), (94, .if_icmp .ne 18, 3), (97, .iload 9, 2), (99, .iload 6, 2), (101, .if_icmp .ge 7, 3), (104, .iconst 1, 1), (105, .goto 41, 3), (108, .iconst 0, 1), (109, .goto 37, 3), (112, .iload 5, 2), (114, .bipush 62, 2), (116, .if_icmp .ne 18, 3), (119, .iload 9, 2), (121, .iload 6, 2), (123, .if_icmp .le 7, 3), (126, .iconst 1, 1), (127, .goto 19, 3), (130, .iconst 0, 1), (131, .goto 15, 3), (134, .iload 9, 2), (136, .iload 6, 2), (138, .if_icmp .ne 7, 3), (141, .iconst 1, 1), (142, .goto 4, 3), (145, .iconst 0, 1), (146, .istore 10, 2), (148, .iload 7, 2), (150, .iload 10, 2), (152, .ifCond .eq 10, 3), (155, .iconst 1, 1), (156, .iload 8, 2), (158, .ishl, 1), (159, .goto 4, 3)]
theorem D_cX2_takeComparison_1 : dcs cX2_takeComparison l_cX2_takeComparison_1 := dcs_of (by decide +kernel)
def l_cX2_takeComparison_2 : List (Nat × Instr × Nat) := [(162, .iconst 0, 1), (163, .ior, 1), (164, .istore 7, 2), (166, .iinc 8 1, 3), (169, .goto (-116), 3), (172, .iload 7, 2), (174, .ireturn, 1)]
theorem D_cX2_takeComparison_2 : dcs cX2_takeComparison l_cX2_takeComparison_2 := dcs_of (by decide +kernel)
def l_cX2_takeWord_0 : List (Nat × Instr × Nat) := [(0, .aload_n 1, 1), (1, .getfield 52, 3), (4, .istore_n 2, 1), (5, .iconst 0, 1), (6, .istore_n 3, 1), (7, .iload_n 3, 1), (8, .bipush 90, 2), (10, .if_icmp .ge 45, 3), (13, .aload_n 1, 1), (14, .aload_n 1, 1), (15, .getfield 52, 3), (18, .invokevirtual 81, 3), (21, .bipush 97, 2), (23, .if_icmp .lt 32, 3), (26, .aload_n 1, 1), (27, .aload_n 1, 1), (28, .getfield 52, 3), (31, .invokevirtual 81, 3), (34, .bipush 122, 2), (36, .if_icmp .gt 19, 3), (39, .aload_n 1, 1), (40, .dup, 1), (41, .getfield 52, 3), (44, .iconst 1, 1), (45, .iadd, 1), (46, .putfield 52, 3), (49, .iinc 3 1, 3), (52, .goto (-45), 3), (55, .iconst 0, 1), (56, .istore_n 3, 1), (57, .iload_n 3, 1), (58, .bipush 8, 2), (60, .if_icmp .ge 23, 3), (63, .aload_n 1, 1), (64, .iload_n 2, 1), (65, .iload_n 3, 1), (66, .invokestatic 99, 3), (69, .invokestatic 103, 3), (72, .ifCond .eq 5, 3), (75, .iload_n 3, 1)]
theorem D_cX2_takeWord_0 : dcs cX2_takeWord l_cX2_takeWord_0 := dcs_of (by decide +kernel)
def l_cX2_takeWord_1 : List (Nat × Instr × Nat) := [(76, .ireturn, 1), (77, .iinc 3 1, 3), (80, .goto (-23), 3), (83, .aload_n 1, 1), (84, .iload_n 2, 1), (85, .invokevirtual 55, 3), (88, .iconst (-1), 1), (89, .ireturn, 1)]
theorem D_cX2_takeWord_1 : dcs cX2_takeWord l_cX2_takeWord_1 := dcs_of (by decide +kernel)
def l_cX2_isWord_0 : List (Nat × Instr × Nat) := [(0, .aload_n 0, 1), (1, .getfield 52, 3), (4, .iload_n 1, 1), (5, .isub, 1), (6, .aload_n 2, 1), (7, .invokevirtual 107, 3), (10, .if_icmp .eq 5, 3), (13, .iconst 0, 1), (14, .ireturn, 1), (15, .iconst 0, 1), (16, .istore_n 3, 1), (17, .iload_n 3, 1), (18, .aload_n 2, 1), (19, .invokevirtual 107, 3), (22, .if_icmp .ge 26, 3), (25, .aload_n 0, 1), (26, .iload_n 1, 1), (27, .iload_n 3, 1), (28, .iadd, 1), (29, .invokevirtual 81, 3), (32, .aload_n 2, 1), (33, .iload_n 3, 1), (34, .invokevirtual 112, 3), (37, .if_icmp .eq 5, 3), (40, .iconst 0, 1), (41, .ireturn, 1), (42, .iinc 3 1, 3), (45, .goto (-28), 3), (48, .iconst 1, 1), (49, .ireturn, 1)]
theorem D_cX2_isWord_0 : dcs cX2_isWord l_cX2_isWord_0 := dcs_of (by decide +kernel)
def l_cX2_nameOf_0 : List (Nat × Instr × Nat) := [(0, .iload_n 0, 1), (1, .tableswitch 64 0 6 #[43, 46, 49, 52, 55, 58, 61], 43), (44, .ldc 116, 2), (46, .areturn, 1), (47, .ldc 118, 2), (49, .areturn, 1), (50, .ldc 120, 2), (52, .areturn, 1), (53, .ldc 122, 2), (55, .areturn, 1), (56, .ldc 124, 2), (58, .areturn, 1), (59, .ldc 126, 2), (61, .areturn, 1), (62, .ldc 128, 2), (64, .areturn, 1), (65, .ldc 130, 2), (67, .areturn, 1)]
theorem D_cX2_nameOf_0 : dcs cX2_nameOf l_cX2_nameOf_0 := dcs_of (by decide +kernel)
def l_cX2_valueOf_0 : List (Nat × Instr × Nat) := [(0, .iload_n 0, 1), (1, .tableswitch 89 0 6 #[43, 50, 57, 64, 71, 78, 80], 43), (44, .aload_n 1, 1), (45, .getfield 132, 3), (48, .iload_n 2, 1), (49, .iaload, 1), (50, .ireturn, 1), (51, .aload_n 1, 1), (52, .getfield 134, 3), (55, .iload_n 2, 1), (56, .iaload, 1), (57, .ireturn, 1), (58, .aload_n 1, 1), (59, .getfield 136, 3), (62, .iload_n 2, 1), (63, .iaload, 1), (64, .ireturn, 1), (65, .aload_n 1, 1), (66, .getfield 139, 3), (69, .iload_n 2, 1), (70, .iaload, 1), (71, .ireturn, 1), (72, .aload_n 1, 1), (73, .getfield 141, 3), (76, .iload_n 2, 1), (77, .iaload, 1), (78, .ireturn, 1), (79, .iload_n 3, 1), (80, .ireturn, 1), (81, .aload_n 1, 1), (82, .getfield 136, 3), (85, .iload_n 2, 1), (86, .iaload, 1), (87, .iload_n 3, 1), (88, .isub, 1), (89, .ireturn, 1), (90, .iconst 1, 1), (91, .aload_n 1, 1), (92, .getfield 143, 3), (95, .iload_n 2, 1)]
theorem D_cX2_valueOf_0 : dcs cX2_valueOf l_cX2_valueOf_0 := dcs_of (by decide +kernel)
def l_cX2_valueOf_1 : List (Nat × Instr × Nat) := [(96, .iaload, 1), (97, .isub, 1), (98, .ireturn, 1)]
theorem D_cX2_valueOf_1 : dcs cX2_valueOf l_cX2_valueOf_1 := dcs_of (by decide +kernel)
def l_cX3_init_0 : List (Nat × Instr × Nat) := [(0, .aload_n 0, 1), (1, .invokespecial 3, 3), (4, .aload_n 0, 1), (5, .bipush 30, 2), (7, .newarray .int, 2), (9, .putfield 9, 3), (12, .aload_n 0, 1), (13, .bipush 30, 2), (15, .newarray .int, 2), (17, .putfield 15, 3), (20, .aload_n 0, 1), (21, .bipush 30, 2), (23, .newarray .int, 2), (25, .putfield 18, 3), (28, .aload_n 0, 1), (29, .bipush 30, 2), (31, .newarray .int, 2), (33, .putfield 21, 3), (36, .aload_n 0, 1), (37, .bipush 30, 2), (39, .newarray .int, 2), (41, .putfield 24, 3), (44, .aload_n 0, 1), (45, .bipush 30, 2), (47, .newarray .int, 2), (49, .putfield 27, 3), (52, .aload_n 0, 1), (53, .bipush 11, 2), (55, .putfield 30, 3), (58, .return_, 1)]
theorem D_cX3_init_0 : dcs cX3_init l_cX3_init_0 := dcs_of (by decide +kernel)
def l_cX3_has_0 : List (Nat × Instr × Nat) := [(0, .iload_n 1, 1), (1, .ifCond .lt 15, 3), (4, .iload_n 1, 1), (5, .aload_n 0, 1), (6, .getfield 34, 3), (9, .if_icmp .ge 7, 3), (12, .iconst 1, 1), (13, .goto 4, 3), (16, .iconst 0, 1), (17, .ireturn, 1)]
theorem D_cX3_has_0 : dcs cX3_has l_cX3_has_0 := dcs_of (by decide +kernel)
def l_cX3_add_0 : List (Nat × Instr × Nat) := [(0, .aload_n 0, 1), (1, .getfield 34, 3), (4, .ifCond .lt 12, 3), (7, .aload_n 0, 1), (8, .getfield 34, 3), (11, .bipush 30, 2), (13, .if_icmp .lt 6, 3), (16, .bipush (-4), 2), (18, .ireturn, 1), (19, .aload_n 0, 1), (20, .getfield 9, 3), (23, .aload_n 0, 1), (24, .getfield 34, 3), (27, .iload_n 1, 1), (28, .iastore, 1), (29, .aload_n 0, 1), (30, .getfield 15, 3), (33, .aload_n 0, 1), (34, .getfield 34, 3), (37, .iload_n 2, 1), (38, .iastore, 1), (39, .aload_n 0, 1), (40, .getfield 18, 3), (43, .aload_n 0, 1), (44, .getfield 34, 3), (47, .iload_n 3, 1), (48, .iastore, 1), (49, .aload_n 0, 1), (50, .getfield 21, 3), (53, .aload_n 0, 1), (54, .getfield 34, 3), (57, .iload 4, 2), (59, .iastore, 1), (60, .aload_n 0, 1), (61, .getfield 24, 3), (64, .aload_n 0, 1), (65, .getfield 34, 3), (68, .iload 5, 2), (70, .iastore, 1), (71, .aload_n 0, 1)]
theorem D_cX3_add_0 : dcs cX3_add l_cX3_add_0 := dcs_of (by decide +kernel)
def l_cX3_add_1 : List (Nat × Instr × Nat) := [(72, .getfield 27, 3), (75, .aload_n 0, 1), (76, .getfield 34, 3), (79, .iload 6, 2), (81, .iastore, 1), (82, .aload_n 0, 1), (83, .dup, 1), (84, .getfield 34, 3), (87, .iconst 1, 1), (88, .iadd, 1), (89, .putfield 34, 3), (92, .aload_n 0, 1), (93, .getfield 34, 3), (96, .iconst 1, 1), (97, .isub, 1), (98, .ireturn, 1)]
theorem D_cX3_add_1 : dcs cX3_add l_cX3_add_1 := dcs_of (by decide +kernel)
def l_cX3_copyFrom_0 : List (Nat × Instr × Nat) := [(0, .aload_n 1, 1), (1, .getfield 9, 3), (4, .iconst 0, 1), (5, .aload_n 0, 1), (6, .getfield 9, 3), (9, .iconst 0, 1), (10, .bipush 30, 2), (12, .invokestatic 37, 3), (15, .aload_n 1, 1), (16, .getfield 15, 3), (19, .iconst 0, 1), (20, .aload_n 0, 1), (21, .getfield 15, 3), (24, .iconst 0, 1), (25, .bipush 30, 2), (27, .invokestatic 37, 3), (30, .aload_n 1, 1), (31, .getfield 18, 3), (34, .iconst 0, 1), (35, .aload_n 0, 1), (36, .getfield 18, 3), (39, .iconst 0, 1), (40, .bipush 30, 2), (42, .invokestatic 37, 3), (45, .aload_n 1, 1), (46, .getfield 21, 3), (49, .iconst 0, 1), (50, .aload_n 0, 1), (51, .getfield 21, 3), (54, .iconst 0, 1), (55, .bipush 30, 2), (57, .invokestatic 37, 3), (60, .aload_n 1, 1), (61, .getfield 24, 3), (64, .iconst 0, 1), (65, .aload_n 0, 1), (66, .getfield 24, 3), (69, .iconst 0, 1), (70, .bipush 30, 2), (72, .invokestatic 37, 3)]
theorem D_cX3_copyFrom_0 : dcs cX3_copyFrom l_cX3_copyFrom_0 := dcs_of (by decide +kernel)
def l_cX3_copyFrom_1 : List (Nat × Instr × Nat) := [(75, .aload_n 1, 1), (76, .getfield 27, 3), (79, .iconst 0, 1), (80, .aload_n 0, 1), (81, .getfield 27, 3), (84, .iconst 0, 1), (85, .bipush 30, 2), (87, .invokestatic 37, 3), (90, .aload_n 0, 1), (91, .aload_n 1, 1), (92, .getfield 34, 3), (95, .putfield 34, 3), (98, .aload_n 0, 1), (99, .aload_n 1, 1), (100, .getfield 43, 3), (103, .putfield 43, 3), (106, .aload_n 0, 1), (107, .aload_n 1, 1), (108, .getfield 30, 3), (111, .putfield 30, 3), (114, .return_, 1)]
theorem D_cX3_copyFrom_1 : dcs cX3_copyFrom l_cX3_copyFrom_1 := dcs_of (by decide +kernel)
def l_cX3_usable_0 : List (Nat × Instr × Nat) := [(0, .aload_n 0, 1), (1, .iload_n 1, 1), (2, .invokevirtual 46, 3), (5, .ifCond .eq 22, 3), (8, .aload_n 0, 1), (9, .getfield 27, 3), (12, .iload_n 1, 1), (13, .iaload, 1), (14, .iconst 1, 1), (15, .if_icmp .ne 12, 3), (18, .aload_n 0, 1), (19, .getfield 21, 3), (22, .iload_n 1, 1), (23, .iaload, 1), (24, .goto 4, 3), (27, .iconst 0, 1), (28, .ireturn, 1)]
theorem D_cX3_usable_0 : dcs cX3_usable l_cX3_usable_0 := dcs_of (by decide +kernel)
def l_cX3_usableLeast_0 : List (Nat × Instr × Nat) := [(0, .aload_n 0, 1), (1, .iload_n 1, 1), (2, .invokevirtual 46, 3), (5, .ifCond .eq 22, 3), (8, .aload_n 0, 1), (9, .getfield 27, 3), (12, .iload_n 1, 1), (13, .iaload, 1), (14, .iconst 1, 1), (15, .if_icmp .ne 12, 3), (18, .aload_n 0, 1), (19, .getfield 18, 3), (22, .iload_n 1, 1), (23, .iaload, 1), (24, .goto 4, 3), (27, .iconst 0, 1), (28, .ireturn, 1)]
theorem D_cX3_usableLeast_0 : dcs cX3_usableLeast l_cX3_usableLeast_0 := dcs_of (by decide +kernel)
def l_cX3_copyUsable_0 : List (Nat × Instr × Nat) := [(0, .iconst 0, 1), (1, .istore_n 2, 1), (2, .iload_n 2, 1), (3, .aload_n 0, 1), (4, .getfield 34, 3), (7, .if_icmp .ge 23, 3), (10, .iload_n 2, 1), (11, .aload_n 1, 1), (12, .arraylength, 1), (13, .if_icmp .ge 17, 3), (16, .aload_n 1, 1), (17, .iload_n 2, 1), (18, .aload_n 0, 1), (19, .iload_n 2, 1), (20, .invokevirtual 50, 3), (23, .iastore, 1), (24, .iinc 2 1, 3), (27, .goto (-25), 3), (30, .return_, 1)]
theorem D_cX3_copyUsable_0 : dcs cX3_copyUsable l_cX3_copyUsable_0 := dcs_of (by decide +kernel)
def l_cX3_allBits_0 : List (Nat × Instr × Nat) := [(0, .iconst 1, 1), (1, .aload_n 0, 1), (2, .getfield 34, 3), (5, .ishl, 1), (6, .iconst 1, 1), (7, .isub, 1), (8, .ireturn, 1)]
theorem D_cX3_allBits_0 : dcs cX3_allBits l_cX3_allBits_0 := dcs_of (by decide +kernel)
def l_cX3_countOpen_0 : List (Nat × Instr × Nat) := [(0, .iconst 0, 1), (1, .istore_n 1, 1), (2, .iconst 0, 1), (3, .istore_n 2, 1), (4, .iload_n 2, 1), (5, .aload_n 0, 1), (6, .getfield 34, 3), (9, .if_icmp .ge 18, 3), (12, .iload_n 1, 1), (13, .aload_n 0, 1), (14, .getfield 27, 3), (17, .iload_n 2, 1), (18, .iaload, 1), (19, .iadd, 1), (20, .istore_n 1, 1), (21, .iinc 2 1, 3), (24, .goto (-20), 3), (27, .iload_n 1, 1), (28, .ireturn, 1)]
theorem D_cX3_countOpen_0 : dcs cX3_countOpen l_cX3_countOpen_0 := dcs_of (by decide +kernel)
def l_cX3_capacityFrom_0 : List (Nat × Instr × Nat) := [(0, .iconst 0, 1), (1, .istore_n 2, 1), (2, .iconst 0, 1), (3, .istore_n 3, 1), (4, .iload_n 3, 1), (5, .aload_n 0, 1), (6, .getfield 34, 3), (9, .if_icmp .ge 31, 3), (12, .iload_n 2, 1), (13, .aload_n 0, 1), (14, .getfield 9, 3), (17, .iload_n 3, 1), (18, .iaload, 1), (19, .iload_n 1, 1), (20, .if_icmp .ne 11, 3), (23, .aload_n 0, 1), (24, .iload_n 3, 1), (25, .invokevirtual 50, 3), (28, .goto 4, 3), (31, .iconst 0, 1), (32, .iadd, 1), (33, .istore_n 2, 1), (34, .iinc 3 1, 3), (37, .goto (-33), 3), (40, .iload_n 2, 1), (41, .ireturn, 1)]
theorem D_cX3_capacityFrom_0 : dcs cX3_capacityFrom l_cX3_capacityFrom_0 := dcs_of (by decide +kernel)
def l_cX3_capacityTo_0 : List (Nat × Instr × Nat) := [(0, .iconst 0, 1), (1, .istore_n 2, 1), (2, .iconst 0, 1), (3, .istore_n 3, 1), (4, .iload_n 3, 1), (5, .aload_n 0, 1), (6, .getfield 34, 3), (9, .if_icmp .ge 31, 3), (12, .iload_n 2, 1), (13, .aload_n 0, 1), (14, .getfield 15, 3), (17, .iload_n 3, 1), (18, .iaload, 1), (19, .iload_n 1, 1), (20, .if_icmp .ne 11, 3), (23, .aload_n 0, 1), (24, .iload_n 3, 1), (25, .invokevirtual 50, 3), (28, .goto 4, 3), (31, .iconst 0, 1), (32, .iadd, 1), (33, .istore_n 2, 1), (34, .iinc 3 1, 3), (37, .goto (-33), 3), (40, .iload_n 2, 1), (41, .ireturn, 1)]
theorem D_cX3_capacityTo_0 : dcs cX3_capacityTo l_cX3_capacityTo_0 := dcs_of (by decide +kernel)
def l_cX3_isSameTwo_0 : List (Nat × Instr × Nat) := [(0, .aload_n 0, 1), (1, .getfield 9, 3), (4, .iload_n 1, 1), (5, .iaload, 1), (6, .aload_n 0, 1), (7, .getfield 9, 3), (10, .iload_n 2, 1), (11, .iaload, 1), (12, .if_icmp .ne 22, 3), (15, .aload_n 0, 1), (16, .getfield 15, 3), (19, .iload_n 1, 1), (20, .iaload, 1), (21, .aload_n 0, 1), (22, .getfield 15, 3), (25, .iload_n 2, 1), (26, .iaload, 1), (27, .if_icmp .ne 7, 3), (30, .iconst 1, 1), (31, .goto 4, 3), (34, .iconst 0, 1), (35, .ireturn, 1)]
theorem D_cX3_isSameTwo_0 : dcs cX3_isSameTwo l_cX3_isSameTwo_0 := dcs_of (by decide +kernel)
def l_cX3_isFirstOfTwo_0 : List (Nat × Instr × Nat) := [(0, .iconst 0, 1), (1, .istore_n 2, 1), (2, .iload_n 2, 1), (3, .iload_n 1, 1), (4, .if_icmp .ge 20, 3), (7, .aload_n 0, 1), (8, .iload_n 1, 1), (9, .iload_n 2, 1), (10, .invokevirtual 54, 3), (13, .ifCond .eq 5, 3), (16, .iconst 0, 1), (17, .ireturn, 1), (18, .iinc 2 1, 3), (21, .goto (-19), 3), (24, .iconst 1, 1), (25, .ireturn, 1)]
theorem D_cX3_isFirstOfTwo_0 : dcs cX3_isFirstOfTwo l_cX3_isFirstOfTwo_0 := dcs_of (by decide +kernel)
def l_cX3_countOfTwo_0 : List (Nat × Instr × Nat) := [(0, .iconst 0, 1), (1, .istore_n 2, 1), (2, .iconst 0, 1), (3, .istore_n 3, 1), (4, .iload_n 3, 1), (5, .aload_n 0, 1), (6, .getfield 34, 3), (9, .if_icmp .ge 26, 3), (12, .iload_n 2, 1), (13, .aload_n 0, 1), (14, .iload_n 3, 1), (15, .iload_n 1, 1), (16, .invokevirtual 54, 3), (19, .ifCond .eq 7, 3), (22, .iconst 1, 1), (23, .goto 4, 3), (26, .iconst 0, 1), (27, .iadd, 1), (28, .istore_n 2, 1), (29, .iinc 3 1, 3), (32, .goto (-28), 3), (35, .iload_n 2, 1), (36, .ireturn, 1)]
theorem D_cX3_countOfTwo_0 : dcs cX3_countOfTwo l_cX3_countOfTwo_0 := dcs_of (by decide +kernel)
def l_cX3_capacityOfTwo_0 : List (Nat × Instr × Nat) := [(0, .iconst 0, 1), (1, .istore_n 2, 1), (2, .iconst 0, 1), (3, .istore_n 3, 1), (4, .iload_n 3, 1), (5, .aload_n 0, 1), (6, .getfield 34, 3), (9, .if_icmp .ge 30, 3), (12, .iload_n 2, 1), (13, .aload_n 0, 1), (14, .iload_n 3, 1), (15, .iload_n 1, 1), (16, .invokevirtual 54, 3), (19, .ifCond .eq 11, 3), (22, .aload_n 0, 1), (23, .iload_n 3, 1), (24, .invokevirtual 50, 3), (27, .goto 4, 3), (30, .iconst 0, 1), (31, .iadd, 1), (32, .istore_n 2, 1), (33, .iinc 3 1, 3), (36, .goto (-32), 3), (39, .iload_n 2, 1), (40, .ireturn, 1)]
theorem D_cX3_capacityOfTwo_0 : dcs cX3_capacityOfTwo l_cX3_capacityOfTwo_0 := dcs_of (by decide +kernel)
def l_cX4_init_0 : List (Nat × Instr × Nat) := [(0, .aload_n 0, 1), (1, .invokespecial 3, 3), (4, .aload_n 0, 1), (5, .sipush 160, 3), (8, .newarray .int, 2), (10, .putfield 9, 3), (13, .aload_n 0, 1), (14, .iconst 4, 1), (15, .newarray .int, 2), (17, .putfield 15, 3), (20, .aload_n 0, 1), (21, .getfield 15, 3), (24, .iconst (-1), 1), (25, .invokestatic 18, 3), (28, .return_, 1)]
theorem D_cX4_init_0 : dcs cX4_init l_cX4_init_0 := dcs_of (by decide +kernel)
def l_cX4_become_0 : List (Nat × Instr × Nat) := [(0, .iload_n 1, 1), (1, .invokestatic 24, 3), (4, .ifCond .eq 38, 3), (7, .iload_n 2, 1), (8, .ifCond .lt 34, 3), (11, .iload_n 2, 1), (12, .bipush 40, 2), (14, .if_icmp .gt 28, 3), (17, .aload_n 0, 1), (18, .getfield 15, 3), (21, .iload_n 1, 1), (22, .iload_n 2, 1), (23, .iastore, 1), (24, .aload_n 0, 1), (25, .getfield 9, 3), (28, .iload_n 1, 1), (29, .bipush 40, 2), (31, .imul, 1), (32, .iload_n 1, 1), (33, .bipush 40, 2), (35, .imul, 1), (36, .iload_n 2, 1), (37, .iadd, 1), (38, .iconst 0, 1), (39, .invokestatic 28, 3), (42, .return_, 1)]
theorem D_cX4_become_0 : dcs cX4_become l_cX4_become_0 := dcs_of (by decide +kernel)
def l_cX4_holds_0 : List (Nat × Instr × Nat) := [(0, .iload_n 1, 1), (1, .invokestatic 24, 3), (4, .ifCond .eq 16, 3), (7, .aload_n 0, 1), (8, .getfield 15, 3), (11, .iload_n 1, 1), (12, .iaload, 1), (13, .ifCond .lt 7, 3), (16, .iconst 1, 1), (17, .goto 4, 3), (20, .iconst 0, 1), (21, .ireturn, 1)]
theorem D_cX4_holds_0 : dcs cX4_holds l_cX4_holds_0 := dcs_of (by decide +kernel)
def l_cX4_hasPlace_0 : List (Nat × Instr × Nat) := [(0, .iload_n 1, 1), (1, .invokestatic 24, 3), (4, .ifCond .eq 21, 3), (7, .iload_n 2, 1), (8, .ifCond .lt 17, 3), (11, .iload_n 2, 1), (12, .aload_n 0, 1), (13, .getfield 15, 3), (16, .iload_n 1, 1), (17, .iaload, 1), (18, .if_icmp .ge 7, 3), (21, .iconst 1, 1), (22, .goto 4, 3), (25, .iconst 0, 1), (26, .ireturn, 1)]
theorem D_cX4_hasPlace_0 : dcs cX4_hasPlace l_cX4_hasPlace_0 := dcs_of (by decide +kernel)
def l_cX4_value_0 : List (Nat × Instr × Nat) := [(0, .aload_n 0, 1), (1, .iload_n 1, 1), (2, .iload_n 2, 1), (3, .invokevirtual 31, 3), (6, .ifCond .eq 17, 3), (9, .aload_n 0, 1), (10, .getfield 9, 3), (13, .iload_n 1, 1), (14, .bipush 40, 2), (16, .imul, 1), (17, .iload_n 2, 1), (18, .iadd, 1), (19, .iaload, 1), (20, .goto 4, 3), (23, .iconst 0, 1), (24, .ireturn, 1)]
theorem D_cX4_value_0 : dcs cX4_value l_cX4_value_0 := dcs_of (by decide +kernel)
def l_cX4_put_0 : List (Nat × Instr × Nat) := [(0, .aload_n 0, 1), (1, .iload_n 1, 1), (2, .iload_n 2, 1), (3, .invokevirtual 31, 3), (6, .ifCond .eq 15, 3), (9, .aload_n 0, 1), (10, .getfield 9, 3), (13, .iload_n 1, 1), (14, .bipush 40, 2), (16, .imul, 1), (17, .iload_n 2, 1), (18, .iadd, 1), (19, .iload_n 3, 1), (20, .iastore, 1), (21, .return_, 1)]
theorem D_cX4_put_0 : dcs cX4_put l_cX4_put_0 := dcs_of (by decide +kernel)
def l_cX4_judged_0 : List (Nat × Instr × Nat) := [(0, .aload_n 3, 1), (1, .getfield 35, 3), (4, .ifCond .le 27, 3), (7, .aload_n 0, 1), (8, .iload_n 1, 1), (9, .iload_n 2, 1), (10, .bipush 40, 2), (12, .invokestatic 41, 3), (15, .aload_n 3, 1), (16, .getfield 35, 3), (19, .iadd, 1), (20, .iconst 1, 1), (21, .isub, 1), (22, .invokevirtual 31, 3), (25, .ifCond .ne 6, 3), (28, .bipush (-5), 2), (30, .ireturn, 1), (31, .iconst 0, 1), (32, .istore 4, 2), (34, .iload 4, 2), (36, .aload_n 3, 1), (37, .getfield 35, 3), (40, .if_icmp .ge 39, 3), (43, .aload_n 0, 1), (44, .iload_n 1, 1), (45, .iload_n 2, 1), (46, .iload 4, 2), (48, .iadd, 1), (49, .invokevirtual 47, 3), (52, .istore 5, 2), (54, .iload 5, 2), (56, .ifCond .lt 14, 3), (59, .iload 5, 2), (61, .aload_n 3, 1), (62, .iload 4, 2), (64, .invokevirtual 50, 3), (67, .if_icmp .le 6, 3), (70, .iload 4, 2), (72, .ireturn, 1), (73, .iinc 4 1, 3)]
theorem D_cX4_judged_0 : dcs cX4_judged l_cX4_judged_0 := dcs_of (by decide +kernel)
def l_cX4_judged_1 : List (Nat × Instr × Nat) := [(76, .goto (-42), 3), (79, .iconst 0, 1), (80, .istore 4, 2), (82, .iload 4, 2), (84, .bipush 12, 2), (86, .if_icmp .ge 45, 3), (89, .iload 4, 2), (91, .aload_n 3, 1), (92, .getfield 54, 3), (95, .if_icmp .eq 30, 3), (98, .iload 4, 2), (100, .aload_n 3, 1), (101, .getfield 57, 3), (104, .if_icmp .eq 21, 3), (107, .aload_n 0, 1), (108, .iload_n 1, 1), (109, .iload_n 2, 1), (110, .aload_n 3, 1), (111, .iload 4, 2), (113, .invokevirtual 60, 3), (116, .ifCond .eq 9, 3), (119, .bipush 100, 2), (121, .iload 4, 2), (123, .iadd, 1), (124, .ireturn, 1), (125, .iinc 4 1, 3), (128, .goto (-46), 3), (131, .ldc 64, 2), (133, .aload_n 0, 1), (134, .iload_n 1, 1), (135, .iload_n 2, 1), (136, .aload_n 3, 1), (137, .aload_n 3, 1), (138, .getfield 54, 3), (141, .invokevirtual 60, 3), (144, .iadd, 1), (145, .ireturn, 1)]
theorem D_cX4_judged_1 : dcs cX4_judged l_cX4_judged_1 := dcs_of (by decide +kernel)
def l_cX4_goesLessComes_0 : List (Nat × Instr × Nat) := [(0, .iconst 0, 1), (1, .istore 5, 2), (3, .iconst 0, 1), (4, .istore 6, 2), (6, .iload 6, 2), (8, .aload_n 3, 1), (9, .getfield 35, 3), (12, .if_icmp .ge 66, 3), (15, .aload_n 0, 1), (16, .iload_n 1, 1), (17, .iload_n 2, 1), (18, .iload 6, 2), (20, .iadd, 1), (21, .invokevirtual 47, 3), (24, .istore 7, 2), (26, .iload 5, 2), (28, .aload_n 3, 1), (29, .getfield 65, 3), (32, .iload 6, 2), (34, .iaload, 1), (35, .iload 4, 2), (37, .if_icmp .ne 8, 3), (40, .iload 7, 2), (42, .goto 4, 3), (45, .iconst 0, 1), (46, .iadd, 1), (47, .istore 5, 2), (49, .iload 5, 2), (51, .aload_n 3, 1), (52, .getfield 68, 3), (55, .iload 6, 2), (57, .iaload, 1), (58, .iload 4, 2), (60, .if_icmp .ne 8, 3), (63, .iload 7, 2), (65, .goto 4, 3), (68, .iconst 0, 1), (69, .isub, 1), (70, .istore 5, 2), (72, .iinc 6 1, 3)]
theorem D_cX4_goesLessComes_0 : dcs cX4_goesLessComes l_cX4_goesLessComes_0 := dcs_of (by decide +kernel)
def l_cX4_goesLessComes_1 : List (Nat × Instr × Nat) := [(75, .goto (-69), 3), (78, .iload 5, 2), (80, .ireturn, 1)]
theorem D_cX4_goesLessComes_1 : dcs cX4_goesLessComes l_cX4_goesLessComes_1 := dcs_of (by decide +kernel)
def l_cX5_init_0 : List (Nat × Instr × Nat) := [(0, .aload_n 0, 1), (1, .invokespecial 3, 3), (4, .aload_n 0, 1), (5, .new 9, 3), (8, .dup, 1), (9, .invokespecial 11, 3), (12, .putfield 12, 3), (15, .aload_n 0, 1), (16, .bipush 12, 2), (18, .newarray .int, 2), (20, .putfield 18, 3), (23, .aload_n 0, 1), (24, .bipush 21, 2), (26, .newarray .int, 2), (28, .putfield 22, 3), (31, .return_, 1)]
theorem D_cX5_init_0 : dcs cX5_init l_cX5_init_0 := dcs_of (by decide +kernel)
def l_cX5_mostIf_0 : List (Nat × Instr × Nat) := [(0, .aload_n 0, 1), (1, .getfield 12, 3), (4, .bipush 12, 2), (6, .invokevirtual 25, 3), (9, .iconst 0, 1), (10, .istore 5, 2), (12, .iload 5, 2), (14, .aload_n 1, 1), (15, .getfield 29, 3), (18, .if_icmp .ge 68, 3), (21, .aload_n 1, 1), (22, .iload 5, 2), (24, .invokevirtual 35, 3), (27, .iload 5, 2), (29, .iload_n 3, 1), (30, .if_icmp .ne 8, 3), (33, .iload 4, 2), (35, .goto 4, 3), (38, .iconst 0, 1), (39, .iadd, 1), (40, .istore 6, 2), (42, .iload 6, 2), (44, .ifCond .le 36, 3), (47, .iload_n 2, 1), (48, .iload 5, 2), (50, .invokestatic 39, 3), (53, .ifCond .ne 27, 3), (56, .aload_n 0, 1), (57, .getfield 12, 3), (60, .aload_n 1, 1), (61, .getfield 43, 3), (64, .iload 5, 2), (66, .iaload, 1), (67, .aload_n 1, 1), (68, .getfield 46, 3), (71, .iload 5, 2), (73, .iaload, 1), (74, .iload 6, 2), (76, .invokevirtual 49, 3), (79, .pop, 1)]
theorem D_cX5_mostIf_0 : dcs cX5_mostIf l_cX5_mostIf_0 := dcs_of (by decide +kernel)
def l_cX5_mostIf_1 : List (Nat × Instr × Nat) := [(80, .iinc 5 1, 3), (83, .goto (-71), 3), (86, .aload_n 0, 1), (87, .getfield 12, 3), (90, .aload_n 1, 1), (91, .getfield 53, 3), (94, .aload_n 1, 1), (95, .getfield 56, 3), (98, .invokevirtual 59, 3), (101, .ireturn, 1)]
theorem D_cX5_mostIf_1 : dcs cX5_mostIf l_cX5_mostIf_1 := dcs_of (by decide +kernel)
def l_cX5_boundValue_0 : List (Nat × Instr × Nat) := [(0, .bipush 12, 2), (2, .istore_n 3, 1), (3, .bipush 13, 2), (5, .istore 4, 2), (7, .aload_n 0, 1), (8, .getfield 12, 3), (11, .bipush 14, 2), (13, .invokevirtual 25, 3), (16, .aload_n 0, 1), (17, .aload_n 1, 1), (18, .invokevirtual 63, 3), (21, .aload_n 0, 1), (22, .getfield 12, 3), (25, .aload_n 1, 1), (26, .getfield 56, 3), (29, .aload_n 1, 1), (30, .getfield 53, 3), (33, .ldc 67, 2), (35, .invokevirtual 49, 3), (38, .istore 5, 2), (40, .iconst 0, 1), (41, .istore 6, 2), (43, .iconst 0, 1), (44, .istore 7, 2), (46, .iload 7, 2), (48, .bipush 12, 2), (50, .if_icmp .ge 82, 3), (53, .aload_n 0, 1), (54, .getfield 18, 3), (57, .iload 7, 2), (59, .iaload, 1), (60, .ifCond .le 36, 3), (63, .aload_n 0, 1), (64, .getfield 12, 3), (67, .iload_n 3, 1), (68, .iload 7, 2), (70, .aload_n 0, 1), (71, .getfield 18, 3), (74, .iload 7, 2), (76, .iaload, 1)]
theorem D_cX5_boundValue_0 : dcs cX5_boundValue l_cX5_boundValue_0 := dcs_of (by decide +kernel)
def l_cX5_boundValue_1 : List (Nat × Instr × Nat) := [(77, .invokevirtual 49, 3), (80, .pop, 1), (81, .iload 6, 2), (83, .aload_n 0, 1), (84, .getfield 18, 3), (87, .iload 7, 2), (89, .iaload, 1), (90, .iadd, 1), (91, .istore 6, 2), (93, .goto 33, 3), (96, .aload_n 0, 1), (97, .getfield 18, 3), (100, .iload 7, 2), (102, .iaload, 1), (103, .ifCond .ge 23, 3), (106, .aload_n 0, 1), (107, .getfield 12, 3), (110, .iload 7, 2), (112, .iload 4, 2), (114, .aload_n 0, 1), (115, .getfield 18, 3), (118, .iload 7, 2), (120, .iaload, 1), (121, .ineg, 1), (122, .invokevirtual 49, 3), (125, .pop, 1), (126, .iinc 7 1, 3), (129, .goto (-83), 3), (132, .aload_n 0, 1), (133, .getfield 12, 3), (136, .iload_n 3, 1), (137, .iload 4, 2), (139, .invokevirtual 59, 3), (142, .iload 6, 2), (144, .if_icmp .ge 6, 3), (147, .bipush (-5), 2), (149, .ireturn, 1), (150, .aload_n 0, 1), (151, .getfield 12, 3), (154, .iload 5, 2)]
theorem D_cX5_boundValue_1 : dcs cX5_boundValue l_cX5_boundValue_1 := dcs_of (by decide +kernel)
def l_cX5_boundValue_2 : List (Nat × Instr × Nat) := [(156, .invokevirtual 68, 3), (159, .istore 7, 2), (161, .iload_n 2, 1), (162, .ifCond .eq 24, 3), (165, .iload 7, 2), (167, .aload_n 0, 1), (168, .getfield 12, 3), (171, .aload_n 1, 1), (172, .getfield 53, 3), (175, .aload_n 1, 1), (176, .getfield 56, 3), (179, .invokevirtual 59, 3), (182, .iadd, 1), (183, .goto 25, 3), (186, .iconst 0, 1), (187, .iload 7, 2), (189, .aload_n 0, 1), (190, .getfield 12, 3), (193, .aload_n 1, 1), (194, .getfield 56, 3), (197, .aload_n 1, 1), (198, .getfield 53, 3), (201, .invokevirtual 59, 3), (204, .isub, 1), (205, .invokestatic 71, 3), (208, .ireturn, 1)]
theorem D_cX5_boundValue_2 : dcs cX5_boundValue l_cX5_boundValue_2 := dcs_of (by decide +kernel)
def l_cX5_joinAboveLeast_0 : List (Nat × Instr × Nat) := [(0, .aload_n 0, 1), (1, .getfield 18, 3), (4, .iconst 0, 1), (5, .invokestatic 76, 3), (8, .iconst 0, 1), (9, .istore_n 2, 1), (10, .iload_n 2, 1), (11, .aload_n 1, 1), (12, .getfield 29, 3), (15, .if_icmp .ge 72, 3), (18, .aload_n 1, 1), (19, .iload_n 2, 1), (20, .invokevirtual 82, 3), (23, .istore_n 3, 1), (24, .aload_n 0, 1), (25, .getfield 12, 3), (28, .aload_n 1, 1), (29, .getfield 43, 3), (32, .iload_n 2, 1), (33, .iaload, 1), (34, .aload_n 1, 1), (35, .getfield 46, 3), (38, .iload_n 2, 1), (39, .iaload, 1), (40, .aload_n 1, 1), (41, .iload_n 2, 1), (42, .invokevirtual 35, 3), (45, .iload_n 3, 1), (46, .isub, 1), (47, .invokevirtual 49, 3), (50, .pop, 1), (51, .aload_n 0, 1), (52, .getfield 18, 3), (55, .aload_n 1, 1), (56, .getfield 46, 3), (59, .iload_n 2, 1), (60, .iaload, 1), (61, .dup2, 1), (62, .iaload, 1), (63, .iload_n 3, 1)]
theorem D_cX5_joinAboveLeast_0 : dcs cX5_joinAboveLeast l_cX5_joinAboveLeast_0 := dcs_of (by decide +kernel)
def l_cX5_joinAboveLeast_1 : List (Nat × Instr × Nat) := [(64, .iadd, 1), (65, .iastore, 1), (66, .aload_n 0, 1), (67, .getfield 18, 3), (70, .aload_n 1, 1), (71, .getfield 43, 3), (74, .iload_n 2, 1), (75, .iaload, 1), (76, .dup2, 1), (77, .iaload, 1), (78, .iload_n 3, 1), (79, .isub, 1), (80, .iastore, 1), (81, .iinc 2 1, 3), (84, .goto (-74), 3), (87, .return_, 1)]
theorem D_cX5_joinAboveLeast_1 : dcs cX5_joinAboveLeast l_cX5_joinAboveLeast_1 := dcs_of (by decide +kernel)
def l_cX5_waysApart_0 : List (Nat × Instr × Nat) := [(0, .aload_n 0, 1), (1, .getfield 12, 3), (4, .bipush 24, 2), (6, .invokevirtual 25, 3), (9, .iconst 0, 1), (10, .istore_n 3, 1), (11, .iload_n 3, 1), (12, .bipush 12, 2), (14, .if_icmp .ge 60, 3), (17, .iload_n 2, 1), (18, .ifCond .eq 23, 3), (21, .iload_n 3, 1), (22, .aload_n 1, 1), (23, .getfield 53, 3), (26, .if_icmp .eq 15, 3), (29, .iload_n 3, 1), (30, .aload_n 1, 1), (31, .getfield 56, 3), (34, .if_icmp .eq 7, 3), (37, .iconst 1, 1), (38, .goto 4, 3), (41, .iconst 0, 1), (42, .istore 4, 2), (44, .aload_n 0, 1), (45, .getfield 12, 3), (48, .iload_n 3, 1), (49, .bipush 12, 2), (51, .iload_n 3, 1), (52, .iadd, 1), (53, .iload 4, 2), (55, .ifCond .eq 7, 3), (58, .iconst 1, 1), (59, .goto 5, 3), (62, .ldc 67, 2), (64, .invokevirtual 49, 3), (67, .pop, 1), (68, .iinc 3 1, 3), (71, .goto (-60), 3), (74, .iconst 0, 1), (75, .istore_n 3, 1)]
theorem D_cX5_waysApart_0 : dcs cX5_waysApart l_cX5_waysApart_0 := dcs_of (by decide +kernel)
def l_cX5_waysApart_1 : List (Nat × Instr × Nat) := [(76, .iload_n 3, 1), (77, .aload_n 1, 1), (78, .getfield 29, 3), (81, .if_icmp .ge 41, 3), (84, .aload_n 1, 1), (85, .iload_n 3, 1), (86, .invokevirtual 35, 3), (89, .ifCond .le 27, 3), (92, .aload_n 0, 1), (93, .getfield 12, 3), (96, .bipush 12, 2), (98, .aload_n 1, 1), (99, .getfield 43, 3), (102, .iload_n 3, 1), (103, .iaload, 1), (104, .iadd, 1), (105, .aload_n 1, 1), (106, .getfield 46, 3), (109, .iload_n 3, 1), (110, .iaload, 1), (111, .iconst 1, 1), (112, .invokevirtual 49, 3), (115, .pop, 1), (116, .iinc 3 1, 3), (119, .goto (-43), 3), (122, .aload_n 0, 1), (123, .getfield 12, 3), (126, .aload_n 1, 1), (127, .getfield 53, 3), (130, .bipush 12, 2), (132, .aload_n 1, 1), (133, .getfield 56, 3), (136, .iadd, 1), (137, .invokevirtual 59, 3), (140, .ireturn, 1)]
theorem D_cX5_waysApart_1 : dcs cX5_waysApart l_cX5_waysApart_1 := dcs_of (by decide +kernel)
def l_cX5_inHours_0 : List (Nat × Instr × Nat) := [(0, .aload_n 0, 1), (1, .getfield 12, 3), (4, .bipush 108, 2), (6, .invokevirtual 25, 3), (9, .iconst 0, 1), (10, .istore_n 3, 1), (11, .iload_n 3, 1), (12, .iload_n 2, 1), (13, .if_icmp .ge 195, 3), (16, .iconst 0, 1), (17, .istore 4, 2), (19, .iload 4, 2), (21, .aload_n 1, 1), (22, .getfield 29, 3), (25, .if_icmp .ge 117, 3), (28, .aload_n 1, 1), (29, .iload 4, 2), (31, .invokevirtual 35, 3), (34, .ifCond .le 35, 3), (37, .aload_n 1, 1), (38, .getfield 43, 3), (41, .iload 4, 2), (43, .iaload, 1), (44, .aload_n 1, 1), (45, .getfield 56, 3), (48, .if_icmp .eq 21, 3), (51, .aload_n 1, 1), (52, .getfield 46, 3), (55, .iload 4, 2), (57, .iaload, 1), (58, .aload_n 1, 1), (59, .getfield 53, 3), (62, .if_icmp .eq 7, 3), (65, .iconst 1, 1), (66, .goto 4, 3), (69, .iconst 0, 1), (70, .istore 5, 2), (72, .iload 5, 2), (74, .ifCond .eq 62, 3), (77, .iload_n 3, 1)]
theorem D_cX5_inHours_0 : dcs cX5_inHours l_cX5_inHours_0 := dcs_of (by decide +kernel)
def l_cX5_inHours_1 : List (Nat × Instr × Nat) := [(78, .aload_n 1, 1), (79, .getfield 85, 3), (82, .iload 4, 2), (84, .iaload, 1), (85, .iadd, 1), (86, .iload_n 2, 1), (87, .if_icmp .gt 49, 3), (90, .aload_n 0, 1), (91, .getfield 12, 3), (94, .aload_n 1, 1), (95, .aload_n 1, 1), (96, .getfield 43, 3), (99, .iload 4, 2), (101, .iaload, 1), (102, .iload_n 3, 1), (103, .invokestatic 88, 3), (106, .aload_n 1, 1), (107, .aload_n 1, 1), (108, .getfield 46, 3), (111, .iload 4, 2), (113, .iaload, 1), (114, .iload_n 3, 1), (115, .aload_n 1, 1), (116, .getfield 85, 3), (119, .iload 4, 2), (121, .iaload, 1), (122, .iadd, 1), (123, .invokestatic 88, 3), (126, .aload_n 1, 1), (127, .iload 4, 2), (129, .invokevirtual 35, 3), (132, .invokevirtual 49, 3), (135, .pop, 1), (136, .iinc 4 1, 3), (139, .goto (-120), 3), (142, .iconst 0, 1), (143, .istore 4, 2), (145, .iload 4, 2), (147, .bipush 12, 2), (149, .if_icmp .ge 53, 3)]
theorem D_cX5_inHours_1 : dcs cX5_inHours l_cX5_inHours_1 := dcs_of (by decide +kernel)
def l_cX5_inHours_2 : List (Nat × Instr × Nat) := [(152, .iload 4, 2), (154, .aload_n 1, 1), (155, .getfield 53, 3), (158, .if_icmp .eq 38, 3), (161, .iload 4, 2), (163, .aload_n 1, 1), (164, .getfield 56, 3), (167, .if_icmp .eq 29, 3), (170, .aload_n 0, 1), (171, .getfield 12, 3), (174, .aload_n 1, 1), (175, .iload 4, 2), (177, .iload_n 3, 1), (178, .invokestatic 88, 3), (181, .aload_n 1, 1), (182, .iload 4, 2), (184, .iload_n 3, 1), (185, .iconst 1, 1), (186, .iadd, 1), (187, .invokestatic 88, 3), (190, .ldc 67, 2), (192, .invokevirtual 49, 3), (195, .pop, 1), (196, .iinc 4 1, 3), (199, .goto (-54), 3), (202, .iinc 3 1, 3), (205, .goto (-194), 3), (208, .aload_n 0, 1), (209, .getfield 12, 3), (212, .aload_n 1, 1), (213, .aload_n 1, 1), (214, .getfield 53, 3), (217, .iconst 0, 1), (218, .invokestatic 88, 3), (221, .aload_n 1, 1), (222, .aload_n 1, 1), (223, .getfield 56, 3), (226, .iconst 0, 1), (227, .invokestatic 88, 3), (230, .invokevirtual 59, 3)]
theorem D_cX5_inHours_2 : dcs cX5_inHours l_cX5_inHours_2 := dcs_of (by decide +kernel)
def l_cX5_inHours_3 : List (Nat × Instr × Nat) := [(233, .ireturn, 1)]
theorem D_cX5_inHours_3 : dcs cX5_inHours l_cX5_inHours_3 := dcs_of (by decide +kernel)
def l_cX5_nodeAt_0 : List (Nat × Instr × Nat) := [(0, .iload_n 1, 1), (1, .aload_n 0, 1), (2, .getfield 53, 3), (5, .if_icmp .eq 11, 3), (8, .iload_n 1, 1), (9, .aload_n 0, 1), (10, .getfield 56, 3), (13, .if_icmp .ne 7, 3), (16, .iconst 1, 1), (17, .goto 4, 3), (20, .iconst 0, 1), (21, .istore_n 3, 1), (22, .iload_n 1, 1), (23, .bipush 9, 2), (25, .imul, 1), (26, .iload_n 3, 1), (27, .ifCond .eq 7, 3), (30, .iconst 0, 1), (31, .goto 4, 3), (34, .iload_n 2, 1), (35, .iadd, 1), (36, .ireturn, 1)]
theorem D_cX5_nodeAt_0 : dcs cX5_nodeAt l_cX5_nodeAt_0 := dcs_of (by decide +kernel)
def l_cX5_reachedIn_0 : List (Nat × Instr × Nat) := [(0, .aload_n 0, 1), (1, .getfield 22, 3), (4, .iconst 0, 1), (5, .iconst 1, 1), (6, .iload_n 2, 1), (7, .ishl, 1), (8, .iastore, 1), (9, .iconst 1, 1), (10, .istore 4, 2), (12, .iload 4, 2), (14, .iload_n 3, 1), (15, .if_icmp .gt 130, 3), (18, .iload 4, 2), (20, .bipush 20, 2), (22, .if_icmp .gt 123, 3), (25, .aload_n 0, 1), (26, .getfield 22, 3), (29, .iload 4, 2), (31, .aload_n 0, 1), (32, .getfield 22, 3), (35, .iload 4, 2), (37, .iconst 1, 1), (38, .isub, 1), (39, .iaload, 1), (40, .iastore, 1), (41, .iconst 0, 1), (42, .istore 5, 2), (44, .iload 5, 2), (46, .aload_n 1, 1), (47, .getfield 29, 3), (50, .if_icmp .ge 89, 3), (53, .aload_n 1, 1), (54, .iload 5, 2), (56, .invokevirtual 35, 3), (59, .ifCond .le 19, 3), (62, .aload_n 1, 1), (63, .getfield 85, 3), (66, .iload 5, 2), (68, .iaload, 1), (69, .iload 4, 2)]
theorem D_cX5_reachedIn_0 : dcs cX5_reachedIn l_cX5_reachedIn_0 := dcs_of (by decide +kernel)
def l_cX5_reachedIn_1 : List (Nat × Instr × Nat) := [(71, .if_icmp .gt 7, 3), (74, .iconst 1, 1), (75, .goto 4, 3), (78, .iconst 0, 1), (79, .istore 6, 2), (81, .iload 6, 2), (83, .ifCond .eq 50, 3), (86, .aload_n 0, 1), (87, .getfield 22, 3), (90, .iload 4, 2), (92, .aload_n 1, 1), (93, .getfield 85, 3), (96, .iload 5, 2), (98, .iaload, 1), (99, .isub, 1), (100, .iaload, 1), (101, .aload_n 1, 1), (102, .getfield 43, 3), (105, .iload 5, 2), (107, .iaload, 1), (108, .invokestatic 39, 3), (111, .ifCond .eq 22, 3), (114, .aload_n 0, 1), (115, .getfield 22, 3), (118, .iload 4, 2), (120, .dup2, 1), (121, .iaload, 1), (122, .iconst 1, 1), (123, .aload_n 1, 1), (124, .getfield 46, 3), (127, .iload 5, 2), (129, .iaload, 1), (130, .ishl, 1), (131, .ior, 1), (132, .iastore, 1), (133, .iinc 5 1, 3), (136, .goto (-92), 3), (139, .iinc 4 1, 3), (142, .goto (-130), 3), (145, .iload_n 3, 1)]
theorem D_cX5_reachedIn_1 : dcs cX5_reachedIn l_cX5_reachedIn_1 := dcs_of (by decide +kernel)
def l_cX5_reachedIn_2 : List (Nat × Instr × Nat) := [(146, .ifCond .lt 18, 3), (149, .iload_n 3, 1), (150, .bipush 20, 2), (152, .if_icmp .gt 12, 3), (155, .aload_n 0, 1), (156, .getfield 22, 3), (159, .iload_n 3, 1), (160, .iaload, 1), (161, .goto 4, 3), (164, .iconst 0, 1), (165, .ireturn, 1)]
theorem D_cX5_reachedIn_2 : dcs cX5_reachedIn l_cX5_reachedIn_2 := dcs_of (by decide +kernel)
def l_cX6_init_0 : List (Nat × Instr × Nat) := [(0, .aload_n 0, 1), (1, .invokespecial 3, 3), (4, .aload_n 0, 1), (5, .bipush 108, 2), (7, .newarray .int, 2), (9, .putfield 9, 3), (12, .aload_n 0, 1), (13, .bipush 108, 2), (15, .newarray .int, 2), (17, .putfield 15, 3), (20, .aload_n 0, 1), (21, .bipush 108, 2), (23, .newarray .int, 2), (25, .putfield 18, 3), (28, .aload_n 0, 1), (29, .bipush 108, 2), (31, .newarray .int, 2), (33, .putfield 21, 3), (36, .aload_n 0, 1), (37, .bipush 108, 2), (39, .newarray .int, 2), (41, .putfield 24, 3), (44, .aload_n 0, 1), (45, .sipush 672, 3), (48, .newarray .int, 2), (50, .putfield 27, 3), (53, .aload_n 0, 1), (54, .sipush 672, 3), (57, .newarray .int, 2), (59, .putfield 30, 3), (62, .aload_n 0, 1), (63, .sipush 672, 3), (66, .newarray .int, 2), (68, .putfield 33, 3), (71, .return_, 1)]
theorem D_cX6_init_0 : dcs cX6_init l_cX6_init_0 := dcs_of (by decide +kernel)
def l_cX6_begin_0 : List (Nat × Instr × Nat) := [(0, .aload_n 0, 1), (1, .iconst 0, 1), (2, .iload_n 1, 1), (3, .bipush 108, 2), (5, .invokestatic 36, 3), (8, .invokestatic 42, 3), (11, .putfield 45, 3), (14, .aload_n 0, 1), (15, .iconst 0, 1), (16, .putfield 49, 3), (19, .aload_n 0, 1), (20, .getfield 9, 3), (23, .iconst (-1), 1), (24, .invokestatic 52, 3), (27, .return_, 1)]
theorem D_cX6_begin_0 : dcs cX6_begin l_cX6_begin_0 := dcs_of (by decide +kernel)
def l_cX6_join_0 : List (Nat × Instr × Nat) := [(0, .aload_n 0, 1), (1, .iload_n 1, 1), (2, .invokevirtual 58, 3), (5, .ifCond .eq 23, 3), (8, .aload_n 0, 1), (9, .iload_n 2, 1), (10, .invokevirtual 58, 3), (13, .ifCond .eq 15, 3), (16, .aload_n 0, 1), (17, .getfield 49, 3), (20, .iconst 2, 1), (21, .iadd, 1), (22, .sipush 672, 3), (25, .if_icmp .le 5, 3), (28, .iconst (-1), 1), (29, .ireturn, 1), (30, .aload_n 0, 1), (31, .iload_n 1, 1), (32, .iload_n 2, 1), (33, .iload_n 3, 1), (34, .invokevirtual 62, 3), (37, .aload_n 0, 1), (38, .iload_n 2, 1), (39, .iload_n 1, 1), (40, .iconst 0, 1), (41, .invokevirtual 62, 3), (44, .aload_n 0, 1), (45, .getfield 49, 3), (48, .iconst 2, 1), (49, .isub, 1), (50, .ireturn, 1)]
theorem D_cX6_join_0 : dcs cX6_join l_cX6_join_0 := dcs_of (by decide +kernel)
def l_cX6_isInNet_0 : List (Nat × Instr × Nat) := [(0, .iload_n 1, 1), (1, .ifCond .lt 15, 3), (4, .iload_n 1, 1), (5, .aload_n 0, 1), (6, .getfield 45, 3), (9, .if_icmp .ge 7, 3), (12, .iconst 1, 1), (13, .goto 4, 3), (16, .iconst 0, 1), (17, .ireturn, 1)]
theorem D_cX6_isInNet_0 : dcs cX6_isInNet l_cX6_isInNet_0 := dcs_of (by decide +kernel)
def l_cX6_addSide_0 : List (Nat × Instr × Nat) := [(0, .aload_n 0, 1), (1, .getfield 30, 3), (4, .aload_n 0, 1), (5, .getfield 49, 3), (8, .iload_n 2, 1), (9, .iastore, 1), (10, .aload_n 0, 1), (11, .getfield 33, 3), (14, .aload_n 0, 1), (15, .getfield 49, 3), (18, .iload_n 3, 1), (19, .iastore, 1), (20, .aload_n 0, 1), (21, .getfield 27, 3), (24, .aload_n 0, 1), (25, .getfield 49, 3), (28, .aload_n 0, 1), (29, .getfield 9, 3), (32, .iload_n 1, 1), (33, .iaload, 1), (34, .iastore, 1), (35, .aload_n 0, 1), (36, .getfield 9, 3), (39, .iload_n 1, 1), (40, .aload_n 0, 1), (41, .getfield 49, 3), (44, .iastore, 1), (45, .aload_n 0, 1), (46, .dup, 1), (47, .getfield 49, 3), (50, .iconst 1, 1), (51, .iadd, 1), (52, .putfield 49, 3), (55, .return_, 1)]
theorem D_cX6_addSide_0 : dcs cX6_addSide l_cX6_addSide_0 := dcs_of (by decide +kernel)
def l_cX6_close_0 : List (Nat × Instr × Nat) := [(0, .iload_n 1, 1), (1, .ifCond .lt 13, 3), (4, .iload_n 1, 1), (5, .iconst 1, 1), (6, .iadd, 1), (7, .aload_n 0, 1), (8, .getfield 49, 3), (11, .if_icmp .lt 5, 3), (14, .iconst 0, 1), (15, .ireturn, 1), (16, .aload_n 0, 1), (17, .getfield 33, 3), (20, .iload_n 1, 1), (21, .iconst 1, 1), (22, .iadd, 1), (23, .iaload, 1), (24, .istore_n 2, 1), (25, .aload_n 0, 1), (26, .getfield 33, 3), (29, .iload_n 1, 1), (30, .iconst 0, 1), (31, .iastore, 1), (32, .aload_n 0, 1), (33, .getfield 33, 3), (36, .iload_n 1, 1), (37, .iconst 1, 1), (38, .iadd, 1), (39, .iconst 0, 1), (40, .iastore, 1), (41, .iload_n 2, 1), (42, .ireturn, 1)]
theorem D_cX6_close_0 : dcs cX6_close l_cX6_close_0 := dcs_of (by decide +kernel)
def l_cX6_pass_0 : List (Nat × Instr × Nat) := [(0, .iconst 0, 1), (1, .istore_n 3, 1), (2, .aload_n 0, 1), (3, .iload_n 1, 1), (4, .invokevirtual 58, 3), (7, .ifCond .eq 16, 3), (10, .aload_n 0, 1), (11, .iload_n 2, 1), (12, .invokevirtual 58, 3), (15, .ifCond .eq 8, 3), (18, .iload_n 1, 1), (19, .iload_n 2, 1), (20, .if_icmp .ne 5, 3), (23, .iload_n 3, 1), (24, .ireturn, 1), (25, .iconst 0, 1), (26, .istore 4, 2), (28, .iload 4, 2), (30, .bipush 108, 2), (32, .if_icmp .ge 27, 3), (35, .aload_n 0, 1), (36, .iload_n 1, 1), (37, .iload_n 2, 1), (38, .invokevirtual 66, 3), (41, .ifCond .eq 18, 3), (44, .iload_n 3, 1), (45, .aload_n 0, 1), (46, .iload_n 1, 1), (47, .iload_n 2, 1), (48, .invokevirtual 70, 3), (51, .iadd, 1), (52, .istore_n 3, 1), (53, .iinc 4 1, 3), (56, .goto (-28), 3), (59, .iload_n 3, 1), (60, .ireturn, 1)]
theorem D_cX6_pass_0 : dcs cX6_pass l_cX6_pass_0 := dcs_of (by decide +kernel)
def l_cX6_layered_0 : List (Nat × Instr × Nat) := [(0, .aload_n 0, 1), (1, .getfield 18, 3), (4, .iconst 0, 1), (5, .aload_n 0, 1), (6, .getfield 45, 3), (9, .iconst (-1), 1), (10, .invokestatic 73, 3), (13, .aload_n 0, 1), (14, .getfield 18, 3), (17, .iload_n 1, 1), (18, .iconst 0, 1), (19, .iastore, 1), (20, .aload_n 0, 1), (21, .getfield 21, 3), (24, .iconst 0, 1), (25, .iload_n 1, 1), (26, .iastore, 1), (27, .iconst 1, 1), (28, .istore_n 3, 1), (29, .iconst 0, 1), (30, .istore 4, 2), (32, .iload 4, 2), (34, .iload_n 3, 1), (35, .if_icmp .ge 135, 3), (38, .aload_n 0, 1), (39, .getfield 18, 3), (42, .iload_n 2, 1), (43, .iaload, 1), (44, .ifCond .ge 126, 3), (47, .aload_n 0, 1), (48, .getfield 21, 3), (51, .iload 4, 2), (53, .iaload, 1), (54, .istore 5, 2), (56, .aload_n 0, 1), (57, .getfield 9, 3), (60, .iload 5, 2), (62, .iaload, 1), (63, .istore 6, 2), (65, .iconst 0, 1)]
theorem D_cX6_layered_0 : dcs cX6_layered l_cX6_layered_0 := dcs_of (by decide +kernel)
def l_cX6_layered_1 : List (Nat × Instr × Nat) := [(66, .istore 7, 2), (68, .iload 7, 2), (70, .sipush 672, 3), (73, .if_icmp .ge 91, 3), (76, .iload 6, 2), (78, .ifCond .lt 86, 3), (81, .aload_n 0, 1), (82, .getfield 33, 3), (85, .iload 6, 2), (87, .iaload, 1), (88, .ifCond .le 61, 3), (91, .aload_n 0, 1), (92, .getfield 18, 3), (95, .aload_n 0, 1), (96, .getfield 30, 3), (99, .iload 6, 2), (101, .iaload, 1), (102, .iaload, 1), (103, .ifCond .ge 46, 3), (106, .iload_n 3, 1), (107, .bipush 108, 2), (109, .if_icmp .ge 40, 3), (112, .aload_n 0, 1), (113, .getfield 18, 3), (116, .aload_n 0, 1), (117, .getfield 30, 3), (120, .iload 6, 2), (122, .iaload, 1), (123, .aload_n 0, 1), (124, .getfield 18, 3), (127, .iload 5, 2), (129, .iaload, 1), (130, .iconst 1, 1), (131, .iadd, 1), (132, .iastore, 1), (133, .aload_n 0, 1), (134, .getfield 21, 3), (137, .iload_n 3, 1), (138, .aload_n 0, 1), (139, .getfield 30, 3)]
theorem D_cX6_layered_1 : dcs cX6_layered l_cX6_layered_1 := dcs_of (by decide +kernel)
def l_cX6_layered_2 : List (Nat × Instr × Nat) := [(142, .iload 6, 2), (144, .iaload, 1), (145, .iastore, 1), (146, .iinc 3 1, 3), (149, .aload_n 0, 1), (150, .getfield 27, 3), (153, .iload 6, 2), (155, .iaload, 1), (156, .istore 6, 2), (158, .iinc 7 1, 3), (161, .goto (-93), 3), (164, .iinc 4 1, 3), (167, .goto (-135), 3), (170, .aload_n 0, 1), (171, .getfield 18, 3), (174, .iload_n 2, 1), (175, .iaload, 1), (176, .ifCond .lt 7, 3), (179, .iconst 1, 1), (180, .goto 4, 3), (183, .iconst 0, 1), (184, .ireturn, 1)]
theorem D_cX6_layered_2 : dcs cX6_layered l_cX6_layered_2 := dcs_of (by decide +kernel)
def l_cX6_passLayered_0 : List (Nat × Instr × Nat) := [(0, .aload_n 0, 1), (1, .getfield 9, 3), (4, .iconst 0, 1), (5, .aload_n 0, 1), (6, .getfield 15, 3), (9, .iconst 0, 1), (10, .aload_n 0, 1), (11, .getfield 45, 3), (14, .invokestatic 76, 3), (17, .iconst 0, 1), (18, .istore_n 3, 1), (19, .iconst 0, 1), (20, .istore 4, 2), (22, .iload_n 1, 1), (23, .istore 5, 2), (25, .iconst 0, 1), (26, .istore 6, 2), (28, .iload 6, 2), (30, .ldc 82, 2), (32, .if_icmp .ge 109, 3), (35, .iload 5, 2), (37, .iload_n 2, 1), (38, .if_icmp .ne 21, 3), (41, .iload_n 3, 1), (42, .aload_n 0, 1), (43, .iload 4, 2), (45, .invokevirtual 83, 3), (48, .iadd, 1), (49, .istore_n 3, 1), (50, .iconst 0, 1), (51, .istore 4, 2), (53, .iload_n 1, 1), (54, .istore 5, 2), (56, .goto 79, 3), (59, .aload_n 0, 1), (60, .iload 5, 2), (62, .invokevirtual 87, 3), (65, .istore 7, 2), (67, .iload 7, 2), (69, .ifCond .lt 34, 3)]
theorem D_cX6_passLayered_0 : dcs cX6_passLayered l_cX6_passLayered_0 := dcs_of (by decide +kernel)
def l_cX6_passLayered_1 : List (Nat × Instr × Nat) := [(72, .iload 4, 2), (74, .bipush 108, 2), (76, .if_icmp .ge 27, 3), (79, .aload_n 0, 1), (80, .getfield 24, 3), (83, .iload 4, 2), (85, .iload 7, 2), (87, .iastore, 1), (88, .iinc 4 1, 3), (91, .aload_n 0, 1), (92, .getfield 30, 3), (95, .iload 7, 2), (97, .iaload, 1), (98, .istore 5, 2), (100, .goto 35, 3), (103, .iload 4, 2), (105, .ifCond .le 36, 3), (108, .aload_n 0, 1), (109, .getfield 18, 3), (112, .iload 5, 2), (114, .iconst (-1), 1), (115, .iastore, 1), (116, .iinc 4 (-1), 3), (119, .aload_n 0, 1), (120, .getfield 30, 3), (123, .aload_n 0, 1), (124, .getfield 24, 3), (127, .iload 4, 2), (129, .iaload, 1), (130, .iconst 1, 1), (131, .ixor, 1), (132, .iaload, 1), (133, .istore 5, 2), (135, .iinc 6 1, 3), (138, .goto (-110), 3), (141, .iload_n 3, 1), (142, .ireturn, 1)]
theorem D_cX6_passLayered_1 : dcs cX6_passLayered l_cX6_passLayered_1 := dcs_of (by decide +kernel)
def l_cX6_deeperSide_0 : List (Nat × Instr × Nat) := [(0, .aload_n 0, 1), (1, .getfield 15, 3), (4, .iload_n 1, 1), (5, .iaload, 1), (6, .istore_n 2, 1), (7, .iconst 0, 1), (8, .istore_n 3, 1), (9, .iload_n 3, 1), (10, .sipush 672, 3), (13, .if_icmp .ge 54, 3), (16, .iload_n 2, 1), (17, .ifCond .lt 50, 3), (20, .aload_n 0, 1), (21, .getfield 33, 3), (24, .iload_n 2, 1), (25, .iaload, 1), (26, .ifCond .le 28, 3), (29, .aload_n 0, 1), (30, .getfield 18, 3), (33, .aload_n 0, 1), (34, .getfield 30, 3), (37, .iload_n 2, 1), (38, .iaload, 1), (39, .iaload, 1), (40, .aload_n 0, 1), (41, .getfield 18, 3), (44, .iload_n 1, 1), (45, .iaload, 1), (46, .iconst 1, 1), (47, .iadd, 1), (48, .if_icmp .ne 6, 3), (51, .goto 16, 3), (54, .aload_n 0, 1), (55, .getfield 27, 3), (58, .iload_n 2, 1), (59, .iaload, 1), (60, .istore_n 2, 1), (61, .iinc 3 1, 3), (64, .goto (-55), 3), (67, .aload_n 0, 1)]
theorem D_cX6_deeperSide_0 : dcs cX6_deeperSide l_cX6_deeperSide_0 := dcs_of (by decide +kernel)
def l_cX6_deeperSide_1 : List (Nat × Instr × Nat) := [(68, .getfield 15, 3), (71, .iload_n 1, 1), (72, .iload_n 2, 1), (73, .iastore, 1), (74, .iload_n 2, 1), (75, .ireturn, 1)]
theorem D_cX6_deeperSide_1 : dcs cX6_deeperSide l_cX6_deeperSide_1 := dcs_of (by decide +kernel)
def l_cX6_passPath_0 : List (Nat × Instr × Nat) := [(0, .ldc 90, 2), (2, .istore_n 2, 1), (3, .iconst 0, 1), (4, .istore_n 3, 1), (5, .iload_n 3, 1), (6, .iload_n 1, 1), (7, .if_icmp .ge 25, 3), (10, .iload_n 2, 1), (11, .aload_n 0, 1), (12, .getfield 33, 3), (15, .aload_n 0, 1), (16, .getfield 24, 3), (19, .iload_n 3, 1), (20, .iaload, 1), (21, .iaload, 1), (22, .invokestatic 36, 3), (25, .istore_n 2, 1), (26, .iinc 3 1, 3), (29, .goto (-24), 3), (32, .iconst 0, 1), (33, .istore_n 3, 1), (34, .iload_n 3, 1), (35, .iload_n 1, 1), (36, .if_icmp .ge 41, 3), (39, .aload_n 0, 1), (40, .getfield 33, 3), (43, .aload_n 0, 1), (44, .getfield 24, 3), (47, .iload_n 3, 1), (48, .iaload, 1), (49, .dup2, 1), (50, .iaload, 1), (51, .iload_n 2, 1), (52, .isub, 1), (53, .iastore, 1), (54, .aload_n 0, 1), (55, .getfield 33, 3), (58, .aload_n 0, 1), (59, .getfield 24, 3), (62, .iload_n 3, 1)]
theorem D_cX6_passPath_0 : dcs cX6_passPath l_cX6_passPath_0 := dcs_of (by decide +kernel)
def l_cX6_passPath_1 : List (Nat × Instr × Nat) := [(63, .iaload, 1), (64, .iconst 1, 1), (65, .ixor, 1), (66, .dup2, 1), (67, .iaload, 1), (68, .iload_n 2, 1), (69, .iadd, 1), (70, .iastore, 1), (71, .iinc 3 1, 3), (74, .goto (-40), 3), (77, .iload_n 2, 1), (78, .ireturn, 1)]
theorem D_cX6_passPath_1 : dcs cX6_passPath l_cX6_passPath_1 := dcs_of (by decide +kernel)
def l_cX7_init_0 : List (Nat × Instr × Nat) := [(0, .aload_n 0, 1), (1, .invokespecial 3, 3), (4, .aload_n 0, 1), (5, .sipush 510, 3), (8, .newarray .byte, 2), (10, .putfield 9, 3), (13, .return_, 1)]
theorem D_cX7_init_0 : dcs cX7_init l_cX7_init_0 := dcs_of (by decide +kernel)
def l_cX7_write_0 : List (Nat × Instr × Nat) := [(0, .aload_n 0, 1), (1, .iconst 0, 1), (2, .putfield 15, 3), (5, .iconst 0, 1), (6, .istore_n 2, 1), (7, .iload_n 2, 1), (8, .aload_n 1, 1), (9, .getfield 19, 3), (12, .if_icmp .ge 88, 3), (15, .iload_n 2, 1), (16, .ifCond .le 9, 3), (19, .aload_n 0, 1), (20, .bipush 59, 2), (22, .invokevirtual 24, 3), (25, .aload_n 0, 1), (26, .aload_n 1, 1), (27, .getfield 28, 3), (30, .iload_n 2, 1), (31, .iaload, 1), (32, .invokevirtual 32, 3), (35, .aload_n 0, 1), (36, .bipush 62, 2), (38, .invokevirtual 24, 3), (41, .aload_n 0, 1), (42, .aload_n 1, 1), (43, .getfield 35, 3), (46, .iload_n 2, 1), (47, .iaload, 1), (48, .invokevirtual 32, 3), (51, .aload_n 0, 1), (52, .bipush 58, 2), (54, .invokevirtual 24, 3), (57, .aload_n 0, 1), (58, .aload_n 1, 1), (59, .getfield 38, 3), (62, .iload_n 2, 1), (63, .iaload, 1), (64, .aload_n 1, 1), (65, .getfield 41, 3), (68, .iload_n 2, 1)]
theorem D_cX7_write_0 : dcs cX7_write l_cX7_write_0 := dcs_of (by decide +kernel)
def l_cX7_write_1 : List (Nat × Instr × Nat) := [(69, .iaload, 1), (70, .aload_n 1, 1), (71, .getfield 44, 3), (74, .iload_n 2, 1), (75, .iaload, 1), (76, .invokevirtual 47, 3), (79, .aload_n 1, 1), (80, .getfield 51, 3), (83, .iload_n 2, 1), (84, .iaload, 1), (85, .ifCond .ne 9, 3), (88, .aload_n 0, 1), (89, .bipush 120, 2), (91, .invokevirtual 24, 3), (94, .iinc 2 1, 3), (97, .goto (-90), 3), (100, .return_, 1)]
theorem D_cX7_write_1 : dcs cX7_write l_cX7_write_1 := dcs_of (by decide +kernel)
def l_cX7_putPassage_0 : List (Nat × Instr × Nat) := [(0, .iload_n 1, 1), (1, .ifCond .eq 14, 3), (4, .aload_n 0, 1), (5, .iload_n 1, 1), (6, .invokevirtual 32, 3), (9, .aload_n 0, 1), (10, .bipush 45, 2), (12, .invokevirtual 24, 3), (15, .aload_n 0, 1), (16, .iload_n 2, 1), (17, .invokevirtual 32, 3), (20, .iload_n 3, 1), (21, .iconst 1, 1), (22, .if_icmp .eq 14, 3), (25, .aload_n 0, 1), (26, .bipush 64, 2), (28, .invokevirtual 24, 3), (31, .aload_n 0, 1), (32, .iload_n 3, 1), (33, .invokevirtual 32, 3), (36, .return_, 1)]
theorem D_cX7_putPassage_0 : dcs cX7_putPassage l_cX7_putPassage_0 := dcs_of (by decide +kernel)
def l_cX7_putNumber_0 : List (Nat × Instr × Nat) := [(0, .iload_n 1, 1), (1, .bipush 100, 2), (3, .if_icmp .lt 14, 3), (6, .aload_n 0, 1), (7, .bipush 48, 2), (9, .iload_n 1, 1), (10, .bipush 100, 2), (12, .idiv, 1), (13, .iadd, 1), (14, .invokevirtual 24, 3), (17, .iload_n 1, 1), (18, .bipush 10, 2), (20, .if_icmp .lt 17, 3), (23, .aload_n 0, 1), (24, .bipush 48, 2), (26, .iload_n 1, 1), (27, .bipush 10, 2), (29, .idiv, 1), (30, .bipush 10, 2), (32, .irem, 1), (33, .iadd, 1), (34, .invokevirtual 24, 3), (37, .aload_n 0, 1), (38, .bipush 48, 2), (40, .iload_n 1, 1), (41, .bipush 10, 2), (43, .irem, 1), (44, .iadd, 1), (45, .invokevirtual 24, 3), (48, .return_, 1)]
theorem D_cX7_putNumber_0 : dcs cX7_putNumber l_cX7_putNumber_0 := dcs_of (by decide +kernel)
def l_cX7_putSign_0 : List (Nat × Instr × Nat) := [(0, .aload_n 0, 1), (1, .getfield 15, 3), (4, .ifCond .lt 34, 3), (7, .aload_n 0, 1), (8, .getfield 15, 3), (11, .sipush 510, 3), (14, .if_icmp .ge 24, 3), (17, .aload_n 0, 1), (18, .getfield 9, 3), (21, .aload_n 0, 1), (22, .getfield 15, 3), (25, .iload_n 1, 1), (26, .i2b, 1), (27, .bastore, 1), (28, .aload_n 0, 1), (29, .dup, 1), (30, .getfield 15, 3), (33, .iconst 1, 1), (34, .iadd, 1), (35, .putfield 15, 3), (38, .return_, 1)]
theorem D_cX7_putSign_0 : dcs cX7_putSign l_cX7_putSign_0 := dcs_of (by decide +kernel)
def l_cX8_init_0 : List (Nat × Instr × Nat) := [(0, .aload_n 0, 1), (1, .invokespecial 3, 3), (4, .aload_n 0, 1), (5, .bipush 30, 2), (7, .newarray .int, 2), (9, .putfield 9, 3), (12, .aload_n 0, 1), (13, .bipush 30, 2), (15, .newarray .int, 2), (17, .putfield 15, 3), (20, .aload_n 0, 1), (21, .bipush 30, 2), (23, .newarray .int, 2), (25, .putfield 18, 3), (28, .aload_n 0, 1), (29, .sipush 360, 3), (32, .newarray .int, 2), (34, .putfield 21, 3), (37, .aload_n 0, 1), (38, .bipush 30, 2), (40, .newarray .int, 2), (42, .putfield 24, 3), (45, .aload_n 0, 1), (46, .bipush 12, 2), (48, .newarray .int, 2), (50, .putfield 27, 3), (53, .aload_n 0, 1), (54, .bipush 12, 2), (56, .newarray .int, 2), (58, .putfield 30, 3), (61, .return_, 1)]
theorem D_cX8_init_0 : dcs cX8_init l_cX8_init_0 := dcs_of (by decide +kernel)
def l_cX8_run_0 : List (Nat × Instr × Nat) := [(0, .aload_n 0, 1), (1, .iconst 0, 1), (2, .putfield 33, 3), (5, .aload_n 0, 1), (6, .iconst 0, 1), (7, .putfield 37, 3), (10, .iconst 0, 1), (11, .istore_n 3, 1), (12, .iload_n 3, 1), (13, .bipush 30, 2), (15, .if_icmp .ge 36, 3), (18, .aload_n 0, 1), (19, .getfield 24, 3), (22, .iload_n 3, 1), (23, .iload_n 3, 1), (24, .aload_n 1, 1), (25, .getfield 40, 3), (28, .if_icmp .ge 15, 3), (31, .iload_n 3, 1), (32, .aload_n 2, 1), (33, .arraylength, 1), (34, .if_icmp .ge 9, 3), (37, .aload_n 2, 1), (38, .iload_n 3, 1), (39, .iaload, 1), (40, .goto 4, 3), (43, .iconst 0, 1), (44, .iastore, 1), (45, .iinc 3 1, 3), (48, .goto (-36), 3), (51, .aload_n 0, 1), (52, .getfield 33, 3), (55, .bipush 30, 2), (57, .if_icmp .ge 24, 3), (60, .aload_n 0, 1), (61, .aload_n 1, 1), (62, .invokevirtual 43, 3), (65, .ifCond .eq 16, 3), (68, .aload_n 0, 1), (69, .dup, 1)]
theorem D_cX8_run_0 : dcs cX8_run l_cX8_run_0 := dcs_of (by decide +kernel)
def l_cX8_run_1 : List (Nat × Instr × Nat) := [(70, .getfield 33, 3), (73, .iconst 1, 1), (74, .iadd, 1), (75, .putfield 33, 3), (78, .goto (-27), 3), (81, .return_, 1)]
theorem D_cX8_run_1 : dcs cX8_run l_cX8_run_1 := dcs_of (by decide +kernel)
def l_cX8_walk_0 : List (Nat × Instr × Nat) := [(0, .aload_n 0, 1), (1, .getfield 30, 3), (4, .iconst (-1), 1), (5, .invokestatic 47, 3), (8, .aload_n 1, 1), (9, .getfield 53, 3), (12, .istore_n 2, 1), (13, .iconst 0, 1), (14, .istore_n 3, 1), (15, .iload_n 3, 1), (16, .bipush 12, 2), (18, .if_icmp .ge 92, 3), (21, .aload_n 0, 1), (22, .aload_n 1, 1), (23, .iload_n 2, 1), (24, .invokevirtual 56, 3), (27, .istore 4, 2), (29, .iload 4, 2), (31, .ifCond .ge 6, 3), (34, .goto 76, 3), (37, .aload_n 0, 1), (38, .getfield 30, 3), (41, .iload_n 2, 1), (42, .iload_n 3, 1), (43, .iastore, 1), (44, .aload_n 0, 1), (45, .getfield 27, 3), (48, .iload_n 3, 1), (49, .iload 4, 2), (51, .iastore, 1), (52, .aload_n 1, 1), (53, .getfield 60, 3), (56, .iload 4, 2), (58, .iaload, 1), (59, .istore_n 2, 1), (60, .iload_n 2, 1), (61, .aload_n 1, 1), (62, .getfield 63, 3), (65, .if_icmp .ne 14, 3), (68, .aload_n 0, 1)]
theorem D_cX8_walk_0 : dcs cX8_walk l_cX8_walk_0 := dcs_of (by decide +kernel)
def l_cX8_walk_1 : List (Nat × Instr × Nat) := [(69, .iconst 0, 1), (70, .iload_n 3, 1), (71, .iconst 1, 1), (72, .iadd, 1), (73, .iconst 0, 1), (74, .invokevirtual 66, 3), (77, .iconst 1, 1), (78, .ireturn, 1), (79, .aload_n 0, 1), (80, .getfield 30, 3), (83, .iload_n 2, 1), (84, .iaload, 1), (85, .ifCond .lt 19, 3), (88, .aload_n 0, 1), (89, .aload_n 0, 1), (90, .getfield 30, 3), (93, .iload_n 2, 1), (94, .iaload, 1), (95, .iload_n 3, 1), (96, .iconst 1, 1), (97, .iadd, 1), (98, .iconst 1, 1), (99, .invokevirtual 66, 3), (102, .iconst 1, 1), (103, .ireturn, 1), (104, .iinc 3 1, 3), (107, .goto (-92), 3), (110, .iconst 0, 1), (111, .ireturn, 1)]
theorem D_cX8_walk_1 : dcs cX8_walk l_cX8_walk_1 := dcs_of (by decide +kernel)
def l_cX8_firstLeft_0 : List (Nat × Instr × Nat) := [(0, .iconst 0, 1), (1, .istore_n 3, 1), (2, .iload_n 3, 1), (3, .aload_n 1, 1), (4, .getfield 40, 3), (7, .if_icmp .ge 30, 3), (10, .aload_n 1, 1), (11, .getfield 70, 3), (14, .iload_n 3, 1), (15, .iaload, 1), (16, .iload_n 2, 1), (17, .if_icmp .ne 14, 3), (20, .aload_n 0, 1), (21, .getfield 24, 3), (24, .iload_n 3, 1), (25, .iaload, 1), (26, .ifCond .le 5, 3), (29, .iload_n 3, 1), (30, .ireturn, 1), (31, .iinc 3 1, 3), (34, .goto (-32), 3), (37, .iconst (-1), 1), (38, .ireturn, 1)]
theorem D_cX8_firstLeft_0 : dcs cX8_firstLeft l_cX8_firstLeft_0 := dcs_of (by decide +kernel)
def l_cX8_takeStrand_0 : List (Nat × Instr × Nat) := [(0, .ldc 73, 2), (2, .istore 4, 2), (4, .iload_n 1, 1), (5, .istore 5, 2), (7, .iload 5, 2), (9, .iload_n 2, 1), (10, .if_icmp .ge 28, 3), (13, .iload 4, 2), (15, .aload_n 0, 1), (16, .getfield 24, 3), (19, .aload_n 0, 1), (20, .getfield 27, 3), (23, .iload 5, 2), (25, .iaload, 1), (26, .iaload, 1), (27, .invokestatic 74, 3), (30, .istore 4, 2), (32, .iinc 5 1, 3), (35, .goto (-28), 3), (38, .iload_n 1, 1), (39, .istore 5, 2), (41, .iload 5, 2), (43, .iload_n 2, 1), (44, .if_icmp .ge 50, 3), (47, .aload_n 0, 1), (48, .getfield 24, 3), (51, .aload_n 0, 1), (52, .getfield 27, 3), (55, .iload 5, 2), (57, .iaload, 1), (58, .dup2, 1), (59, .iaload, 1), (60, .iload 4, 2), (62, .isub, 1), (63, .iastore, 1), (64, .aload_n 0, 1), (65, .getfield 21, 3), (68, .aload_n 0, 1), (69, .getfield 33, 3), (72, .bipush 12, 2)]
theorem D_cX8_takeStrand_0 : dcs cX8_takeStrand l_cX8_takeStrand_0 := dcs_of (by decide +kernel)
def l_cX8_takeStrand_1 : List (Nat × Instr × Nat) := [(74, .imul, 1), (75, .iload 5, 2), (77, .iadd, 1), (78, .iload_n 1, 1), (79, .isub, 1), (80, .aload_n 0, 1), (81, .getfield 27, 3), (84, .iload 5, 2), (86, .iaload, 1), (87, .iastore, 1), (88, .iinc 5 1, 3), (91, .goto (-50), 3), (94, .aload_n 0, 1), (95, .getfield 9, 3), (98, .aload_n 0, 1), (99, .getfield 33, 3), (102, .iload 4, 2), (104, .iastore, 1), (105, .aload_n 0, 1), (106, .getfield 15, 3), (109, .aload_n 0, 1), (110, .getfield 33, 3), (113, .iload_n 2, 1), (114, .iload_n 1, 1), (115, .isub, 1), (116, .iastore, 1), (117, .aload_n 0, 1), (118, .getfield 18, 3), (121, .aload_n 0, 1), (122, .getfield 33, 3), (125, .iload_n 3, 1), (126, .iastore, 1), (127, .aload_n 0, 1), (128, .dup, 1), (129, .getfield 37, 3), (132, .iload_n 3, 1), (133, .iadd, 1), (134, .putfield 37, 3), (137, .return_, 1)]
theorem D_cX8_takeStrand_1 : dcs cX8_takeStrand l_cX8_takeStrand_1 := dcs_of (by decide +kernel)
def l_cX9_init_0 : List (Nat × Instr × Nat) := [(0, .aload_n 0, 1), (1, .invokespecial 3, 3), (4, .aload_n 0, 1), (5, .bipush 90, 2), (7, .newarray .byte, 2), (9, .putfield 9, 3), (12, .aload_n 0, 1), (13, .iconst (-1), 1), (14, .putfield 15, 3), (17, .return_, 1)]
theorem D_cX9_init_0 : dcs cX9_init l_cX9_init_0 := dcs_of (by decide +kernel)
def l_cX9_add_0 : List (Nat × Instr × Nat) := [(0, .aload_n 0, 1), (1, .getfield 19, 3), (4, .ifCond .lt 12, 3), (7, .aload_n 0, 1), (8, .getfield 19, 3), (11, .bipush 90, 2), (13, .if_icmp .lt 5, 3), (16, .iconst 0, 1), (17, .ireturn, 1), (18, .aload_n 0, 1), (19, .getfield 9, 3), (22, .aload_n 0, 1), (23, .getfield 19, 3), (26, .iload_n 1, 1), (27, .i2b, 1), (28, .bastore, 1), (29, .aload_n 0, 1), (30, .dup, 1), (31, .getfield 19, 3), (34, .iconst 1, 1), (35, .iadd, 1), (36, .putfield 19, 3), (39, .iconst 1, 1), (40, .ireturn, 1)]
theorem D_cX9_add_0 : dcs cX9_add l_cX9_add_0 := dcs_of (by decide +kernel)
def l_cX9_begin_0 : List (Nat × Instr × Nat) := [(0, .aload_n 0, 1), (1, .iconst 0, 1), (2, .putfield 22, 3), (5, .aload_n 0, 1), (6, .iconst (-1), 1), (7, .putfield 15, 3), (10, .return_, 1)]
theorem D_cX9_begin_0 : dcs cX9_begin l_cX9_begin_0 := dcs_of (by decide +kernel)
def l_cX9_fail_0 : List (Nat × Instr × Nat) := [(0, .aload_n 0, 1), (1, .getfield 15, 3), (4, .ifCond .ge 8, 3), (7, .aload_n 0, 1), (8, .iload_n 1, 1), (9, .putfield 15, 3), (12, .return_, 1)]
theorem D_cX9_fail_0 : dcs cX9_fail l_cX9_fail_0 := dcs_of (by decide +kernel)
def l_cX9_isAtEnd_0 : List (Nat × Instr × Nat) := [(0, .aload_n 0, 1), (1, .getfield 22, 3), (4, .aload_n 0, 1), (5, .getfield 19, 3), (8, .if_icmp .lt 7, 3), (11, .iconst 1, 1), (12, .goto 4, 3), (15, .iconst 0, 1), (16, .ireturn, 1)]
theorem D_cX9_isAtEnd_0 : dcs cX9_isAtEnd l_cX9_isAtEnd_0 := dcs_of (by decide +kernel)
def l_cX9_byteAt_0 : List (Nat × Instr × Nat) := [(0, .iload_n 1, 1), (1, .ifCond .lt 26, 3), (4, .iload_n 1, 1), (5, .aload_n 0, 1), (6, .getfield 19, 3), (9, .if_icmp .ge 18, 3), (12, .iload_n 1, 1), (13, .bipush 90, 2), (15, .if_icmp .ge 12, 3), (18, .aload_n 0, 1), (19, .getfield 9, 3), (22, .iload_n 1, 1), (23, .baload, 1), (24, .goto 4, 3), (27, .iconst 0, 1), (28, .ireturn, 1)]
theorem D_cX9_byteAt_0 : dcs cX9_byteAt l_cX9_byteAt_0 := dcs_of (by decide +kernel)
def l_cX9_takes_0 : List (Nat × Instr × Nat) := [(0, .aload_n 0, 1), (1, .aload_n 0, 1), (2, .getfield 22, 3), (5, .invokevirtual 25, 3), (8, .iload_n 1, 1), (9, .if_icmp .eq 5, 3), (12, .iconst 0, 1), (13, .ireturn, 1), (14, .aload_n 0, 1), (15, .dup, 1), (16, .getfield 22, 3), (19, .iconst 1, 1), (20, .iadd, 1), (21, .putfield 22, 3), (24, .iconst 1, 1), (25, .ireturn, 1)]
theorem D_cX9_takes_0 : dcs cX9_takes l_cX9_takes_0 := dcs_of (by decide +kernel)
def l_cX9_expect_0 : List (Nat × Instr × Nat) := [(0, .aload_n 0, 1), (1, .iload_n 1, 1), (2, .invokevirtual 29, 3), (5, .ifCond .ne 11, 3), (8, .aload_n 0, 1), (9, .aload_n 0, 1), (10, .getfield 22, 3), (13, .invokevirtual 33, 3), (16, .return_, 1)]
theorem D_cX9_expect_0 : dcs cX9_expect l_cX9_expect_0 := dcs_of (by decide +kernel)
def l_cX9_number_0 : List (Nat × Instr × Nat) := [(0, .aload_n 0, 1), (1, .getfield 22, 3), (4, .istore_n 1, 1), (5, .iconst 0, 1), (6, .istore_n 2, 1), (7, .iconst 0, 1), (8, .istore_n 3, 1), (9, .iload_n 3, 1), (10, .iconst 3, 1), (11, .if_icmp .ge 62, 3), (14, .aload_n 0, 1), (15, .aload_n 0, 1), (16, .getfield 22, 3), (19, .invokevirtual 25, 3), (22, .bipush 48, 2), (24, .if_icmp .lt 49, 3), (27, .aload_n 0, 1), (28, .aload_n 0, 1), (29, .getfield 22, 3), (32, .invokevirtual 25, 3), (35, .bipush 57, 2), (37, .if_icmp .gt 36, 3), (40, .iload_n 2, 1), (41, .bipush 10, 2), (43, .imul, 1), (44, .aload_n 0, 1), (45, .aload_n 0, 1), (46, .getfield 22, 3), (49, .invokevirtual 25, 3), (52, .iadd, 1), (53, .bipush 48, 2), (55, .isub, 1), (56, .istore_n 2, 1), (57, .aload_n 0, 1), (58, .dup, 1), (59, .getfield 22, 3), (62, .iconst 1, 1), (63, .iadd, 1), (64, .putfield 22, 3), (67, .iinc 3 1, 3)]
theorem D_cX9_number_0 : dcs cX9_number l_cX9_number_0 := dcs_of (by decide +kernel)
def l_cX9_number_1 : List (Nat × Instr × Nat) := [(70, .goto (-61), 3), (73, .aload_n 0, 1), (74, .getfield 22, 3), (77, .iload_n 1, 1), (78, .if_icmp .ne 8, 3), (81, .aload_n 0, 1), (82, .iload_n 1, 1), (83, .invokevirtual 33, 3), (86, .iload_n 2, 1), (87, .ireturn, 1)]
theorem D_cX9_number_1 : dcs cX9_number l_cX9_number_1 := dcs_of (by decide +kernel)
def l_cX10_init_0 : List (Nat × Instr × Nat) := [(0, .aload_n 0, 1), (1, .invokespecial 1, 3), (4, .return_, 1)]
theorem D_cX10_init_0 : dcs cX10_init l_cX10_init_0 := dcs_of (by decide +kernel)
def l_cX10_run_0 : List (Nat × Instr × Nat) := [(0, .aload_n 0, 1), (1, .iconst (-1), 1), (2, .putfield 7, 3), (5, .aload_n 0, 1), (6, .iconst (-1), 1), (7, .putfield 13, 3), (10, .aload_n 0, 1), (11, .iconst (-1), 1), (12, .putfield 16, 3), (15, .aload_n 0, 1), (16, .iconst (-1), 1), (17, .putfield 19, 3), (20, .iconst 0, 1), (21, .istore 4, 2), (23, .iload 4, 2), (25, .aload_n 1, 1), (26, .getfield 22, 3), (29, .if_icmp .ge 77, 3), (32, .aload_n 2, 1), (33, .getfield 27, 3), (36, .iload 4, 2), (38, .iaload, 1), (39, .aload_n 2, 1), (40, .getfield 33, 3), (43, .invokestatic 36, 3), (46, .istore 5, 2), (48, .iload 5, 2), (50, .aload_n 0, 1), (51, .getfield 13, 3), (54, .if_icmp .le 22, 3), (57, .aload_n 2, 1), (58, .getfield 33, 3), (61, .aload_n 3, 1), (62, .aload_n 1, 1), (63, .iconst 1, 1), (64, .iload 4, 2), (66, .ishl, 1), (67, .iconst (-1), 1), (68, .iconst 0, 1), (69, .invokevirtual 42, 3)]
theorem D_cX10_run_0 : dcs cX10_run l_cX10_run_0 := dcs_of (by decide +kernel)
def l_cX10_run_1 : List (Nat × Instr × Nat) := [(72, .isub, 1), (73, .goto 4, 3), (76, .iconst (-1), 1), (77, .istore 6, 2), (79, .iload 6, 2), (81, .aload_n 0, 1), (82, .getfield 13, 3), (85, .if_icmp .le 15, 3), (88, .aload_n 0, 1), (89, .iload 6, 2), (91, .putfield 13, 3), (94, .aload_n 0, 1), (95, .iload 4, 2), (97, .putfield 7, 3), (100, .iinc 4 1, 3), (103, .goto (-80), 3), (106, .iconst 0, 1), (107, .istore 4, 2), (109, .iload 4, 2), (111, .aload_n 1, 1), (112, .getfield 22, 3), (115, .if_icmp .ge 117, 3), (118, .iload 4, 2), (120, .iconst 1, 1), (121, .iadd, 1), (122, .istore 5, 2), (124, .iload 5, 2), (126, .aload_n 1, 1), (127, .getfield 22, 3), (130, .if_icmp .ge 96, 3), (133, .aload_n 2, 1), (134, .getfield 27, 3), (137, .iload 4, 2), (139, .iaload, 1), (140, .aload_n 2, 1), (141, .getfield 27, 3), (144, .iload 5, 2), (146, .iaload, 1), (147, .iadd, 1), (148, .aload_n 2, 1)]
theorem D_cX10_run_1 : dcs cX10_run l_cX10_run_1 := dcs_of (by decide +kernel)
def l_cX10_run_2 : List (Nat × Instr × Nat) := [(149, .getfield 33, 3), (152, .invokestatic 36, 3), (155, .istore 6, 2), (157, .iload 6, 2), (159, .aload_n 0, 1), (160, .getfield 19, 3), (163, .if_icmp .le 27, 3), (166, .aload_n 2, 1), (167, .getfield 33, 3), (170, .aload_n 3, 1), (171, .aload_n 1, 1), (172, .iconst 1, 1), (173, .iload 4, 2), (175, .ishl, 1), (176, .iconst 1, 1), (177, .iload 5, 2), (179, .ishl, 1), (180, .ior, 1), (181, .iconst (-1), 1), (182, .iconst 0, 1), (183, .invokevirtual 42, 3), (186, .isub, 1), (187, .goto 4, 3), (190, .iconst (-1), 1), (191, .istore 7, 2), (193, .iload 7, 2), (195, .aload_n 0, 1), (196, .getfield 19, 3), (199, .if_icmp .le 21, 3), (202, .aload_n 0, 1), (203, .iload 7, 2), (205, .putfield 19, 3), (208, .aload_n 0, 1), (209, .bipush 100, 2), (211, .iload 4, 2), (213, .imul, 1), (214, .iload 5, 2), (216, .iadd, 1), (217, .putfield 16, 3), (220, .iinc 5 1, 3)]
theorem D_cX10_run_2 : dcs cX10_run l_cX10_run_2 := dcs_of (by decide +kernel)
def l_cX10_run_3 : List (Nat × Instr × Nat) := [(223, .goto (-99), 3), (226, .iinc 4 1, 3), (229, .goto (-120), 3), (232, .return_, 1)]
theorem D_cX10_run_3 : dcs cX10_run l_cX10_run_3 := dcs_of (by decide +kernel)
def l_cX11_init_0 : List (Nat × Instr × Nat) := [(0, .aload_n 0, 1), (1, .invokespecial 3, 3), (4, .aload_n 0, 1), (5, .new 9, 3), (8, .dup, 1), (9, .invokespecial 11, 3), (12, .putfield 12, 3), (15, .aload_n 0, 1), (16, .new 9, 3), (19, .dup, 1), (20, .invokespecial 11, 3), (23, .putfield 16, 3), (26, .aload_n 0, 1), (27, .new 19, 3), (30, .dup, 1), (31, .invokespecial 21, 3), (34, .putfield 22, 3), (37, .aload_n 0, 1), (38, .new 26, 3), (41, .dup, 1), (42, .invokespecial 28, 3), (45, .putfield 29, 3), (48, .aload_n 0, 1), (49, .new 33, 3), (52, .dup, 1), (53, .invokespecial 35, 3), (56, .putfield 36, 3), (59, .aload_n 0, 1), (60, .new 40, 3), (63, .dup, 1), (64, .invokespecial 42, 3), (67, .putfield 43, 3), (70, .aload_n 0, 1), (71, .new 47, 3), (74, .dup, 1), (75, .invokespecial 49, 3), (78, .putfield 50, 3), (81, .aload_n 0, 1), (82, .new 54, 3), (85, .dup, 1)]
theorem D_cX11_init_0 : dcs cX11_init l_cX11_init_0 := dcs_of (by decide +kernel)
def l_cX11_init_1 : List (Nat × Instr × Nat) := [(86, .invokespecial 56, 3), (89, .putfield 57, 3), (92, .aload_n 0, 1), (93, .new 61, 3), (96, .dup, 1), (97, .invokespecial 63, 3), (100, .putfield 64, 3), (103, .aload_n 0, 1), (104, .new 68, 3), (107, .dup, 1), (108, .invokespecial 70, 3), (111, .putfield 71, 3), (114, .aload_n 0, 1), (115, .new 75, 3), (118, .dup, 1), (119, .invokespecial 77, 3), (122, .putfield 78, 3), (125, .return_, 1)]
theorem D_cX11_init_1 : dcs cX11_init l_cX11_init_1 := dcs_of (by decide +kernel)
def l_cX11_gate_0 : List (Nat × Instr × Nat) := [(0, .iload_n 1, 1), (1, .invokestatic 82, 3), (4, .ifCond .eq 15, 3), (7, .iload_n 2, 1), (8, .invokestatic 82, 3), (11, .ifCond .eq 8, 3), (14, .iload_n 1, 1), (15, .iload_n 2, 1), (16, .if_icmp .ne 5, 3), (19, .iconst (-1), 1), (20, .ireturn, 1), (21, .iload 4, 2), (23, .invokestatic 86, 3), (26, .ifCond .eq 21, 3), (29, .iload_n 3, 1), (30, .ifCond .lt 17, 3), (33, .iload_n 3, 1), (34, .iload 4, 2), (36, .if_icmp .gt 11, 3), (39, .iload 5, 2), (41, .invokestatic 89, 3), (44, .ifCond .ne 6, 3), (47, .bipush (-2), 2), (49, .ireturn, 1), (50, .aload_n 0, 1), (51, .getfield 12, 3), (54, .getfield 92, 3), (57, .bipush 30, 2), (59, .if_icmp .lt 6, 3), (62, .bipush (-4), 2), (64, .ireturn, 1), (65, .aload_n 0, 1), (66, .invokevirtual 96, 3), (69, .aload_n 0, 1), (70, .getfield 12, 3), (73, .iload_n 1, 1), (74, .iload_n 2, 1), (75, .iload_n 3, 1), (76, .iload 4, 2), (78, .iload 5, 2)]
theorem D_cX11_gate_0 : dcs cX11_gate l_cX11_gate_0 := dcs_of (by decide +kernel)
def l_cX11_gate_1 : List (Nat × Instr × Nat) := [(80, .iconst 1, 1), (81, .invokevirtual 99, 3), (84, .ireturn, 1)]
theorem D_cX11_gate_1 : dcs cX11_gate l_cX11_gate_1 := dcs_of (by decide +kernel)
def l_cX11_of_0 : List (Nat × Instr × Nat) := [(0, .aload_n 0, 1), (1, .getfield 12, 3), (4, .iload_n 1, 1), (5, .invokevirtual 103, 3), (8, .ifCond .ne 5, 3), (11, .iconst (-1), 1), (12, .ireturn, 1), (13, .iload_n 2, 1), (14, .tableswitch 98 0 5 #[38, 48, 58, 68, 78, 88], 38), (52, .aload_n 0, 1), (53, .getfield 12, 3), (56, .getfield 106, 3), (59, .iload_n 1, 1), (60, .iaload, 1), (61, .ireturn, 1), (62, .aload_n 0, 1), (63, .getfield 12, 3), (66, .getfield 110, 3), (69, .iload_n 1, 1), (70, .iaload, 1), (71, .ireturn, 1), (72, .aload_n 0, 1), (73, .getfield 12, 3), (76, .getfield 113, 3), (79, .iload_n 1, 1), (80, .iaload, 1), (81, .ireturn, 1), (82, .aload_n 0, 1), (83, .getfield 12, 3), (86, .getfield 116, 3), (89, .iload_n 1, 1), (90, .iaload, 1), (91, .ireturn, 1), (92, .aload_n 0, 1), (93, .getfield 12, 3), (96, .getfield 119, 3), (99, .iload_n 1, 1), (100, .iaload, 1), (101, .ireturn, 1), (102, .aload_n 0, 1)]
theorem D_cX11_of_0 : dcs cX11_of l_cX11_of_0 := dcs_of (by decide +kernel)
def l_cX11_of_1 : List (Nat × Instr × Nat) := [(103, .getfield 12, 3), (106, .getfield 122, 3), (109, .iload_n 1, 1), (110, .iaload, 1), (111, .ireturn, 1), (112, .iconst (-1), 1), (113, .ireturn, 1)]
theorem D_cX11_of_1 : dcs cX11_of l_cX11_of_1 := dcs_of (by decide +kernel)
def l_cX11_widen_0 : List (Nat × Instr × Nat) := [(0, .aload_n 0, 1), (1, .getfield 12, 3), (4, .iload_n 1, 1), (5, .invokevirtual 103, 3), (8, .ifCond .ne 5, 3), (11, .iconst (-1), 1), (12, .ireturn, 1), (13, .iload_n 2, 1), (14, .invokestatic 86, 3), (17, .ifCond .eq 16, 3), (20, .iload_n 2, 1), (21, .aload_n 0, 1), (22, .getfield 12, 3), (25, .getfield 113, 3), (28, .iload_n 1, 1), (29, .iaload, 1), (30, .if_icmp .ge 6, 3), (33, .bipush (-2), 2), (35, .ireturn, 1), (36, .aload_n 0, 1), (37, .getfield 12, 3), (40, .getfield 116, 3), (43, .iload_n 1, 1), (44, .iaload, 1), (45, .istore_n 3, 1), (46, .aload_n 0, 1), (47, .getfield 12, 3), (50, .getfield 116, 3), (53, .iload_n 1, 1), (54, .iload_n 2, 1), (55, .iastore, 1), (56, .aload_n 0, 1), (57, .invokevirtual 96, 3), (60, .iload_n 3, 1), (61, .ireturn, 1)]
theorem D_cX11_widen_0 : dcs cX11_widen l_cX11_widen_0 := dcs_of (by decide +kernel)
def l_cX11_bind_0 : List (Nat × Instr × Nat) := [(0, .aload_n 0, 1), (1, .getfield 12, 3), (4, .iload_n 1, 1), (5, .invokevirtual 103, 3), (8, .ifCond .ne 5, 3), (11, .iconst (-1), 1), (12, .ireturn, 1), (13, .iload_n 2, 1), (14, .ifCond .lt 16, 3), (17, .iload_n 2, 1), (18, .aload_n 0, 1), (19, .getfield 12, 3), (22, .getfield 116, 3), (25, .iload_n 1, 1), (26, .iaload, 1), (27, .if_icmp .le 6, 3), (30, .bipush (-2), 2), (32, .ireturn, 1), (33, .aload_n 0, 1), (34, .getfield 12, 3), (37, .getfield 113, 3), (40, .iload_n 1, 1), (41, .iaload, 1), (42, .istore_n 3, 1), (43, .aload_n 0, 1), (44, .getfield 12, 3), (47, .getfield 113, 3), (50, .iload_n 1, 1), (51, .iload_n 2, 1), (52, .iastore, 1), (53, .aload_n 0, 1), (54, .invokevirtual 96, 3), (57, .iload_n 3, 1), (58, .ireturn, 1)]
theorem D_cX11_bind_0 : dcs cX11_bind l_cX11_bind_0 := dcs_of (by decide +kernel)
def l_cX11_turn_0 : List (Nat × Instr × Nat) := [(0, .aload_n 0, 1), (1, .getfield 12, 3), (4, .iload_n 1, 1), (5, .invokevirtual 103, 3), (8, .ifCond .eq 10, 3), (11, .iload_n 2, 1), (12, .invokestatic 125, 3), (15, .ifCond .ne 5, 3), (18, .iconst (-1), 1), (19, .ireturn, 1), (20, .aload_n 0, 1), (21, .getfield 12, 3), (24, .getfield 122, 3), (27, .iload_n 1, 1), (28, .iaload, 1), (29, .istore_n 3, 1), (30, .aload_n 0, 1), (31, .getfield 12, 3), (34, .getfield 122, 3), (37, .iload_n 1, 1), (38, .iload_n 2, 1), (39, .iastore, 1), (40, .aload_n 0, 1), (41, .invokevirtual 96, 3), (44, .iload_n 3, 1), (45, .ireturn, 1)]
theorem D_cX11_turn_0 : dcs cX11_turn l_cX11_turn_0 := dcs_of (by decide +kernel)
def l_cX11_drop_0 : List (Nat × Instr × Nat) := [(0, .aload_n 0, 1), (1, .getfield 12, 3), (4, .getfield 92, 3), (7, .ifCond .gt 6, 3), (10, .bipush (-3), 2), (12, .ireturn, 1), (13, .aload_n 0, 1), (14, .getfield 12, 3), (17, .dup, 1), (18, .getfield 92, 3), (21, .iconst 1, 1), (22, .isub, 1), (23, .putfield 92, 3), (26, .aload_n 0, 1), (27, .invokevirtual 96, 3), (30, .aload_n 0, 1), (31, .getfield 12, 3), (34, .getfield 92, 3), (37, .ireturn, 1)]
theorem D_cX11_drop_0 : dcs cX11_drop l_cX11_drop_0 := dcs_of (by decide +kernel)
def l_cX11_ends_0 : List (Nat × Instr × Nat) := [(0, .iload_n 1, 1), (1, .invokestatic 82, 3), (4, .ifCond .eq 15, 3), (7, .iload_n 2, 1), (8, .invokestatic 82, 3), (11, .ifCond .eq 8, 3), (14, .iload_n 1, 1), (15, .iload_n 2, 1), (16, .if_icmp .ne 5, 3), (19, .iconst (-1), 1), (20, .ireturn, 1), (21, .aload_n 0, 1), (22, .getfield 12, 3), (25, .iload_n 1, 1), (26, .putfield 128, 3), (29, .aload_n 0, 1), (30, .getfield 12, 3), (33, .iload_n 2, 1), (34, .putfield 131, 3), (37, .aload_n 0, 1), (38, .invokevirtual 96, 3), (41, .iconst 1, 1), (42, .ireturn, 1)]
theorem D_cX11_ends_0 : dcs cX11_ends l_cX11_ends_0 := dcs_of (by decide +kernel)
def l_cX11_most_0 : List (Nat × Instr × Nat) := [(0, .aload_n 0, 1), (1, .invokevirtual 134, 3), (4, .getfield 138, 3), (7, .ireturn, 1)]
theorem D_cX11_most_0 : dcs cX11_most l_cX11_most_0 := dcs_of (by decide +kernel)
def l_cX11_water_0 : List (Nat × Instr × Nat) := [(0, .aload_n 0, 1), (1, .getfield 12, 3), (4, .iload_n 1, 1), (5, .invokevirtual 103, 3), (8, .ifCond .eq 15, 3), (11, .aload_n 0, 1), (12, .invokevirtual 134, 3), (15, .getfield 141, 3), (18, .iload_n 1, 1), (19, .iaload, 1), (20, .goto 4, 3), (23, .iconst (-1), 1), (24, .ireturn, 1)]
theorem D_cX11_water_0 : dcs cX11_water l_cX11_water_0 := dcs_of (by decide +kernel)
def l_cX11_ways_0 : List (Nat × Instr × Nat) := [(0, .aload_n 0, 1), (1, .invokevirtual 134, 3), (4, .astore_n 3, 1), (5, .iload_n 1, 1), (6, .iconst (-1), 1), (7, .if_icmp .ne 8, 3), (10, .aload_n 3, 1), (11, .getfield 144, 3), (14, .ireturn, 1), (15, .iload_n 1, 1), (16, .ifCond .lt 11, 3), (19, .iload_n 1, 1), (20, .aload_n 3, 1), (21, .getfield 144, 3), (24, .if_icmp .lt 5, 3), (27, .iconst (-1), 1), (28, .ireturn, 1), (29, .iload_n 2, 1), (30, .ifCond .ne 10, 3), (33, .aload_n 3, 1), (34, .getfield 145, 3), (37, .iload_n 1, 1), (38, .iaload, 1), (39, .ireturn, 1), (40, .iload_n 2, 1), (41, .iconst 1, 1), (42, .if_icmp .ne 10, 3), (45, .aload_n 3, 1), (46, .getfield 148, 3), (49, .iload_n 1, 1), (50, .iaload, 1), (51, .ireturn, 1), (52, .iload_n 2, 1), (53, .bipush 10, 2), (55, .if_icmp .lt 33, 3), (58, .iload_n 2, 1), (59, .bipush 10, 2), (61, .isub, 1), (62, .aload_n 3, 1), (63, .getfield 148, 3)]
theorem D_cX11_ways_0 : dcs cX11_ways l_cX11_ways_0 := dcs_of (by decide +kernel)
def l_cX11_ways_1 : List (Nat × Instr × Nat) := [(66, .iload_n 1, 1), (67, .iaload, 1), (68, .if_icmp .ge 20, 3), (71, .aload_n 3, 1), (72, .getfield 151, 3), (75, .iload_n 1, 1), (76, .bipush 12, 2), (78, .imul, 1), (79, .iload_n 2, 1), (80, .iadd, 1), (81, .bipush 10, 2), (83, .isub, 1), (84, .iaload, 1), (85, .goto 4, 3), (88, .iconst (-1), 1), (89, .ireturn, 1)]
theorem D_cX11_ways_1 : dcs cX11_ways l_cX11_ways_1 := dcs_of (by decide +kernel)
def l_cX11_byHeights_0 : List (Nat × Instr × Nat) := [(0, .aload_n 0, 1), (1, .getfield 12, 3), (4, .iload_n 1, 1), (5, .invokevirtual 103, 3), (8, .ifCond .eq 15, 3), (11, .aload_n 0, 1), (12, .invokevirtual 154, 3), (15, .getfield 158, 3), (18, .iload_n 1, 1), (19, .iaload, 1), (20, .goto 4, 3), (23, .iconst (-1), 1), (24, .ireturn, 1)]
theorem D_cX11_byHeights_0 : dcs cX11_byHeights l_cX11_byHeights_0 := dcs_of (by decide +kernel)
def l_cX11_heights_0 : List (Nat × Instr × Nat) := [(0, .iload_n 1, 1), (1, .iconst (-1), 1), (2, .if_icmp .ne 19, 3), (5, .iload_n 2, 1), (6, .ifCond .ne 13, 3), (9, .aload_n 0, 1), (10, .invokevirtual 154, 3), (13, .getfield 159, 3), (16, .goto 4, 3), (19, .iconst (-1), 1), (20, .ireturn, 1), (21, .iload_n 1, 1), (22, .invokestatic 82, 3), (25, .ifCond .ne 5, 3), (28, .iconst (-1), 1), (29, .ireturn, 1), (30, .iload_n 2, 1), (31, .tableswitch 55 0 2 #[25, 35, 45], 25), (56, .aload_n 0, 1), (57, .invokevirtual 154, 3), (60, .getfield 162, 3), (63, .iload_n 1, 1), (64, .iaload, 1), (65, .ireturn, 1), (66, .aload_n 0, 1), (67, .invokevirtual 154, 3), (70, .getfield 165, 3), (73, .iload_n 1, 1), (74, .iaload, 1), (75, .ireturn, 1), (76, .aload_n 0, 1), (77, .invokevirtual 154, 3), (80, .getfield 168, 3), (83, .iload_n 1, 1), (84, .iaload, 1), (85, .ireturn, 1), (86, .iconst (-1), 1), (87, .ireturn, 1)]
theorem D_cX11_heights_0 : dcs cX11_heights l_cX11_heights_0 := dcs_of (by decide +kernel)
def l_cX11_near_0 : List (Nat × Instr × Nat) := [(0, .aload_n 0, 1), (1, .invokevirtual 134, 3), (4, .getfield 171, 3), (7, .ireturn, 1)]
theorem D_cX11_near_0 : dcs cX11_near l_cX11_near_0 := dcs_of (by decide +kernel)
def l_cX11_far_0 : List (Nat × Instr × Nat) := [(0, .aload_n 0, 1), (1, .invokevirtual 134, 3), (4, .getfield 174, 3), (7, .ireturn, 1)]
theorem D_cX11_far_0 : dcs cX11_far l_cX11_far_0 := dcs_of (by decide +kernel)
def l_cX11_cut_0 : List (Nat × Instr × Nat) := [(0, .iload_n 1, 1), (1, .invokestatic 125, 3), (4, .ifCond .ne 5, 3), (7, .iconst (-1), 1), (8, .ireturn, 1), (9, .aload_n 0, 1), (10, .invokevirtual 134, 3), (13, .astore_n 2, 1), (14, .iconst 0, 1), (15, .istore_n 3, 1), (16, .iconst 0, 1), (17, .istore 4, 2), (19, .iload 4, 2), (21, .aload_n 0, 1), (22, .getfield 12, 3), (25, .getfield 92, 3), (28, .if_icmp .ge 134, 3), (31, .iload_n 1, 1), (32, .ifCond .ne 51, 3), (35, .aload_n 2, 1), (36, .getfield 171, 3), (39, .aload_n 0, 1), (40, .getfield 12, 3), (43, .getfield 106, 3), (46, .iload 4, 2), (48, .iaload, 1), (49, .invokestatic 177, 3), (52, .ifCond .eq 27, 3), (55, .aload_n 2, 1), (56, .getfield 171, 3), (59, .aload_n 0, 1), (60, .getfield 12, 3), (63, .getfield 110, 3), (66, .iload 4, 2), (68, .iaload, 1), (69, .invokestatic 177, 3), (72, .ifCond .ne 7, 3), (75, .iconst 1, 1), (76, .goto 52, 3), (79, .iconst 0, 1)]
theorem D_cX11_cut_0 : dcs cX11_cut l_cX11_cut_0 := dcs_of (by decide +kernel)
def l_cX11_cut_1 : List (Nat × Instr × Nat) := [(80, .goto 48, 3), (83, .aload_n 2, 1), (84, .getfield 174, 3), (87, .aload_n 0, 1), (88, .getfield 12, 3), (91, .getfield 106, 3), (94, .iload 4, 2), (96, .iaload, 1), (97, .invokestatic 177, 3), (100, .ifCond .ne 27, 3), (103, .aload_n 2, 1), (104, .getfield 174, 3), (107, .aload_n 0, 1), (108, .getfield 12, 3), (111, .getfield 110, 3), (114, .iload 4, 2), (116, .iaload, 1), (117, .invokestatic 177, 3), (120, .ifCond .eq 7, 3), (123, .iconst 1, 1), (124, .goto 4, 3), (127, .iconst 0, 1), (128, .istore 5, 2), (130, .iload 5, 2), (132, .ifCond .eq 24, 3), (135, .aload_n 0, 1), (136, .getfield 12, 3), (139, .getfield 122, 3), (142, .iload 4, 2), (144, .iaload, 1), (145, .iconst 1, 1), (146, .if_icmp .ne 10, 3), (149, .iload_n 3, 1), (150, .iconst 1, 1), (151, .iload 4, 2), (153, .ishl, 1), (154, .ior, 1), (155, .istore_n 3, 1), (156, .iinc 4 1, 3), (159, .goto (-140), 3)]
theorem D_cX11_cut_1 : dcs cX11_cut l_cX11_cut_1 := dcs_of (by decide +kernel)
def l_cX11_cut_2 : List (Nat × Instr × Nat) := [(162, .iload_n 3, 1), (163, .ireturn, 1)]
theorem D_cX11_cut_2 : dcs cX11_cut l_cX11_cut_2 := dcs_of (by decide +kernel)
def l_cX11_wide_0 : List (Nat × Instr × Nat) := [(0, .aload_n 0, 1), (1, .invokevirtual 134, 3), (4, .astore_n 1, 1), (5, .iconst 0, 1), (6, .istore_n 2, 1), (7, .iconst 0, 1), (8, .istore_n 3, 1), (9, .iload_n 3, 1), (10, .aload_n 0, 1), (11, .getfield 12, 3), (14, .getfield 92, 3), (17, .if_icmp .ge 66, 3), (20, .aload_n 0, 1), (21, .getfield 12, 3), (24, .getfield 122, 3), (27, .iload_n 3, 1), (28, .iaload, 1), (29, .iconst 1, 1), (30, .if_icmp .ne 47, 3), (33, .aload_n 1, 1), (34, .getfield 171, 3), (37, .aload_n 0, 1), (38, .getfield 12, 3), (41, .getfield 106, 3), (44, .iload_n 3, 1), (45, .iaload, 1), (46, .invokestatic 177, 3), (49, .ifCond .eq 28, 3), (52, .aload_n 1, 1), (53, .getfield 174, 3), (56, .aload_n 0, 1), (57, .getfield 12, 3), (60, .getfield 110, 3), (63, .iload_n 3, 1), (64, .iaload, 1), (65, .invokestatic 177, 3), (68, .ifCond .eq 9, 3), (71, .iload_n 2, 1), (72, .iconst 1, 1), (73, .iload_n 3, 1)]
theorem D_cX11_wide_0 : dcs cX11_wide l_cX11_wide_0 := dcs_of (by decide +kernel)
def l_cX11_wide_1 : List (Nat × Instr × Nat) := [(74, .ishl, 1), (75, .ior, 1), (76, .istore_n 2, 1), (77, .iinc 3 1, 3), (80, .goto (-71), 3), (83, .iload_n 2, 1), (84, .ireturn, 1)]
theorem D_cX11_wide_1 : dcs cX11_wide l_cX11_wide_1 := dcs_of (by decide +kernel)
def l_cX11_narrow_0 : List (Nat × Instr × Nat) := [(0, .aload_n 0, 1), (1, .invokevirtual 134, 3), (4, .astore_n 1, 1), (5, .iconst 0, 1), (6, .istore_n 2, 1), (7, .iconst 0, 1), (8, .istore_n 3, 1), (9, .iload_n 3, 1), (10, .aload_n 0, 1), (11, .getfield 12, 3), (14, .getfield 92, 3), (17, .if_icmp .ge 85, 3), (20, .aload_n 1, 1), (21, .getfield 141, 3), (24, .iload_n 3, 1), (25, .iaload, 1), (26, .ifCond .le 24, 3), (29, .aload_n 1, 1), (30, .getfield 141, 3), (33, .iload_n 3, 1), (34, .iaload, 1), (35, .aload_n 0, 1), (36, .getfield 12, 3), (39, .iload_n 3, 1), (40, .invokevirtual 181, 3), (43, .if_icmp .ne 7, 3), (46, .iconst 1, 1), (47, .goto 4, 3), (50, .iconst 0, 1), (51, .istore 4, 2), (53, .iload 4, 2), (55, .ifCond .eq 41, 3), (58, .aload_n 1, 1), (59, .aload_n 0, 1), (60, .getfield 12, 3), (63, .aload_n 0, 1), (64, .getfield 12, 3), (67, .getfield 106, 3), (70, .iload_n 3, 1), (71, .iaload, 1)]
theorem D_cX11_narrow_0 : dcs cX11_narrow l_cX11_narrow_0 := dcs_of (by decide +kernel)
def l_cX11_narrow_1 : List (Nat × Instr × Nat) := [(72, .invokevirtual 185, 3), (75, .aload_n 0, 1), (76, .getfield 12, 3), (79, .getfield 110, 3), (82, .iload_n 3, 1), (83, .iaload, 1), (84, .invokestatic 177, 3), (87, .ifCond .ne 9, 3), (90, .iload_n 2, 1), (91, .iconst 1, 1), (92, .iload_n 3, 1), (93, .ishl, 1), (94, .ior, 1), (95, .istore_n 2, 1), (96, .iinc 3 1, 3), (99, .goto (-90), 3), (102, .iload_n 2, 1), (103, .ireturn, 1)]
theorem D_cX11_narrow_1 : dcs cX11_narrow l_cX11_narrow_1 := dcs_of (by decide +kernel)
def l_cX11_more_0 : List (Nat × Instr × Nat) := [(0, .aload_n 0, 1), (1, .getfield 12, 3), (4, .iload_n 1, 1), (5, .invokevirtual 103, 3), (8, .ifCond .ne 5, 3), (11, .iconst (-1), 1), (12, .ireturn, 1), (13, .iload_n 2, 1), (14, .ifCond .lt 10, 3), (17, .iload_n 2, 1), (18, .sipush 999, 3), (21, .if_icmp .le 6, 3), (24, .bipush (-2), 2), (26, .ireturn, 1), (27, .aload_n 0, 1), (28, .getfield 12, 3), (31, .getfield 122, 3), (34, .iload_n 1, 1), (35, .iaload, 1), (36, .ifCond .ne 6, 3), (39, .bipush (-3), 2), (41, .ireturn, 1), (42, .aload_n 0, 1), (43, .getfield 43, 3), (46, .aload_n 0, 1), (47, .getfield 12, 3), (50, .iconst 0, 1), (51, .iload_n 1, 1), (52, .iload_n 2, 1), (53, .invokevirtual 189, 3), (56, .aload_n 0, 1), (57, .invokevirtual 134, 3), (60, .getfield 138, 3), (63, .isub, 1), (64, .ireturn, 1)]
theorem D_cX11_more_0 : dcs cX11_more l_cX11_more_0 := dcs_of (by decide +kernel)
def l_cX11_loss_0 : List (Nat × Instr × Nat) := [(0, .iload_n 1, 1), (1, .ifCond .lt 17, 3), (4, .iload_n 1, 1), (5, .aload_n 0, 1), (6, .getfield 12, 3), (9, .invokevirtual 193, 3), (12, .iconst (-1), 1), (13, .ixor, 1), (14, .iand, 1), (15, .ifCond .eq 6, 3), (18, .bipush (-2), 2), (20, .ireturn, 1), (21, .aload_n 0, 1), (22, .invokevirtual 134, 3), (25, .getfield 138, 3), (28, .aload_n 0, 1), (29, .getfield 43, 3), (32, .aload_n 0, 1), (33, .getfield 12, 3), (36, .iload_n 1, 1), (37, .iconst (-1), 1), (38, .iconst 0, 1), (39, .invokevirtual 189, 3), (42, .isub, 1), (43, .ireturn, 1)]
theorem D_cX11_loss_0 : dcs cX11_loss l_cX11_loss_0 := dcs_of (by decide +kernel)
def l_cX11_worst_0 : List (Nat × Instr × Nat) := [(0, .iload_n 1, 1), (1, .ifCond .lt 8, 3), (4, .iload_n 1, 1), (5, .iconst 3, 1), (6, .if_icmp .le 5, 3), (9, .iconst (-1), 1), (10, .ireturn, 1), (11, .aload_n 0, 1), (12, .getfield 12, 3), (15, .getfield 92, 3), (18, .iload_n 1, 1), (19, .iconst 2, 1), (20, .if_icmp .ge 7, 3), (23, .iconst 1, 1), (24, .goto 4, 3), (27, .iconst 2, 1), (28, .if_icmp .ge 6, 3), (31, .bipush (-5), 2), (33, .ireturn, 1), (34, .aload_n 0, 1), (35, .invokevirtual 197, 3), (38, .astore_n 2, 1), (39, .iload_n 1, 1), (40, .tableswitch 43 0 2 #[28, 33, 38], 28), (68, .aload_n 2, 1), (69, .getfield 201, 3), (72, .ireturn, 1), (73, .aload_n 2, 1), (74, .getfield 204, 3), (77, .ireturn, 1), (78, .aload_n 2, 1), (79, .getfield 207, 3), (82, .ireturn, 1), (83, .aload_n 2, 1), (84, .getfield 210, 3), (87, .ireturn, 1)]
theorem D_cX11_worst_0 : dcs cX11_worst l_cX11_worst_0 := dcs_of (by decide +kernel)
def l_cX11_lines_0 : List (Nat × Instr × Nat) := [(0, .aload_n 0, 1), (1, .invokevirtual 213, 3), (4, .astore_n 3, 1), (5, .iload_n 1, 1), (6, .iconst (-1), 1), (7, .if_icmp .ne 8, 3), (10, .aload_n 3, 1), (11, .getfield 217, 3), (14, .ireturn, 1), (15, .iload_n 1, 1), (16, .ifCond .lt 11, 3), (19, .iload_n 1, 1), (20, .aload_n 3, 1), (21, .getfield 217, 3), (24, .if_icmp .lt 5, 3), (27, .iconst (-1), 1), (28, .ireturn, 1), (29, .iload_n 2, 1), (30, .tableswitch 47 0 2 #[26, 33, 40], 26), (56, .aload_n 3, 1), (57, .getfield 218, 3), (60, .iload_n 1, 1), (61, .iaload, 1), (62, .ireturn, 1), (63, .aload_n 3, 1), (64, .getfield 219, 3), (67, .iload_n 1, 1), (68, .iaload, 1), (69, .ireturn, 1), (70, .aload_n 3, 1), (71, .getfield 220, 3), (74, .iload_n 1, 1), (75, .iaload, 1), (76, .ireturn, 1), (77, .iload_n 2, 1), (78, .bipush 10, 2), (80, .if_icmp .lt 33, 3), (83, .iload_n 2, 1), (84, .bipush 10, 2), (86, .isub, 1)]
theorem D_cX11_lines_0 : dcs cX11_lines l_cX11_lines_0 := dcs_of (by decide +kernel)
def l_cX11_lines_1 : List (Nat × Instr × Nat) := [(87, .aload_n 3, 1), (88, .getfield 219, 3), (91, .iload_n 1, 1), (92, .iaload, 1), (93, .if_icmp .ge 20, 3), (96, .aload_n 3, 1), (97, .getfield 223, 3), (100, .iload_n 1, 1), (101, .bipush 12, 2), (103, .imul, 1), (104, .iload_n 2, 1), (105, .iadd, 1), (106, .bipush 10, 2), (108, .isub, 1), (109, .iaload, 1), (110, .goto 4, 3), (113, .iconst (-1), 1), (114, .ireturn, 1)]
theorem D_cX11_lines_1 : dcs cX11_lines l_cX11_lines_1 := dcs_of (by decide +kernel)
def l_cX11_bound_0 : List (Nat × Instr × Nat) := [(0, .iload_n 1, 1), (1, .invokestatic 125, 3), (4, .ifCond .eq 26, 3), (7, .aload_n 0, 1), (8, .getfield 43, 3), (11, .aload_n 0, 1), (12, .getfield 12, 3), (15, .iload_n 1, 1), (16, .ifCond .ne 7, 3), (19, .iconst 1, 1), (20, .goto 4, 3), (23, .iconst 0, 1), (24, .invokevirtual 226, 3), (27, .goto 4, 3), (30, .iconst (-1), 1), (31, .ireturn, 1)]
theorem D_cX11_bound_0 : dcs cX11_bound l_cX11_bound_0 := dcs_of (by decide +kernel)
def l_cX11_apart_0 : List (Nat × Instr × Nat) := [(0, .iload_n 1, 1), (1, .invokestatic 125, 3), (4, .ifCond .eq 27, 3), (7, .aload_n 0, 1), (8, .getfield 43, 3), (11, .aload_n 0, 1), (12, .getfield 12, 3), (15, .iload_n 1, 1), (16, .iconst 1, 1), (17, .if_icmp .ne 7, 3), (20, .iconst 1, 1), (21, .goto 4, 3), (24, .iconst 0, 1), (25, .invokevirtual 230, 3), (28, .goto 4, 3), (31, .iconst (-1), 1), (32, .ireturn, 1)]
theorem D_cX11_apart_0 : dcs cX11_apart l_cX11_apart_0 := dcs_of (by decide +kernel)
def l_cX11_hours_0 : List (Nat × Instr × Nat) := [(0, .iload_n 1, 1), (1, .iconst 1, 1), (2, .if_icmp .lt 24, 3), (5, .iload_n 1, 1), (6, .bipush 8, 2), (8, .if_icmp .gt 18, 3), (11, .aload_n 0, 1), (12, .getfield 43, 3), (15, .aload_n 0, 1), (16, .getfield 12, 3), (19, .iload_n 1, 1), (20, .invokevirtual 233, 3), (23, .goto 5, 3), (26, .bipush (-2), 2), (28, .ireturn, 1)]
theorem D_cX11_hours_0 : dcs cX11_hours l_cX11_hours_0 := dcs_of (by decide +kernel)
def l_cX11_two_0 : List (Nat × Instr × Nat) := [(0, .iconst 0, 1), (1, .istore_n 3, 1), (2, .iconst 0, 1), (3, .istore 4, 2), (5, .iload 4, 2), (7, .aload_n 0, 1), (8, .getfield 12, 3), (11, .getfield 92, 3), (14, .if_icmp .ge 37, 3), (17, .aload_n 0, 1), (18, .getfield 12, 3), (21, .iload 4, 2), (23, .invokevirtual 236, 3), (26, .ifCond .eq 19, 3), (29, .iload_n 3, 1), (30, .iload_n 1, 1), (31, .if_icmp .ne 11, 3), (34, .aload_n 0, 1), (35, .iload 4, 2), (37, .iload_n 2, 1), (38, .invokevirtual 239, 3), (41, .ireturn, 1), (42, .iinc 3 1, 3), (45, .iinc 4 1, 3), (48, .goto (-43), 3), (51, .iload_n 1, 1), (52, .iconst (-1), 1), (53, .if_icmp .ne 7, 3), (56, .iload_n 3, 1), (57, .goto 4, 3), (60, .iconst (-1), 1), (61, .ireturn, 1)]
theorem D_cX11_two_0 : dcs cX11_two l_cX11_two_0 := dcs_of (by decide +kernel)
def l_cX11_ofTwo_0 : List (Nat × Instr × Nat) := [(0, .iload_n 2, 1), (1, .tableswitch 69 0 3 #[31, 41, 51, 60], 31), (32, .aload_n 0, 1), (33, .getfield 12, 3), (36, .getfield 106, 3), (39, .iload_n 1, 1), (40, .iaload, 1), (41, .ireturn, 1), (42, .aload_n 0, 1), (43, .getfield 12, 3), (46, .getfield 110, 3), (49, .iload_n 1, 1), (50, .iaload, 1), (51, .ireturn, 1), (52, .aload_n 0, 1), (53, .getfield 12, 3), (56, .iload_n 1, 1), (57, .invokevirtual 243, 3), (60, .ireturn, 1), (61, .aload_n 0, 1), (62, .getfield 12, 3), (65, .iload_n 1, 1), (66, .invokevirtual 246, 3), (69, .ireturn, 1), (70, .iconst (-1), 1), (71, .ireturn, 1)]
theorem D_cX11_ofTwo_0 : dcs cX11_ofTwo l_cX11_ofTwo_0 := dcs_of (by decide +kernel)
def l_cX11_reach_0 : List (Nat × Instr × Nat) := [(0, .iload_n 1, 1), (1, .invokestatic 82, 3), (4, .ifCond .ne 5, 3), (7, .iconst (-1), 1), (8, .ireturn, 1), (9, .iload_n 2, 1), (10, .ifCond .lt 25, 3), (13, .iload_n 2, 1), (14, .bipush 20, 2), (16, .if_icmp .gt 19, 3), (19, .aload_n 0, 1), (20, .getfield 43, 3), (23, .aload_n 0, 1), (24, .getfield 12, 3), (27, .iload_n 1, 1), (28, .iload_n 2, 1), (29, .invokevirtual 249, 3), (32, .goto 5, 3), (35, .bipush (-2), 2), (37, .ireturn, 1)]
theorem D_cX11_reach_0 : dcs cX11_reach l_cX11_reach_0 := dcs_of (by decide +kernel)
def l_cX11_feed_0 : List (Nat × Instr × Nat) := [(0, .iload_n 1, 1), (1, .iconst 1, 1), (2, .if_icmp .lt 9, 3), (5, .iload_n 1, 1), (6, .bipush 127, 2), (8, .if_icmp .le 6, 3), (11, .bipush (-2), 2), (13, .ireturn, 1), (14, .aload_n 0, 1), (15, .getfield 57, 3), (18, .iload_n 1, 1), (19, .invokevirtual 253, 3), (22, .ifCond .eq 13, 3), (25, .aload_n 0, 1), (26, .getfield 57, 3), (29, .getfield 255, 3), (32, .goto 5, 3), (35, .bipush (-4), 2), (37, .ireturn, 1)]
theorem D_cX11_feed_0 : dcs cX11_feed l_cX11_feed_0 := dcs_of (by decide +kernel)
def l_cX11_clear_0 : List (Nat × Instr × Nat) := [(0, .aload_n 0, 1), (1, .getfield 57, 3), (4, .getfield 255, 3), (7, .istore_n 1, 1), (8, .aload_n 0, 1), (9, .getfield 57, 3), (12, .iconst 0, 1), (13, .putfield 255, 3), (16, .iload_n 1, 1), (17, .ireturn, 1)]
theorem D_cX11_clear_0 : dcs cX11_clear l_cX11_clear_0 := dcs_of (by decide +kernel)
def l_cX11_read_0 : List (Nat × Instr × Nat) := [(0, .aload_n 0, 1), (1, .getfield 12, 3), (4, .getfield 92, 3), (7, .istore_n 1, 1), (8, .aload_n 0, 1), (9, .getfield 57, 3), (12, .invokevirtual 258, 3), (15, .aload_n 0, 1), (16, .getfield 57, 3), (19, .aload_n 0, 1), (20, .getfield 12, 3), (23, .invokestatic 261, 3), (26, .aload_n 0, 1), (27, .getfield 57, 3), (30, .iconst 0, 1), (31, .putfield 255, 3), (34, .aload_n 0, 1), (35, .getfield 57, 3), (38, .getfield 265, 3), (41, .ifCond .lt 22, 3), (44, .aload_n 0, 1), (45, .getfield 12, 3), (48, .iload_n 1, 1), (49, .putfield 92, 3), (52, .bipush (-100), 2), (54, .aload_n 0, 1), (55, .getfield 57, 3), (58, .getfield 265, 3), (61, .isub, 1), (62, .ireturn, 1), (63, .aload_n 0, 1), (64, .invokevirtual 96, 3), (67, .aload_n 0, 1), (68, .getfield 12, 3), (71, .getfield 92, 3), (74, .iload_n 1, 1), (75, .isub, 1), (76, .ireturn, 1)]
theorem D_cX11_read_0 : dcs cX11_read l_cX11_read_0 := dcs_of (by decide +kernel)
def l_cX11_pick_0 : List (Nat × Instr × Nat) := [(0, .aload_n 0, 1), (1, .invokevirtual 268, 3), (4, .istore_n 1, 1), (5, .aload_n 0, 1), (6, .getfield 57, 3), (9, .getfield 265, 3), (12, .ifCond .lt 16, 3), (15, .bipush (-100), 2), (17, .aload_n 0, 1), (18, .getfield 57, 3), (21, .getfield 265, 3), (24, .isub, 1), (25, .goto 4, 3), (28, .iload_n 1, 1), (29, .ireturn, 1)]
theorem D_cX11_pick_0 : dcs cX11_pick l_cX11_pick_0 := dcs_of (by decide +kernel)
def l_cX11_many_0 : List (Nat × Instr × Nat) := [(0, .aload_n 0, 1), (1, .invokevirtual 268, 3), (4, .istore_n 1, 1), (5, .aload_n 0, 1), (6, .getfield 57, 3), (9, .getfield 265, 3), (12, .ifCond .lt 16, 3), (15, .bipush (-100), 2), (17, .aload_n 0, 1), (18, .getfield 57, 3), (21, .getfield 265, 3), (24, .isub, 1), (25, .goto 7, 3), (28, .iload_n 1, 1), (29, .invokestatic 271, 3), (32, .ireturn, 1)]
theorem D_cX11_many_0 : dcs cX11_many l_cX11_many_0 := dcs_of (by decide +kernel)
def l_cX11_shutAll_0 : List (Nat × Instr × Nat) := [(0, .iload_n 1, 1), (1, .invokestatic 125, 3), (4, .ifCond .ne 5, 3), (7, .iconst (-1), 1), (8, .ireturn, 1), (9, .aload_n 0, 1), (10, .invokevirtual 268, 3), (13, .istore_n 2, 1), (14, .aload_n 0, 1), (15, .getfield 57, 3), (18, .getfield 265, 3), (21, .ifCond .lt 14, 3), (24, .bipush (-100), 2), (26, .aload_n 0, 1), (27, .getfield 57, 3), (30, .getfield 265, 3), (33, .isub, 1), (34, .ireturn, 1), (35, .iconst 0, 1), (36, .istore_n 3, 1), (37, .iconst 0, 1), (38, .istore 4, 2), (40, .iload 4, 2), (42, .aload_n 0, 1), (43, .getfield 12, 3), (46, .getfield 92, 3), (49, .if_icmp .ge 46, 3), (52, .iload_n 2, 1), (53, .iload 4, 2), (55, .invokestatic 177, 3), (58, .ifCond .eq 31, 3), (61, .aload_n 0, 1), (62, .getfield 12, 3), (65, .getfield 122, 3), (68, .iload 4, 2), (70, .iaload, 1), (71, .iload_n 1, 1), (72, .if_icmp .eq 17, 3), (75, .aload_n 0, 1), (76, .getfield 12, 3)]
theorem D_cX11_shutAll_0 : dcs cX11_shutAll l_cX11_shutAll_0 := dcs_of (by decide +kernel)
def l_cX11_shutAll_1 : List (Nat × Instr × Nat) := [(79, .getfield 122, 3), (82, .iload 4, 2), (84, .iload_n 1, 1), (85, .iastore, 1), (86, .iinc 3 1, 3), (89, .iinc 4 1, 3), (92, .goto (-52), 3), (95, .aload_n 0, 1), (96, .invokevirtual 96, 3), (99, .iload_n 3, 1), (100, .ireturn, 1)]
theorem D_cX11_shutAll_1 : dcs cX11_shutAll l_cX11_shutAll_1 := dcs_of (by decide +kernel)
def l_cX11_spell_0 : List (Nat × Instr × Nat) := [(0, .aload_n 0, 1), (1, .getfield 71, 3), (4, .aload_n 0, 1), (5, .getfield 12, 3), (8, .invokevirtual 276, 3), (11, .aload_n 0, 1), (12, .getfield 71, 3), (15, .getfield 280, 3), (18, .ireturn, 1)]
theorem D_cX11_spell_0 : dcs cX11_spell l_cX11_spell_0 := dcs_of (by decide +kernel)
def l_cX11_paper_0 : List (Nat × Instr × Nat) := [(0, .iload_n 1, 1), (1, .ifCond .lt 26, 3), (4, .iload_n 1, 1), (5, .aload_n 0, 1), (6, .getfield 71, 3), (9, .getfield 280, 3), (12, .if_icmp .ge 15, 3), (15, .aload_n 0, 1), (16, .getfield 71, 3), (19, .getfield 283, 3), (22, .iload_n 1, 1), (23, .baload, 1), (24, .goto 4, 3), (27, .iconst (-1), 1), (28, .ireturn, 1)]
theorem D_cX11_paper_0 : dcs cX11_paper l_cX11_paper_0 := dcs_of (by decide +kernel)
def l_cX11_told_0 : List (Nat × Instr × Nat) := [(0, .iload_n 1, 1), (1, .tableswitch 169 0 10 #[59, 67, 75, 83, 91, 106, 121, 129, 137, 145, 161], 59), (60, .aload_n 0, 1), (61, .getfield 12, 3), (64, .getfield 92, 3), (67, .ireturn, 1), (68, .aload_n 0, 1), (69, .getfield 12, 3), (72, .invokevirtual 287, 3), (75, .ireturn, 1), (76, .aload_n 0, 1), (77, .getfield 12, 3), (80, .getfield 128, 3), (83, .ireturn, 1), (84, .aload_n 0, 1), (85, .getfield 12, 3), (88, .getfield 131, 3), (91, .ireturn, 1), (92, .aload_n 0, 1), (93, .getfield 12, 3), (96, .aload_n 0, 1), (97, .getfield 12, 3), (100, .getfield 128, 3), (103, .invokevirtual 290, 3), (106, .ireturn, 1), (107, .aload_n 0, 1), (108, .getfield 12, 3), (111, .aload_n 0, 1), (112, .getfield 12, 3), (115, .getfield 131, 3), (118, .invokevirtual 293, 3), (121, .ireturn, 1), (122, .aload_n 0, 1), (123, .getfield 57, 3), (126, .getfield 255, 3), (129, .ireturn, 1), (130, .aload_n 0, 1), (131, .getfield 71, 3), (134, .getfield 280, 3), (137, .ireturn, 1)]
theorem D_cX11_told_0 : dcs cX11_told l_cX11_told_0 := dcs_of (by decide +kernel)
def l_cX11_told_1 : List (Nat × Instr × Nat) := [(138, .aload_n 0, 1), (139, .invokevirtual 134, 3), (142, .getfield 144, 3), (145, .ireturn, 1), (146, .aload_n 0, 1), (147, .invokevirtual 213, 3), (150, .getfield 217, 3), (153, .aload_n 0, 1), (154, .invokevirtual 213, 3), (157, .getfield 296, 3), (160, .isub, 1), (161, .ireturn, 1), (162, .aload_n 0, 1), (163, .invokevirtual 213, 3), (166, .getfield 296, 3), (169, .ireturn, 1), (170, .iconst (-1), 1), (171, .ireturn, 1)]
theorem D_cX11_told_1 : dcs cX11_told l_cX11_told_1 := dcs_of (by decide +kernel)
def l_cX11_list_0 : List (Nat × Instr × Nat) := [(0, .iload_n 1, 1), (1, .invokestatic 299, 3), (4, .ifCond .ne 5, 3), (7, .iconst (-1), 1), (8, .ireturn, 1), (9, .iload_n 2, 1), (10, .bipush 40, 2), (12, .if_icmp .le 6, 3), (15, .bipush (-2), 2), (17, .ireturn, 1), (18, .iload_n 2, 1), (19, .ifCond .ge 6, 3), (22, .bipush (-14), 2), (24, .ireturn, 1), (25, .aload_n 0, 1), (26, .getfield 78, 3), (29, .iload_n 1, 1), (30, .iload_n 2, 1), (31, .invokevirtual 302, 3), (34, .iconst 1, 1), (35, .ireturn, 1)]
theorem D_cX11_list_0 : dcs cX11_list l_cX11_list_0 := dcs_of (by decide +kernel)
def l_cX11_set_0 : List (Nat × Instr × Nat) := [(0, .iload_n 1, 1), (1, .invokestatic 299, 3), (4, .ifCond .ne 5, 3), (7, .iconst (-1), 1), (8, .ireturn, 1), (9, .aload_n 0, 1), (10, .getfield 78, 3), (13, .iload_n 1, 1), (14, .invokevirtual 306, 3), (17, .ifCond .ne 6, 3), (20, .bipush (-11), 2), (22, .ireturn, 1), (23, .aload_n 0, 1), (24, .getfield 78, 3), (27, .iload_n 1, 1), (28, .iload_n 2, 1), (29, .invokevirtual 309, 3), (32, .ifCond .ne 6, 3), (35, .bipush (-13), 2), (37, .ireturn, 1), (38, .aload_n 0, 1), (39, .getfield 78, 3), (42, .iload_n 1, 1), (43, .iload_n 2, 1), (44, .iload_n 3, 1), (45, .invokevirtual 312, 3), (48, .iconst 1, 1), (49, .ireturn, 1)]
theorem D_cX11_set_0 : dcs cX11_set l_cX11_set_0 := dcs_of (by decide +kernel)
def l_cX11_get_0 : List (Nat × Instr × Nat) := [(0, .iload_n 1, 1), (1, .invokestatic 299, 3), (4, .ifCond .eq 27, 3), (7, .aload_n 0, 1), (8, .getfield 78, 3), (11, .iload_n 1, 1), (12, .iload_n 2, 1), (13, .invokevirtual 309, 3), (16, .ifCond .eq 15, 3), (19, .aload_n 0, 1), (20, .getfield 78, 3), (23, .iload_n 1, 1), (24, .iload_n 2, 1), (25, .invokevirtual 316, 3), (28, .goto 6, 3), (31, .ldc_w 318, 3), (34, .ireturn, 1)]
theorem D_cX11_get_0 : dcs cX11_get l_cX11_get_0 := dcs_of (by decide +kernel)
def l_cX11_lay_0 : List (Nat × Instr × Nat) := [(0, .iload_n 1, 1), (1, .invokestatic 299, 3), (4, .ifCond .eq 10, 3), (7, .iload_n 3, 1), (8, .invokestatic 125, 3), (11, .ifCond .ne 5, 3), (14, .iconst (-1), 1), (15, .ireturn, 1), (16, .aload_n 0, 1), (17, .getfield 78, 3), (20, .iload_n 1, 1), (21, .invokevirtual 306, 3), (24, .ifCond .ne 6, 3), (27, .bipush (-11), 2), (29, .ireturn, 1), (30, .iload_n 3, 1), (31, .ifCond .ne 13, 3), (34, .aload_n 0, 1), (35, .invokevirtual 134, 3), (38, .getfield 141, 3), (41, .goto 10, 3), (44, .aload_n 0, 1), (45, .invokevirtual 154, 3), (48, .getfield 158, 3), (51, .astore 4, 2), (53, .iconst 0, 1), (54, .istore 5, 2), (56, .iload 5, 2), (58, .aload_n 0, 1), (59, .getfield 12, 3), (62, .getfield 92, 3), (65, .if_icmp .ge 44, 3), (68, .aload_n 0, 1), (69, .getfield 78, 3), (72, .iload_n 1, 1), (73, .iload_n 2, 1), (74, .iload 5, 2), (76, .iadd, 1), (77, .invokevirtual 309, 3), (80, .ifCond .ne 6, 3)]
theorem D_cX11_lay_0 : dcs cX11_lay l_cX11_lay_0 := dcs_of (by decide +kernel)
def l_cX11_lay_1 : List (Nat × Instr × Nat) := [(83, .bipush (-13), 2), (85, .ireturn, 1), (86, .aload_n 0, 1), (87, .getfield 78, 3), (90, .iload_n 1, 1), (91, .iload_n 2, 1), (92, .iload 5, 2), (94, .iadd, 1), (95, .aload 4, 2), (97, .iload 5, 2), (99, .iaload, 1), (100, .invokevirtual 312, 3), (103, .iinc 5 1, 3), (106, .goto (-50), 3), (109, .aload_n 0, 1), (110, .getfield 12, 3), (113, .getfield 92, 3), (116, .ireturn, 1)]
theorem D_cX11_lay_1 : dcs cX11_lay l_cX11_lay_1 := dcs_of (by decide +kernel)
def l_cX11_judge_0 : List (Nat × Instr × Nat) := [(0, .iload_n 1, 1), (1, .invokestatic 299, 3), (4, .ifCond .ne 5, 3), (7, .iconst (-1), 1), (8, .ireturn, 1), (9, .aload_n 0, 1), (10, .getfield 78, 3), (13, .iload_n 1, 1), (14, .invokevirtual 306, 3), (17, .ifCond .ne 6, 3), (20, .bipush (-11), 2), (22, .ireturn, 1), (23, .iload_n 2, 1), (24, .ifCond .ge 8, 3), (27, .bipush (-13), 2), (29, .goto 16, 3), (32, .aload_n 0, 1), (33, .getfield 78, 3), (36, .iload_n 1, 1), (37, .iload_n 2, 1), (38, .aload_n 0, 1), (39, .getfield 12, 3), (42, .invokevirtual 319, 3), (45, .ireturn, 1)]
theorem D_cX11_judge_0 : dcs cX11_judge l_cX11_judge_0 := dcs_of (by decide +kernel)
def l_cX11_image_0 : List (Nat × Instr × Nat) := [(0, .aload_n 0, 1), (1, .getfield 16, 3), (4, .aload_n 0, 1), (5, .getfield 12, 3), (8, .invokevirtual 323, 3), (11, .aload_n 0, 1), (12, .iconst 1, 1), (13, .putfield 326, 3), (16, .aload_n 0, 1), (17, .getfield 12, 3), (20, .getfield 92, 3), (23, .ireturn, 1)]
theorem D_cX11_image_0 : dcs cX11_image l_cX11_image_0 := dcs_of (by decide +kernel)
def l_cX11_undo_0 : List (Nat × Instr × Nat) := [(0, .aload_n 0, 1), (1, .getfield 326, 3), (4, .ifCond .ne 6, 3), (7, .bipush (-3), 2), (9, .ireturn, 1), (10, .aload_n 0, 1), (11, .getfield 12, 3), (14, .aload_n 0, 1), (15, .getfield 16, 3), (18, .invokevirtual 323, 3), (21, .aload_n 0, 1), (22, .invokevirtual 96, 3), (25, .aload_n 0, 1), (26, .getfield 12, 3), (29, .getfield 92, 3), (32, .ireturn, 1)]
theorem D_cX11_undo_0 : dcs cX11_undo l_cX11_undo_0 := dcs_of (by decide +kernel)
def l_cX11_forget_0 : List (Nat × Instr × Nat) := [(0, .aload_n 0, 1), (1, .iconst 0, 1), (2, .putfield 330, 3), (5, .aload_n 0, 1), (6, .iconst 0, 1), (7, .putfield 333, 3), (10, .aload_n 0, 1), (11, .iconst 0, 1), (12, .putfield 336, 3), (15, .aload_n 0, 1), (16, .iconst 0, 1), (17, .putfield 339, 3), (20, .return_, 1)]
theorem D_cX11_forget_0 : dcs cX11_forget l_cX11_forget_0 := dcs_of (by decide +kernel)
def l_cX11_freshWays_0 : List (Nat × Instr × Nat) := [(0, .aload_n 0, 1), (1, .getfield 330, 3), (4, .ifCond .ne 19, 3), (7, .aload_n 0, 1), (8, .getfield 22, 3), (11, .aload_n 0, 1), (12, .getfield 12, 3), (15, .invokevirtual 342, 3), (18, .aload_n 0, 1), (19, .iconst 1, 1), (20, .putfield 330, 3), (23, .aload_n 0, 1), (24, .getfield 22, 3), (27, .areturn, 1)]
theorem D_cX11_freshWays_0 : dcs cX11_freshWays l_cX11_freshWays_0 := dcs_of (by decide +kernel)
def l_cX11_freshHeights_0 : List (Nat × Instr × Nat) := [(0, .aload_n 0, 1), (1, .getfield 333, 3), (4, .ifCond .ne 19, 3), (7, .aload_n 0, 1), (8, .getfield 29, 3), (11, .aload_n 0, 1), (12, .getfield 12, 3), (15, .invokevirtual 345, 3), (18, .aload_n 0, 1), (19, .iconst 1, 1), (20, .putfield 333, 3), (23, .aload_n 0, 1), (24, .getfield 29, 3), (27, .areturn, 1)]
theorem D_cX11_freshHeights_0 : dcs cX11_freshHeights l_cX11_freshHeights_0 := dcs_of (by decide +kernel)
def l_cX11_freshStrands_0 : List (Nat × Instr × Nat) := [(0, .aload_n 0, 1), (1, .getfield 336, 3), (4, .ifCond .ne 26, 3), (7, .aload_n 0, 1), (8, .getfield 36, 3), (11, .aload_n 0, 1), (12, .getfield 12, 3), (15, .aload_n 0, 1), (16, .invokevirtual 134, 3), (19, .getfield 141, 3), (22, .invokevirtual 346, 3), (25, .aload_n 0, 1), (26, .iconst 1, 1), (27, .putfield 336, 3), (30, .aload_n 0, 1), (31, .getfield 36, 3), (34, .areturn, 1)]
theorem D_cX11_freshStrands_0 : dcs cX11_freshStrands l_cX11_freshStrands_0 := dcs_of (by decide +kernel)
def l_cX11_freshWorst_0 : List (Nat × Instr × Nat) := [(0, .aload_n 0, 1), (1, .getfield 339, 3), (4, .ifCond .ne 27, 3), (7, .aload_n 0, 1), (8, .getfield 50, 3), (11, .aload_n 0, 1), (12, .getfield 12, 3), (15, .aload_n 0, 1), (16, .invokevirtual 134, 3), (19, .aload_n 0, 1), (20, .getfield 43, 3), (23, .invokevirtual 349, 3), (26, .aload_n 0, 1), (27, .iconst 1, 1), (28, .putfield 339, 3), (31, .aload_n 0, 1), (32, .getfield 50, 3), (35, .areturn, 1)]
theorem D_cX11_freshWorst_0 : dcs cX11_freshWorst l_cX11_freshWorst_0 := dcs_of (by decide +kernel)
def l_cX11_takeCondition_0 : List (Nat × Instr × Nat) := [(0, .aload_n 0, 1), (1, .getfield 57, 3), (4, .invokevirtual 258, 3), (7, .aload_n 0, 1), (8, .getfield 64, 3), (11, .aload_n 0, 1), (12, .getfield 57, 3), (15, .aload_n 0, 1), (16, .getfield 12, 3), (19, .aload_n 0, 1), (20, .invokevirtual 134, 3), (23, .getfield 141, 3), (26, .invokevirtual 352, 3), (29, .istore_n 1, 1), (30, .aload_n 0, 1), (31, .getfield 57, 3), (34, .iconst 0, 1), (35, .putfield 255, 3), (38, .iload_n 1, 1), (39, .ireturn, 1)]
theorem D_cX11_takeCondition_0 : dcs cX11_takeCondition l_cX11_takeCondition_0 := dcs_of (by decide +kernel)
def l_cX11_isNode_0 : List (Nat × Instr × Nat) := [(0, .iload_n 0, 1), (1, .ifCond .lt 13, 3), (4, .iload_n 0, 1), (5, .bipush 12, 2), (7, .if_icmp .ge 7, 3), (10, .iconst 1, 1), (11, .goto 4, 3), (14, .iconst 0, 1), (15, .ireturn, 1)]
theorem D_cX11_isNode_0 : dcs cX11_isNode l_cX11_isNode_0 := dcs_of (by decide +kernel)
def l_cX11_isCapacity_0 : List (Nat × Instr × Nat) := [(0, .iload_n 0, 1), (1, .ifCond .lt 14, 3), (4, .iload_n 0, 1), (5, .sipush 999, 3), (8, .if_icmp .gt 7, 3), (11, .iconst 1, 1), (12, .goto 4, 3), (15, .iconst 0, 1), (16, .ireturn, 1)]
theorem D_cX11_isCapacity_0 : dcs cX11_isCapacity l_cX11_isCapacity_0 := dcs_of (by decide +kernel)
def l_cX11_isDelay_0 : List (Nat × Instr × Nat) := [(0, .iload_n 0, 1), (1, .iconst 1, 1), (2, .if_icmp .lt 12, 3), (5, .iload_n 0, 1), (6, .iconst 3, 1), (7, .if_icmp .gt 7, 3), (10, .iconst 1, 1), (11, .goto 4, 3), (14, .iconst 0, 1), (15, .ireturn, 1)]
theorem D_cX11_isDelay_0 : dcs cX11_isDelay l_cX11_isDelay_0 := dcs_of (by decide +kernel)
def l_cX11_isOneOrZero_0 : List (Nat × Instr × Nat) := [(0, .iload_n 0, 1), (1, .ifCond .eq 8, 3), (4, .iload_n 0, 1), (5, .iconst 1, 1), (6, .if_icmp .ne 7, 3), (9, .iconst 1, 1), (10, .goto 4, 3), (13, .iconst 0, 1), (14, .ireturn, 1)]
theorem D_cX11_isOneOrZero_0 : dcs cX11_isOneOrZero l_cX11_isOneOrZero_0 := dcs_of (by decide +kernel)
def l_cX11_isList_0 : List (Nat × Instr × Nat) := [(0, .iload_n 0, 1), (1, .ifCond .lt 12, 3), (4, .iload_n 0, 1), (5, .iconst 4, 1), (6, .if_icmp .ge 7, 3), (9, .iconst 1, 1), (10, .goto 4, 3), (13, .iconst 0, 1), (14, .ireturn, 1)]
theorem D_cX11_isList_0 : dcs cX11_isList l_cX11_isList_0 := dcs_of (by decide +kernel)
def l_cX11_hasBit_0 : List (Nat × Instr × Nat) := [(0, .iload_n 0, 1), (1, .iload_n 1, 1), (2, .ishr, 1), (3, .iconst 1, 1), (4, .iand, 1), (5, .iconst 1, 1), (6, .if_icmp .ne 7, 3), (9, .iconst 1, 1), (10, .goto 4, 3), (13, .iconst 0, 1), (14, .ireturn, 1)]
theorem D_cX11_hasBit_0 : dcs cX11_hasBit l_cX11_hasBit_0 := dcs_of (by decide +kernel)
def l_cX11_readBook_0 : List (Nat × Instr × Nat) := [(0, .iconst 0, 1), (1, .istore_n 2, 1), (2, .iload_n 2, 1), (3, .bipush 90, 2), (5, .if_icmp .gt 33, 3), (8, .aload_n 0, 1), (9, .aload_n 1, 1), (10, .invokestatic 356, 3), (13, .aload_n 0, 1), (14, .getfield 265, 3), (17, .ifCond .ge 21, 3), (20, .aload_n 0, 1), (21, .bipush 59, 2), (23, .invokevirtual 359, 3), (26, .ifCond .ne 6, 3), (29, .goto 9, 3), (32, .iinc 2 1, 3), (35, .goto (-33), 3), (38, .aload_n 0, 1), (39, .getfield 363, 3), (42, .aload_n 0, 1), (43, .getfield 255, 3), (46, .if_icmp .ge 11, 3), (49, .aload_n 0, 1), (50, .aload_n 0, 1), (51, .getfield 363, 3), (54, .invokevirtual 366, 3), (57, .return_, 1)]
theorem D_cX11_readBook_0 : dcs cX11_readBook l_cX11_readBook_0 := dcs_of (by decide +kernel)
def l_cX11_readGate_0 : List (Nat × Instr × Nat) := [(0, .aload_n 1, 1), (1, .getfield 92, 3), (4, .bipush 30, 2), (6, .if_icmp .lt 12, 3), (9, .aload_n 0, 1), (10, .aload_n 0, 1), (11, .getfield 363, 3), (14, .invokevirtual 366, 3), (17, .return_, 1), (18, .aload_n 0, 1), (19, .iconst (-1), 1), (20, .invokestatic 370, 3), (23, .istore_n 2, 1), (24, .aload_n 0, 1), (25, .bipush 62, 2), (27, .invokevirtual 374, 3), (30, .aload_n 0, 1), (31, .iload_n 2, 1), (32, .invokestatic 370, 3), (35, .istore_n 3, 1), (36, .aload_n 0, 1), (37, .bipush 58, 2), (39, .invokevirtual 374, 3), (42, .iconst 0, 1), (43, .istore 4, 2), (45, .aload_n 0, 1), (46, .invokevirtual 378, 3), (49, .istore 5, 2), (51, .aload_n 0, 1), (52, .bipush 45, 2), (54, .invokevirtual 359, 3), (57, .ifCond .eq 32, 3), (60, .iload 5, 2), (62, .istore 4, 2), (64, .aload_n 0, 1), (65, .getfield 363, 3), (68, .istore 6, 2), (70, .aload_n 0, 1), (71, .invokevirtual 378, 3), (74, .istore 5, 2)]
theorem D_cX11_readGate_0 : dcs cX11_readGate l_cX11_readGate_0 := dcs_of (by decide +kernel)
def l_cX11_readGate_1 : List (Nat × Instr × Nat) := [(76, .iload 5, 2), (78, .iload 4, 2), (80, .if_icmp .ge 9, 3), (83, .aload_n 0, 1), (84, .iload 6, 2), (86, .invokevirtual 366, 3), (89, .aload_n 0, 1), (90, .bipush 64, 2), (92, .invokevirtual 359, 3), (95, .ifCond .eq 10, 3), (98, .aload_n 0, 1), (99, .invokestatic 380, 3), (102, .goto 4, 3), (105, .iconst 1, 1), (106, .istore 6, 2), (108, .aload_n 0, 1), (109, .bipush 120, 2), (111, .invokevirtual 359, 3), (114, .ifCond .eq 7, 3), (117, .iconst 0, 1), (118, .goto 4, 3), (121, .iconst 1, 1), (122, .istore 7, 2), (124, .aload_n 0, 1), (125, .getfield 265, 3), (128, .ifCond .ge 18, 3), (131, .aload_n 1, 1), (132, .iload_n 2, 1), (133, .iload_n 3, 1), (134, .iload 4, 2), (136, .iload 5, 2), (138, .iload 6, 2), (140, .iload 7, 2), (142, .invokevirtual 99, 3), (145, .pop, 1), (146, .return_, 1)]
theorem D_cX11_readGate_1 : dcs cX11_readGate l_cX11_readGate_1 := dcs_of (by decide +kernel)
def l_cX11_readNode_0 : List (Nat × Instr × Nat) := [(0, .aload_n 0, 1), (1, .getfield 363, 3), (4, .istore_n 2, 1), (5, .aload_n 0, 1), (6, .invokevirtual 378, 3), (9, .istore_n 3, 1), (10, .iload_n 3, 1), (11, .invokestatic 82, 3), (14, .ifCond .eq 8, 3), (17, .iload_n 3, 1), (18, .iload_n 1, 1), (19, .if_icmp .ne 8, 3), (22, .aload_n 0, 1), (23, .iload_n 2, 1), (24, .invokevirtual 366, 3), (27, .iload_n 3, 1), (28, .ireturn, 1)]
theorem D_cX11_readNode_0 : dcs cX11_readNode l_cX11_readNode_0 := dcs_of (by decide +kernel)
def l_cX11_readDelay_0 : List (Nat × Instr × Nat) := [(0, .aload_n 0, 1), (1, .getfield 363, 3), (4, .istore_n 1, 1), (5, .aload_n 0, 1), (6, .invokevirtual 378, 3), (9, .istore_n 2, 1), (10, .iload_n 2, 1), (11, .invokestatic 89, 3), (14, .ifCond .ne 8, 3), (17, .aload_n 0, 1), (18, .iload_n 1, 1), (19, .invokevirtual 366, 3), (22, .iload_n 2, 1), (23, .ireturn, 1)]
theorem D_cX11_readDelay_0 : dcs cX11_readDelay l_cX11_readDelay_0 := dcs_of (by decide +kernel)
def l_cX12_init_0 : List (Nat × Instr × Nat) := [(0, .aload_n 0, 1), (1, .invokespecial 3, 3), (4, .aload_n 0, 1), (5, .sipush 183, 3), (8, .newarray .int, 2), (10, .putfield 9, 3), (13, .aload_n 0, 1), (14, .sipush 183, 3), (17, .newarray .int, 2), (19, .putfield 13, 3), (22, .aload_n 0, 1), (23, .bipush 30, 2), (25, .newarray .int, 2), (27, .putfield 16, 3), (30, .aload_n 0, 1), (31, .bipush 30, 2), (33, .newarray .int, 2), (35, .putfield 19, 3), (38, .aload_n 0, 1), (39, .bipush 12, 2), (41, .newarray .int, 2), (43, .putfield 22, 3), (46, .aload_n 0, 1), (47, .bipush 108, 2), (49, .newarray .int, 2), (51, .putfield 25, 3), (54, .aload_n 0, 1), (55, .sipush 400, 3), (58, .newarray .int, 2), (60, .putfield 28, 3), (63, .aload_n 0, 1), (64, .sipush 400, 3), (67, .newarray .int, 2), (69, .putfield 31, 3), (72, .aload_n 0, 1), (73, .sipush 4800, 3), (76, .newarray .int, 2), (78, .putfield 34, 3), (81, .aload_n 0, 1), (82, .bipush 12, 2)]
theorem D_cX12_init_0 : dcs cX12_init l_cX12_init_0 := dcs_of (by decide +kernel)
def l_cX12_init_1 : List (Nat × Instr × Nat) := [(84, .newarray .int, 2), (86, .putfield 37, 3), (89, .aload_n 0, 1), (90, .bipush 12, 2), (92, .newarray .int, 2), (94, .putfield 40, 3), (97, .aload_n 0, 1), (98, .bipush 12, 2), (100, .newarray .int, 2), (102, .putfield 43, 3), (105, .aload_n 0, 1), (106, .bipush 12, 2), (108, .newarray .int, 2), (110, .putfield 46, 3), (113, .aload_n 0, 1), (114, .bipush 12, 2), (116, .newarray .int, 2), (118, .putfield 49, 3), (121, .aload_n 0, 1), (122, .bipush 30, 2), (124, .newarray .int, 2), (126, .putfield 52, 3), (129, .aload_n 0, 1), (130, .bipush 30, 2), (132, .newarray .int, 2), (134, .putfield 55, 3), (137, .aload_n 0, 1), (138, .bipush 30, 2), (140, .newarray .boolean, 2), (142, .putfield 58, 3), (145, .aload_n 0, 1), (146, .sipush 360, 3), (149, .newarray .int, 2), (151, .putfield 62, 3), (154, .aload_n 0, 1), (155, .bipush 30, 2), (157, .newarray .int, 2), (159, .putfield 65, 3), (162, .aload_n 0, 1), (163, .bipush 13, 2)]
theorem D_cX12_init_1 : dcs cX12_init l_cX12_init_1 := dcs_of (by decide +kernel)
def l_cX12_init_2 : List (Nat × Instr × Nat) := [(165, .newarray .int, 2), (167, .putfield 68, 3), (170, .aload_n 0, 1), (171, .sipush 11664, 3), (174, .newarray .int, 2), (176, .putfield 71, 3), (179, .aload_n 0, 1), (180, .bipush 108, 2), (182, .newarray .int, 2), (184, .putfield 74, 3), (187, .aload_n 0, 1), (188, .bipush 90, 2), (190, .newarray .byte, 2), (192, .putfield 77, 3), (195, .aload_n 0, 1), (196, .sipush 600, 3), (199, .newarray .int, 2), (201, .putfield 81, 3), (204, .aload_n 0, 1), (205, .iconst 4, 1), (206, .newarray .int, 2), (208, .dup, 1), (209, .iconst 0, 1), (210, .iconst (-1), 1), (211, .iastore, 1), (212, .dup, 1), (213, .iconst 1, 1), (214, .iconst (-1), 1), (215, .iastore, 1), (216, .dup, 1), (217, .iconst 2, 1), (218, .iconst (-1), 1), (219, .iastore, 1), (220, .dup, 1), (221, .iconst 3, 1), (222, .iconst (-1), 1), (223, .iastore, 1), (224, .putfield 84, 3), (227, .aload_n 0, 1), (228, .sipush 160, 3)]
theorem D_cX12_init_2 : dcs cX12_init l_cX12_init_2 := dcs_of (by decide +kernel)
def l_cX12_init_3 : List (Nat × Instr × Nat) := [(231, .newarray .int, 2), (233, .putfield 87, 3), (236, .aload_n 0, 1), (237, .getfield 9, 3), (240, .iconst 1, 1), (241, .bipush 11, 2), (243, .iastore, 1), (244, .return_, 1)]
theorem D_cX12_init_3 : dcs cX12_init l_cX12_init_3 := dcs_of (by decide +kernel)
def l_cX12_in_0 : List (Nat × Instr × Nat) := [(0, .iload_n 0, 1), (1, .iload_n 1, 1), (2, .if_icmp .lt 12, 3), (5, .iload_n 0, 1), (6, .iload_n 2, 1), (7, .if_icmp .gt 7, 3), (10, .iconst 1, 1), (11, .goto 4, 3), (14, .iconst 0, 1), (15, .ireturn, 1)]
theorem D_cX12_in_0 : dcs cX12_in l_cX12_in_0 := dcs_of (by decide +kernel)
def l_cX12_isNode_0 : List (Nat × Instr × Nat) := [(0, .iload_n 0, 1), (1, .iconst 0, 1), (2, .bipush 11, 2), (4, .invokestatic 90, 3), (7, .ireturn, 1)]
theorem D_cX12_isNode_0 : dcs cX12_isNode l_cX12_isNode_0 := dcs_of (by decide +kernel)
def l_cX12_isGate_0 : List (Nat × Instr × Nat) := [(0, .iload_n 1, 1), (1, .iconst 0, 1), (2, .aload_n 0, 1), (3, .getfield 9, 3), (6, .iconst 2, 1), (7, .iaload, 1), (8, .iconst 1, 1), (9, .isub, 1), (10, .invokestatic 90, 3), (13, .ireturn, 1)]
theorem D_cX12_isGate_0 : dcs cX12_isGate l_cX12_isGate_0 := dcs_of (by decide +kernel)
def l_cX12_at_0 : List (Nat × Instr × Nat) := [(0, .aload_n 0, 1), (1, .getfield 9, 3), (4, .iconst 3, 1), (5, .iload_n 1, 1), (6, .bipush 6, 2), (8, .imul, 1), (9, .iadd, 1), (10, .iload_n 2, 1), (11, .iadd, 1), (12, .iaload, 1), (13, .ireturn, 1)]
theorem D_cX12_at_0 : dcs cX12_at l_cX12_at_0 := dcs_of (by decide +kernel)
def l_cX12_sets_0 : List (Nat × Instr × Nat) := [(0, .aload_n 0, 1), (1, .getfield 9, 3), (4, .iconst 3, 1), (5, .iload_n 1, 1), (6, .bipush 6, 2), (8, .imul, 1), (9, .iadd, 1), (10, .iload_n 2, 1), (11, .iadd, 1), (12, .iload_n 3, 1), (13, .iastore, 1), (14, .return_, 1)]
theorem D_cX12_sets_0 : dcs cX12_sets l_cX12_sets_0 := dcs_of (by decide +kernel)
def l_cX12_isOpen_0 : List (Nat × Instr × Nat) := [(0, .aload_n 0, 1), (1, .iload_n 1, 1), (2, .iconst 5, 1), (3, .invokevirtual 94, 3), (6, .iconst 1, 1), (7, .if_icmp .ne 7, 3), (10, .iconst 1, 1), (11, .goto 4, 3), (14, .iconst 0, 1), (15, .ireturn, 1)]
theorem D_cX12_isOpen_0 : dcs cX12_isOpen l_cX12_isOpen_0 := dcs_of (by decide +kernel)
def l_cX12_capacity_0 : List (Nat × Instr × Nat) := [(0, .aload_n 0, 1), (1, .iload_n 1, 1), (2, .invokevirtual 98, 3), (5, .ifCond .eq 12, 3), (8, .aload_n 0, 1), (9, .iload_n 1, 1), (10, .iconst 3, 1), (11, .invokevirtual 94, 3), (14, .goto 4, 3), (17, .iconst 0, 1), (18, .ireturn, 1)]
theorem D_cX12_capacity_0 : dcs cX12_capacity l_cX12_capacity_0 := dcs_of (by decide +kernel)
def l_cX12_comes_0 : List (Nat × Instr × Nat) := [(0, .aload_n 0, 1), (1, .getfield 9, 3), (4, .iconst 2, 1), (5, .iaload, 1), (6, .istore 7, 2), (8, .aload_n 0, 1), (9, .getfield 9, 3), (12, .iconst 2, 1), (13, .dup2, 1), (14, .iaload, 1), (15, .iconst 1, 1), (16, .iadd, 1), (17, .iastore, 1), (18, .aload_n 0, 1), (19, .iload 7, 2), (21, .iconst 0, 1), (22, .iload_n 1, 1), (23, .invokevirtual 102, 3), (26, .aload_n 0, 1), (27, .iload 7, 2), (29, .iconst 1, 1), (30, .iload_n 2, 1), (31, .invokevirtual 102, 3), (34, .aload_n 0, 1), (35, .iload 7, 2), (37, .iconst 2, 1), (38, .iload_n 3, 1), (39, .invokevirtual 102, 3), (42, .aload_n 0, 1), (43, .iload 7, 2), (45, .iconst 3, 1), (46, .iload 4, 2), (48, .invokevirtual 102, 3), (51, .aload_n 0, 1), (52, .iload 7, 2), (54, .iconst 4, 1), (55, .iload 5, 2), (57, .invokevirtual 102, 3), (60, .aload_n 0, 1), (61, .iload 7, 2)]
theorem D_cX12_comes_0 : dcs cX12_comes l_cX12_comes_0 := dcs_of (by decide +kernel)
def l_cX12_comes_1 : List (Nat × Instr × Nat) := [(63, .iconst 5, 1), (64, .iload 6, 2), (66, .invokevirtual 102, 3), (69, .return_, 1)]
theorem D_cX12_comes_1 : dcs cX12_comes l_cX12_comes_1 := dcs_of (by decide +kernel)
def l_cX12_gate_0 : List (Nat × Instr × Nat) := [(0, .iload_n 1, 1), (1, .invokestatic 106, 3), (4, .ifCond .eq 15, 3), (7, .iload_n 2, 1), (8, .invokestatic 106, 3), (11, .ifCond .eq 8, 3), (14, .iload_n 1, 1), (15, .iload_n 2, 1), (16, .if_icmp .ne 5, 3), (19, .iconst (-1), 1), (20, .ireturn, 1), (21, .iload 4, 2), (23, .iconst 0, 1), (24, .sipush 999, 3), (27, .invokestatic 90, 3), (30, .ifCond .eq 23, 3), (33, .iload_n 3, 1), (34, .iconst 0, 1), (35, .iload 4, 2), (37, .invokestatic 90, 3), (40, .ifCond .eq 13, 3), (43, .iload 5, 2), (45, .iconst 1, 1), (46, .iconst 3, 1), (47, .invokestatic 90, 3), (50, .ifCond .ne 6, 3), (53, .bipush (-2), 2), (55, .ireturn, 1), (56, .aload_n 0, 1), (57, .getfield 9, 3), (60, .iconst 2, 1), (61, .iaload, 1), (62, .bipush 30, 2), (64, .if_icmp .ne 6, 3), (67, .bipush (-4), 2), (69, .ireturn, 1), (70, .aload_n 0, 1), (71, .iload_n 1, 1), (72, .iload_n 2, 1), (73, .iload_n 3, 1)]
theorem D_cX12_gate_0 : dcs cX12_gate l_cX12_gate_0 := dcs_of (by decide +kernel)
def l_cX12_gate_1 : List (Nat × Instr × Nat) := [(74, .iload 4, 2), (76, .iload 5, 2), (78, .iconst 1, 1), (79, .invokevirtual 109, 3), (82, .aload_n 0, 1), (83, .getfield 9, 3), (86, .iconst 2, 1), (87, .iaload, 1), (88, .iconst 1, 1), (89, .isub, 1), (90, .ireturn, 1)]
theorem D_cX12_gate_1 : dcs cX12_gate l_cX12_gate_1 := dcs_of (by decide +kernel)
def l_cX12_of_0 : List (Nat × Instr × Nat) := [(0, .aload_n 0, 1), (1, .iload_n 1, 1), (2, .invokevirtual 113, 3), (5, .ifCond .eq 21, 3), (8, .iload_n 2, 1), (9, .iconst 0, 1), (10, .iconst 5, 1), (11, .invokestatic 90, 3), (14, .ifCond .eq 12, 3), (17, .aload_n 0, 1), (18, .iload_n 1, 1), (19, .iload_n 2, 1), (20, .invokevirtual 94, 3), (23, .goto 4, 3), (26, .iconst (-1), 1), (27, .ireturn, 1)]
theorem D_cX12_of_0 : dcs cX12_of l_cX12_of_0 := dcs_of (by decide +kernel)
def l_cX12_becomes_0 : List (Nat × Instr × Nat) := [(0, .aload_n 0, 1), (1, .iload_n 1, 1), (2, .iload_n 2, 1), (3, .invokevirtual 94, 3), (6, .istore 4, 2), (8, .aload_n 0, 1), (9, .iload_n 1, 1), (10, .iload_n 2, 1), (11, .iload_n 3, 1), (12, .invokevirtual 102, 3), (15, .iload 4, 2), (17, .ireturn, 1)]
theorem D_cX12_becomes_0 : dcs cX12_becomes l_cX12_becomes_0 := dcs_of (by decide +kernel)
def l_cX12_widen_0 : List (Nat × Instr × Nat) := [(0, .aload_n 0, 1), (1, .iload_n 1, 1), (2, .invokevirtual 113, 3), (5, .ifCond .ne 5, 3), (8, .iconst (-1), 1), (9, .ireturn, 1), (10, .iload_n 2, 1), (11, .aload_n 0, 1), (12, .iload_n 1, 1), (13, .iconst 2, 1), (14, .invokevirtual 94, 3), (17, .sipush 999, 3), (20, .invokestatic 90, 3), (23, .ifCond .eq 13, 3), (26, .aload_n 0, 1), (27, .iload_n 1, 1), (28, .iconst 3, 1), (29, .iload_n 2, 1), (30, .invokevirtual 116, 3), (33, .goto 5, 3), (36, .bipush (-2), 2), (38, .ireturn, 1)]
theorem D_cX12_widen_0 : dcs cX12_widen l_cX12_widen_0 := dcs_of (by decide +kernel)
def l_cX12_bind_0 : List (Nat × Instr × Nat) := [(0, .aload_n 0, 1), (1, .iload_n 1, 1), (2, .invokevirtual 113, 3), (5, .ifCond .ne 5, 3), (8, .iconst (-1), 1), (9, .ireturn, 1), (10, .iload_n 2, 1), (11, .iconst 0, 1), (12, .aload_n 0, 1), (13, .iload_n 1, 1), (14, .iconst 3, 1), (15, .invokevirtual 94, 3), (18, .invokestatic 90, 3), (21, .ifCond .eq 13, 3), (24, .aload_n 0, 1), (25, .iload_n 1, 1), (26, .iconst 2, 1), (27, .iload_n 2, 1), (28, .invokevirtual 116, 3), (31, .goto 5, 3), (34, .bipush (-2), 2), (36, .ireturn, 1)]
theorem D_cX12_bind_0 : dcs cX12_bind l_cX12_bind_0 := dcs_of (by decide +kernel)
def l_cX12_turn_0 : List (Nat × Instr × Nat) := [(0, .aload_n 0, 1), (1, .iload_n 1, 1), (2, .invokevirtual 113, 3), (5, .ifCond .eq 22, 3), (8, .iload_n 2, 1), (9, .iconst 0, 1), (10, .iconst 1, 1), (11, .invokestatic 90, 3), (14, .ifCond .eq 13, 3), (17, .aload_n 0, 1), (18, .iload_n 1, 1), (19, .iconst 5, 1), (20, .iload_n 2, 1), (21, .invokevirtual 116, 3), (24, .goto 4, 3), (27, .iconst (-1), 1), (28, .ireturn, 1)]
theorem D_cX12_turn_0 : dcs cX12_turn l_cX12_turn_0 := dcs_of (by decide +kernel)
def l_cX12_drop_0 : List (Nat × Instr × Nat) := [(0, .aload_n 0, 1), (1, .getfield 9, 3), (4, .iconst 2, 1), (5, .iaload, 1), (6, .ifCond .ne 6, 3), (9, .bipush (-3), 2), (11, .ireturn, 1), (12, .aload_n 0, 1), (13, .getfield 9, 3), (16, .iconst 2, 1), (17, .dup2, 1), (18, .iaload, 1), (19, .iconst 1, 1), (20, .isub, 1), (21, .iastore, 1), (22, .aload_n 0, 1), (23, .getfield 9, 3), (26, .iconst 2, 1), (27, .iaload, 1), (28, .ireturn, 1)]
theorem D_cX12_drop_0 : dcs cX12_drop l_cX12_drop_0 := dcs_of (by decide +kernel)
def l_cX12_ends_0 : List (Nat × Instr × Nat) := [(0, .iload_n 1, 1), (1, .invokestatic 106, 3), (4, .ifCond .eq 15, 3), (7, .iload_n 2, 1), (8, .invokestatic 106, 3), (11, .ifCond .eq 8, 3), (14, .iload_n 1, 1), (15, .iload_n 2, 1), (16, .if_icmp .ne 5, 3), (19, .iconst (-1), 1), (20, .ireturn, 1), (21, .aload_n 0, 1), (22, .getfield 9, 3), (25, .iconst 0, 1), (26, .iload_n 1, 1), (27, .iastore, 1), (28, .aload_n 0, 1), (29, .getfield 9, 3), (32, .iconst 1, 1), (33, .iload_n 2, 1), (34, .iastore, 1), (35, .iconst 1, 1), (36, .ireturn, 1)]
theorem D_cX12_ends_0 : dcs cX12_ends l_cX12_ends_0 := dcs_of (by decide +kernel)
def l_cX12_room_0 : List (Nat × Instr × Nat) := [(0, .iload_n 1, 1), (1, .bipush 100, 2), (3, .if_icmp .ge 19, 3), (6, .aload_n 0, 1), (7, .getfield 16, 3), (10, .iload_n 1, 1), (11, .iaload, 1), (12, .aload_n 0, 1), (13, .getfield 19, 3), (16, .iload_n 1, 1), (17, .iaload, 1), (18, .isub, 1), (19, .goto 12, 3), (22, .aload_n 0, 1), (23, .getfield 19, 3), (26, .iload_n 1, 1), (27, .bipush 100, 2), (29, .isub, 1), (30, .iaload, 1), (31, .ireturn, 1)]
theorem D_cX12_room_0 : dcs cX12_room l_cX12_room_0 := dcs_of (by decide +kernel)
def l_cX12_stepFrom_0 : List (Nat × Instr × Nat) := [(0, .iload_n 1, 1), (1, .bipush 100, 2), (3, .if_icmp .ge 12, 3), (6, .aload_n 0, 1), (7, .iload_n 1, 1), (8, .iconst 0, 1), (9, .invokevirtual 94, 3), (12, .goto 12, 3), (15, .aload_n 0, 1), (16, .iload_n 1, 1), (17, .bipush 100, 2), (19, .isub, 1), (20, .iconst 1, 1), (21, .invokevirtual 94, 3), (24, .ireturn, 1)]
theorem D_cX12_stepFrom_0 : dcs cX12_stepFrom l_cX12_stepFrom_0 := dcs_of (by decide +kernel)
def l_cX12_stepTo_0 : List (Nat × Instr × Nat) := [(0, .iload_n 1, 1), (1, .bipush 100, 2), (3, .if_icmp .ge 12, 3), (6, .aload_n 0, 1), (7, .iload_n 1, 1), (8, .iconst 1, 1), (9, .invokevirtual 94, 3), (12, .goto 12, 3), (15, .aload_n 0, 1), (16, .iload_n 1, 1), (17, .bipush 100, 2), (19, .isub, 1), (20, .iconst 0, 1), (21, .invokevirtual 94, 3), (24, .ireturn, 1)]
theorem D_cX12_stepTo_0 : dcs cX12_stepTo l_cX12_stepTo_0 := dcs_of (by decide +kernel)
def l_cX12_stepAt_0 : List (Nat × Instr × Nat) := [(0, .iload_n 1, 1), (1, .aload_n 0, 1), (2, .getfield 9, 3), (5, .iconst 2, 1), (6, .iaload, 1), (7, .if_icmp .ge 7, 3), (10, .iload_n 1, 1), (11, .goto 14, 3), (14, .bipush 100, 2), (16, .iload_n 1, 1), (17, .iadd, 1), (18, .aload_n 0, 1), (19, .getfield 9, 3), (22, .iconst 2, 1), (23, .iaload, 1), (24, .isub, 1), (25, .ireturn, 1)]
theorem D_cX12_stepAt_0 : dcs cX12_stepAt l_cX12_stepAt_0 := dcs_of (by decide +kernel)
def l_cX12_measures_0 : List (Nat × Instr × Nat) := [(0, .iconst 0, 1), (1, .istore_n 3, 1), (2, .iload_n 3, 1), (3, .bipush 12, 2), (5, .if_icmp .ge 16, 3), (8, .aload_n 0, 1), (9, .getfield 22, 3), (12, .iload_n 3, 1), (13, .iconst (-1), 1), (14, .iastore, 1), (15, .iinc 3 1, 3), (18, .goto (-16), 3), (21, .aload_n 0, 1), (22, .getfield 22, 3), (25, .iload_n 1, 1), (26, .iconst 0, 1), (27, .iastore, 1), (28, .aload_n 0, 1), (29, .getfield 25, 3), (32, .iconst 0, 1), (33, .iload_n 1, 1), (34, .iastore, 1), (35, .iconst 1, 1), (36, .istore_n 3, 1), (37, .iconst 0, 1), (38, .istore 4, 2), (40, .iload 4, 2), (42, .iload_n 3, 1), (43, .if_icmp .ge 139, 3), (46, .iconst 0, 1), (47, .istore 5, 2), (49, .iload 5, 2), (51, .iconst 2, 1), (52, .aload_n 0, 1), (53, .getfield 9, 3), (56, .iconst 2, 1), (57, .iaload, 1), (58, .imul, 1), (59, .if_icmp .ge 117, 3), (62, .aload_n 0, 1)]
theorem D_cX12_measures_0 : dcs cX12_measures l_cX12_measures_0 := dcs_of (by decide +kernel)
def l_cX12_measures_1 : List (Nat × Instr × Nat) := [(63, .iload 5, 2), (65, .invokevirtual 120, 3), (68, .istore 6, 2), (70, .iload_n 2, 1), (71, .ifCond .eq 12, 3), (74, .aload_n 0, 1), (75, .iload 6, 2), (77, .invokevirtual 124, 3), (80, .goto 9, 3), (83, .aload_n 0, 1), (84, .iload 6, 2), (86, .invokevirtual 127, 3), (89, .istore 7, 2), (91, .iload_n 2, 1), (92, .ifCond .eq 12, 3), (95, .aload_n 0, 1), (96, .iload 6, 2), (98, .invokevirtual 127, 3), (101, .goto 9, 3), (104, .aload_n 0, 1), (105, .iload 6, 2), (107, .invokevirtual 124, 3), (110, .istore 8, 2), (112, .iload 7, 2), (114, .aload_n 0, 1), (115, .getfield 25, 3), (118, .iload 4, 2), (120, .iaload, 1), (121, .if_icmp .ne 49, 3), (124, .aload_n 0, 1), (125, .getfield 22, 3), (128, .iload 8, 2), (130, .iaload, 1), (131, .ifCond .ge 39, 3), (134, .aload_n 0, 1), (135, .iload 6, 2), (137, .invokevirtual 130, 3), (140, .ifCond .le 30, 3), (143, .aload_n 0, 1), (144, .getfield 22, 3)]
theorem D_cX12_measures_1 : dcs cX12_measures l_cX12_measures_1 := dcs_of (by decide +kernel)
def l_cX12_measures_2 : List (Nat × Instr × Nat) := [(147, .iload 8, 2), (149, .aload_n 0, 1), (150, .getfield 22, 3), (153, .iload 7, 2), (155, .iaload, 1), (156, .iconst 1, 1), (157, .iadd, 1), (158, .iastore, 1), (159, .aload_n 0, 1), (160, .getfield 25, 3), (163, .iload_n 3, 1), (164, .iload 8, 2), (166, .iastore, 1), (167, .iinc 3 1, 3), (170, .iinc 5 1, 3), (173, .goto (-124), 3), (176, .iinc 4 1, 3), (179, .goto (-139), 3), (182, .return_, 1)]
theorem D_cX12_measures_2 : dcs cX12_measures l_cX12_measures_2 := dcs_of (by decide +kernel)
def l_cX12_stepOn_0 : List (Nat × Instr × Nat) := [(0, .iconst 0, 1), (1, .istore_n 2, 1), (2, .iload_n 2, 1), (3, .iconst 2, 1), (4, .aload_n 0, 1), (5, .getfield 9, 3), (8, .iconst 2, 1), (9, .iaload, 1), (10, .imul, 1), (11, .if_icmp .ge 55, 3), (14, .aload_n 0, 1), (15, .iload_n 2, 1), (16, .invokevirtual 120, 3), (19, .istore_n 3, 1), (20, .aload_n 0, 1), (21, .iload_n 3, 1), (22, .invokevirtual 127, 3), (25, .iload_n 1, 1), (26, .if_icmp .ne 34, 3), (29, .aload_n 0, 1), (30, .iload_n 3, 1), (31, .invokevirtual 130, 3), (34, .ifCond .le 26, 3), (37, .aload_n 0, 1), (38, .getfield 22, 3), (41, .aload_n 0, 1), (42, .iload_n 3, 1), (43, .invokevirtual 124, 3), (46, .iaload, 1), (47, .aload_n 0, 1), (48, .getfield 22, 3), (51, .iload_n 1, 1), (52, .iaload, 1), (53, .iconst 1, 1), (54, .isub, 1), (55, .if_icmp .ne 5, 3), (58, .iload_n 3, 1), (59, .ireturn, 1), (60, .iinc 2 1, 3), (63, .goto (-61), 3)]
theorem D_cX12_stepOn_0 : dcs cX12_stepOn l_cX12_stepOn_0 := dcs_of (by decide +kernel)
def l_cX12_stepOn_1 : List (Nat × Instr × Nat) := [(66, .iconst (-1), 1), (67, .ireturn, 1)]
theorem D_cX12_stepOn_1 : dcs cX12_stepOn l_cX12_stepOn_1 := dcs_of (by decide +kernel)
def l_cX12_flows_0 : List (Nat × Instr × Nat) := [(0, .iconst 0, 1), (1, .istore_n 1, 1), (2, .iload_n 1, 1), (3, .aload_n 0, 1), (4, .getfield 9, 3), (7, .iconst 2, 1), (8, .iaload, 1), (9, .if_icmp .ge 16, 3), (12, .aload_n 0, 1), (13, .getfield 19, 3), (16, .iload_n 1, 1), (17, .iconst 0, 1), (18, .iastore, 1), (19, .iinc 1 1, 3), (22, .goto (-20), 3), (25, .aload_n 0, 1), (26, .iconst 0, 1), (27, .putfield 133, 3), (30, .iconst 0, 1), (31, .istore_n 1, 1), (32, .aload_n 0, 1), (33, .aload_n 0, 1), (34, .getfield 9, 3), (37, .iconst 1, 1), (38, .iaload, 1), (39, .iconst 1, 1), (40, .invokevirtual 137, 3), (43, .aload_n 0, 1), (44, .getfield 22, 3), (47, .aload_n 0, 1), (48, .getfield 9, 3), (51, .iconst 0, 1), (52, .iaload, 1), (53, .iaload, 1), (54, .ifCond .le 196, 3), (57, .ldc 141, 2), (59, .istore_n 2, 1), (60, .iconst 0, 1), (61, .istore_n 3, 1), (62, .aload_n 0, 1)]
theorem D_cX12_flows_0 : dcs cX12_flows l_cX12_flows_0 := dcs_of (by decide +kernel)
def l_cX12_flows_1 : List (Nat × Instr × Nat) := [(63, .getfield 9, 3), (66, .iconst 0, 1), (67, .iaload, 1), (68, .istore 4, 2), (70, .iload 4, 2), (72, .aload_n 0, 1), (73, .getfield 9, 3), (76, .iconst 1, 1), (77, .iaload, 1), (78, .if_icmp .eq 66, 3), (81, .aload_n 0, 1), (82, .iload 4, 2), (84, .invokevirtual 142, 3), (87, .istore 5, 2), (89, .aload_n 0, 1), (90, .getfield 34, 3), (93, .aload_n 0, 1), (94, .getfield 133, 3), (97, .bipush 12, 2), (99, .imul, 1), (100, .iload_n 3, 1), (101, .iadd, 1), (102, .iload 5, 2), (104, .iastore, 1), (105, .iinc 3 1, 3), (108, .iload_n 2, 1), (109, .aload_n 0, 1), (110, .iload 5, 2), (112, .invokevirtual 130, 3), (115, .invokestatic 145, 3), (118, .istore_n 2, 1), (119, .aload_n 0, 1), (120, .aload_n 0, 1), (121, .getfield 34, 3), (124, .aload_n 0, 1), (125, .getfield 133, 3), (128, .bipush 12, 2), (130, .imul, 1), (131, .iload_n 3, 1), (132, .iadd, 1)]
theorem D_cX12_flows_1 : dcs cX12_flows l_cX12_flows_1 := dcs_of (by decide +kernel)
def l_cX12_flows_2 : List (Nat × Instr × Nat) := [(133, .iconst 1, 1), (134, .isub, 1), (135, .iaload, 1), (136, .invokevirtual 124, 3), (139, .istore 4, 2), (141, .goto (-71), 3), (144, .iconst 0, 1), (145, .istore 4, 2), (147, .iload 4, 2), (149, .iload_n 3, 1), (150, .if_icmp .ge 52, 3), (153, .aload_n 0, 1), (154, .getfield 34, 3), (157, .aload_n 0, 1), (158, .getfield 133, 3), (161, .bipush 12, 2), (163, .imul, 1), (164, .iload 4, 2), (166, .iadd, 1), (167, .iaload, 1), (168, .istore 5, 2), (170, .aload_n 0, 1), (171, .getfield 19, 3), (174, .iload 5, 2), (176, .bipush 100, 2), (178, .irem, 1), (179, .dup2, 1), (180, .iaload, 1), (181, .iload 5, 2), (183, .bipush 100, 2), (185, .if_icmp .ge 7, 3), (188, .iload_n 2, 1), (189, .goto 5, 3), (192, .iload_n 2, 1), (193, .ineg, 1), (194, .iadd, 1), (195, .iastore, 1), (196, .iinc 4 1, 3), (199, .goto (-52), 3), (202, .aload_n 0, 1)]
theorem D_cX12_flows_2 : dcs cX12_flows l_cX12_flows_2 := dcs_of (by decide +kernel)
def l_cX12_flows_3 : List (Nat × Instr × Nat) := [(203, .getfield 31, 3), (206, .aload_n 0, 1), (207, .getfield 133, 3), (210, .iload_n 3, 1), (211, .iastore, 1), (212, .aload_n 0, 1), (213, .getfield 28, 3), (216, .aload_n 0, 1), (217, .getfield 133, 3), (220, .iload_n 2, 1), (221, .iastore, 1), (222, .aload_n 0, 1), (223, .dup, 1), (224, .getfield 133, 3), (227, .iconst 1, 1), (228, .iadd, 1), (229, .putfield 133, 3), (232, .iload_n 1, 1), (233, .iload_n 2, 1), (234, .iadd, 1), (235, .istore_n 1, 1), (236, .aload_n 0, 1), (237, .aload_n 0, 1), (238, .getfield 9, 3), (241, .iconst 1, 1), (242, .iaload, 1), (243, .iconst 1, 1), (244, .invokevirtual 137, 3), (247, .goto (-204), 3), (250, .iload_n 1, 1), (251, .ireturn, 1)]
theorem D_cX12_flows_3 : dcs cX12_flows l_cX12_flows_3 := dcs_of (by decide +kernel)
def l_cX12_mayAll_0 : List (Nat × Instr × Nat) := [(0, .iconst 0, 1), (1, .istore_n 1, 1), (2, .iload_n 1, 1), (3, .aload_n 0, 1), (4, .getfield 9, 3), (7, .iconst 2, 1), (8, .iaload, 1), (9, .if_icmp .ge 20, 3), (12, .aload_n 0, 1), (13, .getfield 16, 3), (16, .iload_n 1, 1), (17, .aload_n 0, 1), (18, .iload_n 1, 1), (19, .invokevirtual 150, 3), (22, .iastore, 1), (23, .iinc 1 1, 3), (26, .goto (-24), 3), (29, .return_, 1)]
theorem D_cX12_mayAll_0 : dcs cX12_mayAll l_cX12_mayAll_0 := dcs_of (by decide +kernel)
def l_cX12_flowsNow_0 : List (Nat × Instr × Nat) := [(0, .aload_n 0, 1), (1, .invokevirtual 153, 3), (4, .aload_n 0, 1), (5, .invokevirtual 156, 3), (8, .ireturn, 1)]
theorem D_cX12_flowsNow_0 : dcs cX12_flowsNow l_cX12_flowsNow_0 := dcs_of (by decide +kernel)
def l_cX12_most_0 : List (Nat × Instr × Nat) := [(0, .aload_n 0, 1), (1, .invokevirtual 160, 3), (4, .ireturn, 1)]
theorem D_cX12_most_0 : dcs cX12_most l_cX12_most_0 := dcs_of (by decide +kernel)
def l_cX12_water_0 : List (Nat × Instr × Nat) := [(0, .aload_n 0, 1), (1, .iload_n 1, 1), (2, .invokevirtual 113, 3), (5, .ifCond .ne 5, 3), (8, .iconst (-1), 1), (9, .ireturn, 1), (10, .aload_n 0, 1), (11, .invokevirtual 160, 3), (14, .pop, 1), (15, .aload_n 0, 1), (16, .getfield 19, 3), (19, .iload_n 1, 1), (20, .iaload, 1), (21, .ireturn, 1)]
theorem D_cX12_water_0 : dcs cX12_water l_cX12_water_0 := dcs_of (by decide +kernel)
def l_cX12_ways_0 : List (Nat × Instr × Nat) := [(0, .iload_n 1, 1), (1, .iconst (-1), 1), (2, .if_icmp .ge 5, 3), (5, .iconst (-1), 1), (6, .ireturn, 1), (7, .aload_n 0, 1), (8, .invokevirtual 160, 3), (11, .pop, 1), (12, .iload_n 1, 1), (13, .iconst (-1), 1), (14, .if_icmp .ne 8, 3), (17, .aload_n 0, 1), (18, .getfield 133, 3), (21, .ireturn, 1), (22, .iload_n 1, 1), (23, .aload_n 0, 1), (24, .getfield 133, 3), (27, .if_icmp .lt 5, 3), (30, .iconst (-1), 1), (31, .ireturn, 1), (32, .iload_n 2, 1), (33, .iconst 2, 1), (34, .if_icmp .ge 32, 3), (37, .iload_n 2, 1), (38, .ifCond .ne 12, 3), (41, .aload_n 0, 1), (42, .getfield 28, 3), (45, .iload_n 1, 1), (46, .iaload, 1), (47, .goto 18, 3), (50, .iload_n 2, 1), (51, .iconst 1, 1), (52, .if_icmp .ne 12, 3), (55, .aload_n 0, 1), (56, .getfield 31, 3), (59, .iload_n 1, 1), (60, .iaload, 1), (61, .goto 4, 3), (64, .iconst (-1), 1), (65, .ireturn, 1)]
theorem D_cX12_ways_0 : dcs cX12_ways l_cX12_ways_0 := dcs_of (by decide +kernel)
def l_cX12_ways_1 : List (Nat × Instr × Nat) := [(66, .iload_n 2, 1), (67, .bipush 10, 2), (69, .bipush 9, 2), (71, .aload_n 0, 1), (72, .getfield 31, 3), (75, .iload_n 1, 1), (76, .iaload, 1), (77, .iadd, 1), (78, .invokestatic 90, 3), (81, .ifCond .eq 20, 3), (84, .aload_n 0, 1), (85, .getfield 34, 3), (88, .iload_n 1, 1), (89, .bipush 12, 2), (91, .imul, 1), (92, .iload_n 2, 1), (93, .iadd, 1), (94, .bipush 10, 2), (96, .isub, 1), (97, .iaload, 1), (98, .goto 4, 3), (101, .iconst (-1), 1), (102, .ireturn, 1)]
theorem D_cX12_ways_1 : dcs cX12_ways l_cX12_ways_1 := dcs_of (by decide +kernel)
def l_cX12_pushes_0 : List (Nat × Instr × Nat) := [(0, .aload_n 0, 1), (1, .iload_n 1, 1), (2, .invokevirtual 124, 3), (5, .istore_n 3, 1), (6, .aload_n 0, 1), (7, .getfield 19, 3), (10, .iload_n 1, 1), (11, .bipush 100, 2), (13, .irem, 1), (14, .dup2, 1), (15, .iaload, 1), (16, .iload_n 1, 1), (17, .bipush 100, 2), (19, .if_icmp .ge 7, 3), (22, .iload_n 2, 1), (23, .goto 5, 3), (26, .iload_n 2, 1), (27, .ineg, 1), (28, .iadd, 1), (29, .iastore, 1), (30, .aload_n 0, 1), (31, .getfield 40, 3), (34, .aload_n 0, 1), (35, .iload_n 1, 1), (36, .invokevirtual 127, 3), (39, .dup2, 1), (40, .iaload, 1), (41, .iload_n 2, 1), (42, .isub, 1), (43, .iastore, 1), (44, .aload_n 0, 1), (45, .getfield 40, 3), (48, .iload_n 3, 1), (49, .dup2, 1), (50, .iaload, 1), (51, .iload_n 2, 1), (52, .iadd, 1), (53, .iastore, 1), (54, .aload_n 0, 1), (55, .dup, 1)]
theorem D_cX12_pushes_0 : dcs cX12_pushes l_cX12_pushes_0 := dcs_of (by decide +kernel)
def l_cX12_pushes_1 : List (Nat × Instr × Nat) := [(56, .getfield 163, 3), (59, .iconst 1, 1), (60, .iadd, 1), (61, .putfield 163, 3), (64, .iload_n 3, 1), (65, .aload_n 0, 1), (66, .getfield 9, 3), (69, .iconst 0, 1), (70, .iaload, 1), (71, .if_icmp .eq 13, 3), (74, .iload_n 3, 1), (75, .aload_n 0, 1), (76, .getfield 9, 3), (79, .iconst 1, 1), (80, .iaload, 1), (81, .if_icmp .ne 7, 3), (84, .iconst 1, 1), (85, .goto 4, 3), (88, .iconst 0, 1), (89, .istore 4, 2), (91, .iconst 0, 1), (92, .istore 5, 2), (94, .iload 5, 2), (96, .aload_n 0, 1), (97, .getfield 166, 3), (100, .if_icmp .ge 30, 3), (103, .iload 4, 2), (105, .aload_n 0, 1), (106, .getfield 49, 3), (109, .iload 5, 2), (111, .iaload, 1), (112, .iload_n 3, 1), (113, .if_icmp .ne 7, 3), (116, .iconst 1, 1), (117, .goto 4, 3), (120, .iconst 0, 1), (121, .ior, 1), (122, .istore 4, 2), (124, .iinc 5 1, 3), (127, .goto (-33), 3)]
theorem D_cX12_pushes_1 : dcs cX12_pushes l_cX12_pushes_1 := dcs_of (by decide +kernel)
def l_cX12_pushes_2 : List (Nat × Instr × Nat) := [(130, .iload 4, 2), (132, .ifCond .ne 23, 3), (135, .aload_n 0, 1), (136, .getfield 49, 3), (139, .aload_n 0, 1), (140, .getfield 166, 3), (143, .iload_n 3, 1), (144, .iastore, 1), (145, .aload_n 0, 1), (146, .dup, 1), (147, .getfield 166, 3), (150, .iconst 1, 1), (151, .iadd, 1), (152, .putfield 166, 3), (155, .return_, 1)]
theorem D_cX12_pushes_2 : dcs cX12_pushes l_cX12_pushes_2 := dcs_of (by decide +kernel)
def l_cX12_downStep_0 : List (Nat × Instr × Nat) := [(0, .iconst 0, 1), (1, .istore_n 2, 1), (2, .iload_n 2, 1), (3, .iconst 2, 1), (4, .aload_n 0, 1), (5, .getfield 9, 3), (8, .iconst 2, 1), (9, .iaload, 1), (10, .imul, 1), (11, .if_icmp .ge 55, 3), (14, .aload_n 0, 1), (15, .iload_n 2, 1), (16, .invokevirtual 120, 3), (19, .istore_n 3, 1), (20, .aload_n 0, 1), (21, .iload_n 3, 1), (22, .invokevirtual 127, 3), (25, .iload_n 1, 1), (26, .if_icmp .ne 34, 3), (29, .aload_n 0, 1), (30, .iload_n 3, 1), (31, .invokevirtual 130, 3), (34, .ifCond .le 26, 3), (37, .aload_n 0, 1), (38, .getfield 37, 3), (41, .aload_n 0, 1), (42, .iload_n 3, 1), (43, .invokevirtual 124, 3), (46, .iaload, 1), (47, .aload_n 0, 1), (48, .getfield 37, 3), (51, .iload_n 1, 1), (52, .iaload, 1), (53, .iconst 1, 1), (54, .isub, 1), (55, .if_icmp .ne 5, 3), (58, .iload_n 3, 1), (59, .ireturn, 1), (60, .iinc 2 1, 3), (63, .goto (-61), 3)]
theorem D_cX12_downStep_0 : dcs cX12_downStep l_cX12_downStep_0 := dcs_of (by decide +kernel)
def l_cX12_downStep_1 : List (Nat × Instr × Nat) := [(66, .iconst (-1), 1), (67, .ireturn, 1)]
theorem D_cX12_downStep_1 : dcs cX12_downStep l_cX12_downStep_1 := dcs_of (by decide +kernel)
def l_cX12_lifts_0 : List (Nat × Instr × Nat) := [(0, .ldc 141, 2), (2, .istore_n 2, 1), (3, .iconst 0, 1), (4, .istore_n 3, 1), (5, .iload_n 3, 1), (6, .iconst 2, 1), (7, .aload_n 0, 1), (8, .getfield 9, 3), (11, .iconst 2, 1), (12, .iaload, 1), (13, .imul, 1), (14, .if_icmp .ge 51, 3), (17, .aload_n 0, 1), (18, .iload_n 3, 1), (19, .invokevirtual 120, 3), (22, .istore 4, 2), (24, .aload_n 0, 1), (25, .iload 4, 2), (27, .invokevirtual 127, 3), (30, .iload_n 1, 1), (31, .if_icmp .ne 28, 3), (34, .aload_n 0, 1), (35, .iload 4, 2), (37, .invokevirtual 130, 3), (40, .ifCond .le 19, 3), (43, .iload_n 2, 1), (44, .aload_n 0, 1), (45, .getfield 37, 3), (48, .aload_n 0, 1), (49, .iload 4, 2), (51, .invokevirtual 124, 3), (54, .iaload, 1), (55, .invokestatic 145, 3), (58, .istore_n 2, 1), (59, .iinc 3 1, 3), (62, .goto (-57), 3), (65, .aload_n 0, 1), (66, .getfield 37, 3), (69, .iload_n 1, 1), (70, .iload_n 2, 1)]
theorem D_cX12_lifts_0 : dcs cX12_lifts l_cX12_lifts_0 := dcs_of (by decide +kernel)
def l_cX12_lifts_1 : List (Nat × Instr × Nat) := [(71, .iconst 1, 1), (72, .iadd, 1), (73, .iastore, 1), (74, .aload_n 0, 1), (75, .getfield 43, 3), (78, .iload_n 1, 1), (79, .dup2, 1), (80, .iaload, 1), (81, .iconst 1, 1), (82, .iadd, 1), (83, .iastore, 1), (84, .return_, 1)]
theorem D_cX12_lifts_1 : dcs cX12_lifts l_cX12_lifts_1 := dcs_of (by decide +kernel)
def l_cX12_serves_0 : List (Nat × Instr × Nat) := [(0, .aload_n 0, 1), (1, .getfield 46, 3), (4, .iload_n 1, 1), (5, .dup2, 1), (6, .iaload, 1), (7, .iconst 1, 1), (8, .iadd, 1), (9, .iastore, 1), (10, .aload_n 0, 1), (11, .getfield 40, 3), (14, .iload_n 1, 1), (15, .iaload, 1), (16, .ifCond .le 43, 3), (19, .aload_n 0, 1), (20, .iload_n 1, 1), (21, .invokevirtual 169, 3), (24, .istore_n 2, 1), (25, .iload_n 2, 1), (26, .ifCond .ge 11, 3), (29, .aload_n 0, 1), (30, .iload_n 1, 1), (31, .invokevirtual 172, 3), (34, .goto 22, 3), (37, .aload_n 0, 1), (38, .iload_n 2, 1), (39, .aload_n 0, 1), (40, .getfield 40, 3), (43, .iload_n 1, 1), (44, .iaload, 1), (45, .aload_n 0, 1), (46, .iload_n 2, 1), (47, .invokevirtual 130, 3), (50, .invokestatic 145, 3), (53, .invokevirtual 176, 3), (56, .goto (-46), 3), (59, .return_, 1)]
theorem D_cX12_serves_0 : dcs cX12_serves l_cX12_serves_0 := dcs_of (by decide +kernel)
def l_cX12_flowsByHeights_0 : List (Nat × Instr × Nat) := [(0, .aload_n 0, 1), (1, .invokevirtual 153, 3), (4, .iconst 0, 1), (5, .istore_n 1, 1), (6, .iload_n 1, 1), (7, .aload_n 0, 1), (8, .getfield 9, 3), (11, .iconst 2, 1), (12, .iaload, 1), (13, .if_icmp .ge 16, 3), (16, .aload_n 0, 1), (17, .getfield 19, 3), (20, .iload_n 1, 1), (21, .iconst 0, 1), (22, .iastore, 1), (23, .iinc 1 1, 3), (26, .goto (-20), 3), (29, .iconst 0, 1), (30, .istore_n 1, 1), (31, .iload_n 1, 1), (32, .bipush 12, 2), (34, .if_icmp .ge 52, 3), (37, .aload_n 0, 1), (38, .getfield 37, 3), (41, .iload_n 1, 1), (42, .iload_n 1, 1), (43, .aload_n 0, 1), (44, .getfield 9, 3), (47, .iconst 0, 1), (48, .iaload, 1), (49, .if_icmp .ne 8, 3), (52, .bipush 12, 2), (54, .goto 4, 3), (57, .iconst 0, 1), (58, .iastore, 1), (59, .aload_n 0, 1), (60, .getfield 40, 3), (63, .iload_n 1, 1), (64, .iconst 0, 1), (65, .iastore, 1)]
theorem D_cX12_flowsByHeights_0 : dcs cX12_flowsByHeights l_cX12_flowsByHeights_0 := dcs_of (by decide +kernel)
def l_cX12_flowsByHeights_1 : List (Nat × Instr × Nat) := [(66, .aload_n 0, 1), (67, .getfield 43, 3), (70, .iload_n 1, 1), (71, .iconst 0, 1), (72, .iastore, 1), (73, .aload_n 0, 1), (74, .getfield 46, 3), (77, .iload_n 1, 1), (78, .iconst 0, 1), (79, .iastore, 1), (80, .iinc 1 1, 3), (83, .goto (-52), 3), (86, .aload_n 0, 1), (87, .iconst 0, 1), (88, .putfield 166, 3), (91, .aload_n 0, 1), (92, .iconst 0, 1), (93, .putfield 163, 3), (96, .iconst 0, 1), (97, .istore_n 1, 1), (98, .iload_n 1, 1), (99, .aload_n 0, 1), (100, .getfield 9, 3), (103, .iconst 2, 1), (104, .iaload, 1), (105, .if_icmp .ge 44, 3), (108, .aload_n 0, 1), (109, .iload_n 1, 1), (110, .iconst 0, 1), (111, .invokevirtual 94, 3), (114, .aload_n 0, 1), (115, .getfield 9, 3), (118, .iconst 0, 1), (119, .iaload, 1), (120, .if_icmp .ne 23, 3), (123, .aload_n 0, 1), (124, .getfield 16, 3), (127, .iload_n 1, 1), (128, .iaload, 1), (129, .ifCond .le 14, 3)]
theorem D_cX12_flowsByHeights_1 : dcs cX12_flowsByHeights l_cX12_flowsByHeights_1 := dcs_of (by decide +kernel)
def l_cX12_flowsByHeights_2 : List (Nat × Instr × Nat) := [(132, .aload_n 0, 1), (133, .iload_n 1, 1), (134, .aload_n 0, 1), (135, .getfield 16, 3), (138, .iload_n 1, 1), (139, .iaload, 1), (140, .invokevirtual 176, 3), (143, .iinc 1 1, 3), (146, .goto (-48), 3), (149, .aload_n 0, 1), (150, .getfield 166, 3), (153, .ifCond .le 56, 3), (156, .aload_n 0, 1), (157, .aload_n 0, 1), (158, .getfield 49, 3), (161, .iconst 0, 1), (162, .iaload, 1), (163, .invokevirtual 180, 3), (166, .aload_n 0, 1), (167, .dup, 1), (168, .getfield 166, 3), (171, .iconst 1, 1), (172, .isub, 1), (173, .putfield 166, 3), (176, .iconst 0, 1), (177, .istore_n 1, 1), (178, .iload_n 1, 1), (179, .aload_n 0, 1), (180, .getfield 166, 3), (183, .if_icmp .ge 23, 3), (186, .aload_n 0, 1), (187, .getfield 49, 3), (190, .iload_n 1, 1), (191, .aload_n 0, 1), (192, .getfield 49, 3), (195, .iload_n 1, 1), (196, .iconst 1, 1), (197, .iadd, 1), (198, .iaload, 1), (199, .iastore, 1)]
theorem D_cX12_flowsByHeights_2 : dcs cX12_flowsByHeights l_cX12_flowsByHeights_2 := dcs_of (by decide +kernel)
def l_cX12_flowsByHeights_3 : List (Nat × Instr × Nat) := [(200, .iinc 1 1, 3), (203, .goto (-25), 3), (206, .goto (-57), 3), (209, .return_, 1)]
theorem D_cX12_flowsByHeights_3 : dcs cX12_flowsByHeights l_cX12_flowsByHeights_3 := dcs_of (by decide +kernel)
def l_cX12_byHeights_0 : List (Nat × Instr × Nat) := [(0, .aload_n 0, 1), (1, .iload_n 1, 1), (2, .invokevirtual 113, 3), (5, .ifCond .ne 5, 3), (8, .iconst (-1), 1), (9, .ireturn, 1), (10, .aload_n 0, 1), (11, .invokevirtual 183, 3), (14, .aload_n 0, 1), (15, .getfield 19, 3), (18, .iload_n 1, 1), (19, .iaload, 1), (20, .ireturn, 1)]
theorem D_cX12_byHeights_0 : dcs cX12_byHeights l_cX12_byHeights_0 := dcs_of (by decide +kernel)
def l_cX12_heights_0 : List (Nat × Instr × Nat) := [(0, .iload_n 1, 1), (1, .iconst (-1), 1), (2, .if_icmp .ne 11, 3), (5, .iload_n 2, 1), (6, .ifCond .ne 7, 3), (9, .iconst 1, 1), (10, .goto 4, 3), (13, .iconst 0, 1), (14, .istore_n 3, 1), (15, .iload_n 3, 1), (16, .ifCond .ne 21, 3), (19, .iload_n 1, 1), (20, .invokestatic 106, 3), (23, .ifCond .eq 12, 3), (26, .iload_n 2, 1), (27, .iconst 0, 1), (28, .iconst 2, 1), (29, .invokestatic 90, 3), (32, .ifCond .ne 5, 3), (35, .iconst (-1), 1), (36, .ireturn, 1), (37, .aload_n 0, 1), (38, .invokevirtual 183, 3), (41, .iload_n 3, 1), (42, .ifCond .eq 10, 3), (45, .aload_n 0, 1), (46, .getfield 163, 3), (49, .goto 36, 3), (52, .iload_n 2, 1), (53, .ifCond .ne 12, 3), (56, .aload_n 0, 1), (57, .getfield 37, 3), (60, .iload_n 1, 1), (61, .iaload, 1), (62, .goto 23, 3), (65, .iload_n 2, 1), (66, .iconst 1, 1), (67, .if_icmp .ne 12, 3), (70, .aload_n 0, 1), (71, .getfield 43, 3)]
theorem D_cX12_heights_0 : dcs cX12_heights l_cX12_heights_0 := dcs_of (by decide +kernel)
def l_cX12_heights_1 : List (Nat × Instr × Nat) := [(74, .iload_n 1, 1), (75, .iaload, 1), (76, .goto 9, 3), (79, .aload_n 0, 1), (80, .getfield 46, 3), (83, .iload_n 1, 1), (84, .iaload, 1), (85, .ireturn, 1)]
theorem D_cX12_heights_1 : dcs cX12_heights l_cX12_heights_1 := dcs_of (by decide +kernel)
def l_cX12_reached_0 : List (Nat × Instr × Nat) := [(0, .iconst 0, 1), (1, .istore_n 1, 1), (2, .iconst 0, 1), (3, .istore_n 2, 1), (4, .iload_n 2, 1), (5, .bipush 12, 2), (7, .if_icmp .ge 28, 3), (10, .iload_n 1, 1), (11, .aload_n 0, 1), (12, .getfield 22, 3), (15, .iload_n 2, 1), (16, .iaload, 1), (17, .ifCond .lt 9, 3), (20, .iconst 1, 1), (21, .iload_n 2, 1), (22, .ishl, 1), (23, .goto 4, 3), (26, .iconst 0, 1), (27, .ior, 1), (28, .istore_n 1, 1), (29, .iinc 2 1, 3), (32, .goto (-28), 3), (35, .iload_n 1, 1), (36, .ireturn, 1)]
theorem D_cX12_reached_0 : dcs cX12_reached l_cX12_reached_0 := dcs_of (by decide +kernel)
def l_cX12_near_0 : List (Nat × Instr × Nat) := [(0, .aload_n 0, 1), (1, .invokevirtual 160, 3), (4, .pop, 1), (5, .aload_n 0, 1), (6, .aload_n 0, 1), (7, .getfield 9, 3), (10, .iconst 0, 1), (11, .iaload, 1), (12, .iconst 0, 1), (13, .invokevirtual 137, 3), (16, .aload_n 0, 1), (17, .invokevirtual 186, 3), (20, .ireturn, 1)]
theorem D_cX12_near_0 : dcs cX12_near l_cX12_near_0 := dcs_of (by decide +kernel)
def l_cX12_far_0 : List (Nat × Instr × Nat) := [(0, .aload_n 0, 1), (1, .invokevirtual 160, 3), (4, .pop, 1), (5, .aload_n 0, 1), (6, .aload_n 0, 1), (7, .getfield 9, 3), (10, .iconst 1, 1), (11, .iaload, 1), (12, .iconst 1, 1), (13, .invokevirtual 137, 3), (16, .aload_n 0, 1), (17, .invokevirtual 186, 3), (20, .ireturn, 1)]
theorem D_cX12_far_0 : dcs cX12_far l_cX12_far_0 := dcs_of (by decide +kernel)
def l_cX12_cut_0 : List (Nat × Instr × Nat) := [(0, .iload_n 1, 1), (1, .iconst 0, 1), (2, .iconst 1, 1), (3, .invokestatic 90, 3), (6, .ifCond .ne 5, 3), (9, .iconst (-1), 1), (10, .ireturn, 1), (11, .iload_n 1, 1), (12, .ifCond .ne 10, 3), (15, .aload_n 0, 1), (16, .invokevirtual 189, 3), (19, .goto 9, 3), (22, .aload_n 0, 1), (23, .invokevirtual 192, 3), (26, .iconst (-1), 1), (27, .ixor, 1), (28, .istore_n 2, 1), (29, .iconst 0, 1), (30, .istore_n 3, 1), (31, .iconst 0, 1), (32, .istore 4, 2), (34, .iload 4, 2), (36, .aload_n 0, 1), (37, .getfield 9, 3), (40, .iconst 2, 1), (41, .iaload, 1), (42, .if_icmp .ge 58, 3), (45, .iload_n 3, 1), (46, .aload_n 0, 1), (47, .iload 4, 2), (49, .invokevirtual 98, 3), (52, .ifCond .eq 39, 3), (55, .iload_n 2, 1), (56, .aload_n 0, 1), (57, .iload 4, 2), (59, .iconst 0, 1), (60, .invokevirtual 94, 3), (63, .ishr, 1), (64, .iconst 1, 1), (65, .iand, 1)]
theorem D_cX12_cut_0 : dcs cX12_cut l_cX12_cut_0 := dcs_of (by decide +kernel)
def l_cX12_cut_1 : List (Nat × Instr × Nat) := [(66, .iconst 1, 1), (67, .if_icmp .ne 24, 3), (70, .iload_n 2, 1), (71, .aload_n 0, 1), (72, .iload 4, 2), (74, .iconst 1, 1), (75, .invokevirtual 94, 3), (78, .ishr, 1), (79, .iconst 1, 1), (80, .iand, 1), (81, .ifCond .ne 10, 3), (84, .iconst 1, 1), (85, .iload 4, 2), (87, .ishl, 1), (88, .goto 4, 3), (91, .iconst 0, 1), (92, .ior, 1), (93, .istore_n 3, 1), (94, .iinc 4 1, 3), (97, .goto (-63), 3), (100, .iload_n 3, 1), (101, .ireturn, 1)]
theorem D_cX12_cut_1 : dcs cX12_cut l_cX12_cut_1 := dcs_of (by decide +kernel)
def l_cX12_flowsWith_0 : List (Nat × Instr × Nat) := [(0, .aload_n 0, 1), (1, .invokevirtual 153, 3), (4, .aload_n 0, 1), (5, .getfield 16, 3), (8, .iload_n 1, 1), (9, .dup2, 1), (10, .iaload, 1), (11, .iload_n 2, 1), (12, .iadd, 1), (13, .iastore, 1), (14, .aload_n 0, 1), (15, .invokevirtual 156, 3), (18, .ireturn, 1)]
theorem D_cX12_flowsWith_0 : dcs cX12_flowsWith l_cX12_flowsWith_0 := dcs_of (by decide +kernel)
def l_cX12_wide_0 : List (Nat × Instr × Nat) := [(0, .aload_n 0, 1), (1, .invokevirtual 160, 3), (4, .istore_n 1, 1), (5, .iconst 0, 1), (6, .istore_n 2, 1), (7, .iconst 0, 1), (8, .istore_n 3, 1), (9, .iload_n 3, 1), (10, .aload_n 0, 1), (11, .getfield 9, 3), (14, .iconst 2, 1), (15, .iaload, 1), (16, .if_icmp .ge 37, 3), (19, .iload_n 2, 1), (20, .aload_n 0, 1), (21, .iload_n 3, 1), (22, .invokevirtual 98, 3), (25, .ifCond .eq 19, 3), (28, .aload_n 0, 1), (29, .iload_n 3, 1), (30, .iconst 1, 1), (31, .invokevirtual 194, 3), (34, .iload_n 1, 1), (35, .if_icmp .le 9, 3), (38, .iconst 1, 1), (39, .iload_n 3, 1), (40, .ishl, 1), (41, .goto 4, 3), (44, .iconst 0, 1), (45, .ior, 1), (46, .istore_n 2, 1), (47, .iinc 3 1, 3), (50, .goto (-41), 3), (53, .iload_n 2, 1), (54, .ireturn, 1)]
theorem D_cX12_wide_0 : dcs cX12_wide l_cX12_wide_0 := dcs_of (by decide +kernel)
def l_cX12_narrow_0 : List (Nat × Instr × Nat) := [(0, .aload_n 0, 1), (1, .invokevirtual 160, 3), (4, .istore_n 1, 1), (5, .iconst 0, 1), (6, .istore_n 2, 1), (7, .iconst 0, 1), (8, .istore_n 3, 1), (9, .iload_n 3, 1), (10, .aload_n 0, 1), (11, .getfield 9, 3), (14, .iconst 2, 1), (15, .iaload, 1), (16, .if_icmp .ge 37, 3), (19, .iload_n 2, 1), (20, .aload_n 0, 1), (21, .iload_n 3, 1), (22, .invokevirtual 150, 3), (25, .ifCond .le 19, 3), (28, .aload_n 0, 1), (29, .iload_n 3, 1), (30, .iconst (-1), 1), (31, .invokevirtual 194, 3), (34, .iload_n 1, 1), (35, .if_icmp .ge 9, 3), (38, .iconst 1, 1), (39, .iload_n 3, 1), (40, .ishl, 1), (41, .goto 4, 3), (44, .iconst 0, 1), (45, .ior, 1), (46, .istore_n 2, 1), (47, .iinc 3 1, 3), (50, .goto (-41), 3), (53, .iload_n 2, 1), (54, .ireturn, 1)]
theorem D_cX12_narrow_0 : dcs cX12_narrow l_cX12_narrow_0 := dcs_of (by decide +kernel)
def l_cX12_more_0 : List (Nat × Instr × Nat) := [(0, .aload_n 0, 1), (1, .iload_n 1, 1), (2, .invokevirtual 113, 3), (5, .ifCond .ne 5, 3), (8, .iconst (-1), 1), (9, .ireturn, 1), (10, .iload_n 2, 1), (11, .iconst 0, 1), (12, .sipush 999, 3), (15, .invokestatic 90, 3), (18, .ifCond .ne 6, 3), (21, .bipush (-2), 2), (23, .ireturn, 1), (24, .aload_n 0, 1), (25, .iload_n 1, 1), (26, .invokevirtual 98, 3), (29, .ifCond .eq 17, 3), (32, .aload_n 0, 1), (33, .iload_n 1, 1), (34, .iload_n 2, 1), (35, .invokevirtual 194, 3), (38, .aload_n 0, 1), (39, .invokevirtual 160, 3), (42, .isub, 1), (43, .goto 5, 3), (46, .bipush (-3), 2), (48, .ireturn, 1)]
theorem D_cX12_more_0 : dcs cX12_more l_cX12_more_0 := dcs_of (by decide +kernel)
def l_cX12_lossOf_0 : List (Nat × Instr × Nat) := [(0, .aload_n 0, 1), (1, .invokevirtual 153, 3), (4, .iconst 0, 1), (5, .istore_n 3, 1), (6, .iload_n 3, 1), (7, .aload_n 0, 1), (8, .getfield 9, 3), (11, .iconst 2, 1), (12, .iaload, 1), (13, .if_icmp .ge 34, 3), (16, .aload_n 0, 1), (17, .getfield 16, 3), (20, .iload_n 3, 1), (21, .iload_n 2, 1), (22, .iload_n 3, 1), (23, .ishr, 1), (24, .iconst 1, 1), (25, .iand, 1), (26, .iconst 1, 1), (27, .if_icmp .ne 7, 3), (30, .iconst 0, 1), (31, .goto 9, 3), (34, .aload_n 0, 1), (35, .getfield 16, 3), (38, .iload_n 3, 1), (39, .iaload, 1), (40, .iastore, 1), (41, .iinc 3 1, 3), (44, .goto (-38), 3), (47, .iload_n 1, 1), (48, .aload_n 0, 1), (49, .invokevirtual 156, 3), (52, .isub, 1), (53, .ireturn, 1)]
theorem D_cX12_lossOf_0 : dcs cX12_lossOf l_cX12_lossOf_0 := dcs_of (by decide +kernel)
def l_cX12_loss_0 : List (Nat × Instr × Nat) := [(0, .iload_n 1, 1), (1, .ifCond .lt 14, 3), (4, .iload_n 1, 1), (5, .aload_n 0, 1), (6, .getfield 9, 3), (9, .iconst 2, 1), (10, .iaload, 1), (11, .ishr, 1), (12, .ifCond .eq 8, 3), (15, .bipush (-2), 2), (17, .goto 12, 3), (20, .aload_n 0, 1), (21, .aload_n 0, 1), (22, .invokevirtual 160, 3), (25, .iload_n 1, 1), (26, .invokevirtual 197, 3), (29, .ireturn, 1)]
theorem D_cX12_loss_0 : dcs cX12_loss l_cX12_loss_0 := dcs_of (by decide +kernel)
def l_cX12_worst_0 : List (Nat × Instr × Nat) := [(0, .iload_n 1, 1), (1, .iconst 0, 1), (2, .iconst 3, 1), (3, .invokestatic 90, 3), (6, .ifCond .ne 5, 3), (9, .iconst (-1), 1), (10, .ireturn, 1), (11, .aload_n 0, 1), (12, .invokevirtual 160, 3), (15, .istore_n 2, 1), (16, .iconst (-1), 1), (17, .istore_n 3, 1), (18, .bipush (-5), 2), (20, .istore 4, 2), (22, .iconst 0, 1), (23, .istore 5, 2), (25, .iload 5, 2), (27, .aload_n 0, 1), (28, .getfield 9, 3), (31, .iconst 2, 1), (32, .iaload, 1), (33, .if_icmp .ge 99, 3), (36, .iload_n 1, 1), (37, .iconst 2, 1), (38, .if_icmp .ge 8, 3), (41, .iload 5, 2), (43, .goto 7, 3), (46, .iload 5, 2), (48, .iconst 1, 1), (49, .iadd, 1), (50, .istore 6, 2), (52, .iload 6, 2), (54, .iload_n 1, 1), (55, .iconst 2, 1), (56, .if_icmp .ge 10, 3), (59, .iload 5, 2), (61, .iconst 1, 1), (62, .iadd, 1), (63, .goto 9, 3), (66, .aload_n 0, 1)]
theorem D_cX12_worst_0 : dcs cX12_worst l_cX12_worst_0 := dcs_of (by decide +kernel)
def l_cX12_worst_1 : List (Nat × Instr × Nat) := [(67, .getfield 9, 3), (70, .iconst 2, 1), (71, .iaload, 1), (72, .if_icmp .ge 54, 3), (75, .aload_n 0, 1), (76, .iload_n 2, 1), (77, .iconst 1, 1), (78, .iload 5, 2), (80, .ishl, 1), (81, .iconst 1, 1), (82, .iload 6, 2), (84, .ishl, 1), (85, .ior, 1), (86, .invokevirtual 197, 3), (89, .istore 7, 2), (91, .iload 7, 2), (93, .iload_n 3, 1), (94, .if_icmp .le 26, 3), (97, .iload 7, 2), (99, .istore_n 3, 1), (100, .iload_n 1, 1), (101, .iconst 2, 1), (102, .if_icmp .ge 8, 3), (105, .iload 5, 2), (107, .goto 11, 3), (110, .bipush 100, 2), (112, .iload 5, 2), (114, .imul, 1), (115, .iload 6, 2), (117, .iadd, 1), (118, .istore 4, 2), (120, .iinc 6 1, 3), (123, .goto (-71), 3), (126, .iinc 5 1, 3), (129, .goto (-104), 3), (132, .iload_n 3, 1), (133, .ifCond .ge 8, 3), (136, .bipush (-5), 2), (138, .goto 15, 3), (141, .iload_n 1, 1)]
theorem D_cX12_worst_1 : dcs cX12_worst l_cX12_worst_1 := dcs_of (by decide +kernel)
def l_cX12_worst_2 : List (Nat × Instr × Nat) := [(142, .iconst 2, 1), (143, .irem, 1), (144, .ifCond .ne 8, 3), (147, .iload 4, 2), (149, .goto 4, 3), (152, .iload_n 3, 1), (153, .ireturn, 1)]
theorem D_cX12_worst_2 : dcs cX12_worst l_cX12_worst_2 := dcs_of (by decide +kernel)
def l_cX12_watered_0 : List (Nat × Instr × Nat) := [(0, .iconst 0, 1), (1, .istore_n 2, 1), (2, .iload_n 2, 1), (3, .aload_n 0, 1), (4, .getfield 9, 3), (7, .iconst 2, 1), (8, .iaload, 1), (9, .if_icmp .ge 30, 3), (12, .aload_n 0, 1), (13, .iload_n 2, 1), (14, .iconst 0, 1), (15, .invokevirtual 94, 3), (18, .iload_n 1, 1), (19, .if_icmp .ne 14, 3), (22, .aload_n 0, 1), (23, .getfield 65, 3), (26, .iload_n 2, 1), (27, .iaload, 1), (28, .ifCond .le 5, 3), (31, .iload_n 2, 1), (32, .ireturn, 1), (33, .iinc 2 1, 3), (36, .goto (-34), 3), (39, .iconst (-1), 1), (40, .ireturn, 1)]
theorem D_cX12_watered_0 : dcs cX12_watered l_cX12_watered_0 := dcs_of (by decide +kernel)
def l_cX12_takes_0 : List (Nat × Instr × Nat) := [(0, .iconst 0, 1), (1, .istore_n 1, 1), (2, .iconst (-1), 1), (3, .istore_n 2, 1), (4, .aload_n 0, 1), (5, .getfield 9, 3), (8, .iconst 0, 1), (9, .iaload, 1), (10, .istore_n 3, 1), (11, .iload_n 3, 1), (12, .aload_n 0, 1), (13, .getfield 9, 3), (16, .iconst 1, 1), (17, .iaload, 1), (18, .if_icmp .eq 74, 3), (21, .iload_n 2, 1), (22, .ifCond .ge 70, 3), (25, .aload_n 0, 1), (26, .getfield 68, 3), (29, .iload_n 1, 1), (30, .aload_n 0, 1), (31, .iload_n 3, 1), (32, .invokevirtual 200, 3), (35, .iastore, 1), (36, .aload_n 0, 1), (37, .aload_n 0, 1), (38, .getfield 68, 3), (41, .iload_n 1, 1), (42, .iaload, 1), (43, .iconst 1, 1), (44, .invokevirtual 94, 3), (47, .istore_n 3, 1), (48, .iinc 1 1, 3), (51, .iconst 0, 1), (52, .istore 4, 2), (54, .iload 4, 2), (56, .iload_n 1, 1), (57, .if_icmp .ge 32, 3), (60, .aload_n 0, 1), (61, .aload_n 0, 1)]
theorem D_cX12_takes_0 : dcs cX12_takes l_cX12_takes_0 := dcs_of (by decide +kernel)
def l_cX12_takes_1 : List (Nat × Instr × Nat) := [(62, .getfield 68, 3), (65, .iload 4, 2), (67, .iaload, 1), (68, .iconst 0, 1), (69, .invokevirtual 94, 3), (72, .iload_n 3, 1), (73, .if_icmp .ne 8, 3), (76, .iload 4, 2), (78, .goto 4, 3), (81, .iload_n 2, 1), (82, .istore_n 2, 1), (83, .iinc 4 1, 3), (86, .goto (-32), 3), (89, .goto (-78), 3), (92, .iconst 0, 1), (93, .iload_n 2, 1), (94, .invokestatic 203, 3), (97, .istore 4, 2), (99, .ldc 141, 2), (101, .istore 5, 2), (103, .iload 4, 2), (105, .istore 6, 2), (107, .iload 6, 2), (109, .iload_n 1, 1), (110, .if_icmp .ge 28, 3), (113, .iload 5, 2), (115, .aload_n 0, 1), (116, .getfield 65, 3), (119, .aload_n 0, 1), (120, .getfield 68, 3), (123, .iload 6, 2), (125, .iaload, 1), (126, .iaload, 1), (127, .invokestatic 145, 3), (130, .istore 5, 2), (132, .iinc 6 1, 3), (135, .goto (-28), 3), (138, .iload 4, 2), (140, .istore 6, 2), (142, .iload 6, 2)]
theorem D_cX12_takes_1 : dcs cX12_takes l_cX12_takes_1 := dcs_of (by decide +kernel)
def l_cX12_takes_2 : List (Nat × Instr × Nat) := [(144, .iload_n 1, 1), (145, .if_icmp .ge 51, 3), (148, .aload_n 0, 1), (149, .getfield 65, 3), (152, .aload_n 0, 1), (153, .getfield 68, 3), (156, .iload 6, 2), (158, .iaload, 1), (159, .dup2, 1), (160, .iaload, 1), (161, .iload 5, 2), (163, .isub, 1), (164, .iastore, 1), (165, .aload_n 0, 1), (166, .getfield 62, 3), (169, .aload_n 0, 1), (170, .getfield 206, 3), (173, .bipush 12, 2), (175, .imul, 1), (176, .iload 6, 2), (178, .iadd, 1), (179, .iload 4, 2), (181, .isub, 1), (182, .aload_n 0, 1), (183, .getfield 68, 3), (186, .iload 6, 2), (188, .iaload, 1), (189, .iastore, 1), (190, .iinc 6 1, 3), (193, .goto (-51), 3), (196, .aload_n 0, 1), (197, .getfield 52, 3), (200, .aload_n 0, 1), (201, .getfield 206, 3), (204, .iload 5, 2), (206, .iastore, 1), (207, .aload_n 0, 1), (208, .getfield 55, 3), (211, .aload_n 0, 1), (212, .getfield 206, 3)]
theorem D_cX12_takes_2 : dcs cX12_takes l_cX12_takes_2 := dcs_of (by decide +kernel)
def l_cX12_takes_3 : List (Nat × Instr × Nat) := [(215, .iload_n 1, 1), (216, .iload 4, 2), (218, .isub, 1), (219, .iastore, 1), (220, .aload_n 0, 1), (221, .getfield 58, 3), (224, .aload_n 0, 1), (225, .getfield 206, 3), (228, .iload_n 2, 1), (229, .ifCond .lt 7, 3), (232, .iconst 1, 1), (233, .goto 4, 3), (236, .iconst 0, 1), (237, .bastore, 1), (238, .aload_n 0, 1), (239, .dup, 1), (240, .getfield 206, 3), (243, .iconst 1, 1), (244, .iadd, 1), (245, .putfield 206, 3), (248, .return_, 1)]
theorem D_cX12_takes_3 : dcs cX12_takes l_cX12_takes_3 := dcs_of (by decide +kernel)
def l_cX12_findLines_0 : List (Nat × Instr × Nat) := [(0, .aload_n 0, 1), (1, .invokevirtual 160, 3), (4, .pop, 1), (5, .iconst 0, 1), (6, .istore_n 1, 1), (7, .iload_n 1, 1), (8, .aload_n 0, 1), (9, .getfield 9, 3), (12, .iconst 2, 1), (13, .iaload, 1), (14, .if_icmp .ge 21, 3), (17, .aload_n 0, 1), (18, .getfield 65, 3), (21, .iload_n 1, 1), (22, .aload_n 0, 1), (23, .getfield 19, 3), (26, .iload_n 1, 1), (27, .iaload, 1), (28, .iastore, 1), (29, .iinc 1 1, 3), (32, .goto (-25), 3), (35, .aload_n 0, 1), (36, .iconst 0, 1), (37, .putfield 206, 3), (40, .aload_n 0, 1), (41, .aload_n 0, 1), (42, .getfield 9, 3), (45, .iconst 0, 1), (46, .iaload, 1), (47, .invokevirtual 200, 3), (50, .ifCond .lt 10, 3), (53, .aload_n 0, 1), (54, .invokevirtual 209, 3), (57, .goto (-17), 3), (60, .return_, 1)]
theorem D_cX12_findLines_0 : dcs cX12_findLines l_cX12_findLines_0 := dcs_of (by decide +kernel)
def l_cX12_lines_0 : List (Nat × Instr × Nat) := [(0, .iload_n 1, 1), (1, .iconst (-1), 1), (2, .if_icmp .ge 5, 3), (5, .iconst (-1), 1), (6, .ireturn, 1), (7, .aload_n 0, 1), (8, .invokevirtual 212, 3), (11, .iload_n 1, 1), (12, .iconst (-1), 1), (13, .if_icmp .ne 8, 3), (16, .aload_n 0, 1), (17, .getfield 206, 3), (20, .ireturn, 1), (21, .iload_n 1, 1), (22, .aload_n 0, 1), (23, .getfield 206, 3), (26, .if_icmp .lt 5, 3), (29, .iconst (-1), 1), (30, .ireturn, 1), (31, .iload_n 2, 1), (32, .tableswitch 57 0 2 #[28, 35, 42], 28), (60, .aload_n 0, 1), (61, .getfield 52, 3), (64, .iload_n 1, 1), (65, .iaload, 1), (66, .ireturn, 1), (67, .aload_n 0, 1), (68, .getfield 55, 3), (71, .iload_n 1, 1), (72, .iaload, 1), (73, .ireturn, 1), (74, .aload_n 0, 1), (75, .getfield 58, 3), (78, .iload_n 1, 1), (79, .baload, 1), (80, .ifCond .eq 7, 3), (83, .iconst 1, 1), (84, .goto 4, 3), (87, .iconst 0, 1), (88, .ireturn, 1)]
theorem D_cX12_lines_0 : dcs cX12_lines l_cX12_lines_0 := dcs_of (by decide +kernel)
def l_cX12_lines_1 : List (Nat × Instr × Nat) := [(89, .iload_n 2, 1), (90, .bipush 10, 2), (92, .bipush 9, 2), (94, .aload_n 0, 1), (95, .getfield 55, 3), (98, .iload_n 1, 1), (99, .iaload, 1), (100, .iadd, 1), (101, .invokestatic 90, 3), (104, .ifCond .eq 20, 3), (107, .aload_n 0, 1), (108, .getfield 62, 3), (111, .iload_n 1, 1), (112, .bipush 12, 2), (114, .imul, 1), (115, .iload_n 2, 1), (116, .iadd, 1), (117, .bipush 10, 2), (119, .isub, 1), (120, .iaload, 1), (121, .goto 4, 3), (124, .iconst (-1), 1), (125, .ireturn, 1)]
theorem D_cX12_lines_1 : dcs cX12_lines l_cX12_lines_1 := dcs_of (by decide +kernel)
def l_cX12_linesOf_0 : List (Nat × Instr × Nat) := [(0, .aload_n 0, 1), (1, .invokevirtual 212, 3), (4, .iconst 0, 1), (5, .istore_n 2, 1), (6, .iconst 0, 1), (7, .istore_n 3, 1), (8, .iload_n 3, 1), (9, .aload_n 0, 1), (10, .getfield 206, 3), (13, .if_icmp .ge 27, 3), (16, .iload_n 2, 1), (17, .aload_n 0, 1), (18, .getfield 58, 3), (21, .iload_n 3, 1), (22, .baload, 1), (23, .iload_n 1, 1), (24, .if_icmp .ne 7, 3), (27, .iconst 1, 1), (28, .goto 4, 3), (31, .iconst 0, 1), (32, .iadd, 1), (33, .istore_n 2, 1), (34, .iinc 3 1, 3), (37, .goto (-29), 3), (40, .iload_n 2, 1), (41, .ireturn, 1)]
theorem D_cX12_linesOf_0 : dcs cX12_linesOf l_cX12_linesOf_0 := dcs_of (by decide +kernel)
def l_cX12_clears_0 : List (Nat × Instr × Nat) := [(0, .aload_n 0, 1), (1, .iload_n 1, 1), (2, .putfield 215, 3), (5, .iconst 0, 1), (6, .istore_n 2, 1), (7, .iload_n 2, 1), (8, .aload_n 0, 1), (9, .getfield 215, 3), (12, .aload_n 0, 1), (13, .getfield 215, 3), (16, .imul, 1), (17, .if_icmp .ge 16, 3), (20, .aload_n 0, 1), (21, .getfield 71, 3), (24, .iload_n 2, 1), (25, .iconst 0, 1), (26, .iastore, 1), (27, .iinc 2 1, 3), (30, .goto (-23), 3), (33, .return_, 1)]
theorem D_cX12_clears_0 : dcs cX12_clears l_cX12_clears_0 := dcs_of (by decide +kernel)
def l_cX12_adds_0 : List (Nat × Instr × Nat) := [(0, .aload_n 0, 1), (1, .getfield 71, 3), (4, .iload_n 1, 1), (5, .aload_n 0, 1), (6, .getfield 215, 3), (9, .imul, 1), (10, .iload_n 2, 1), (11, .iadd, 1), (12, .dup2, 1), (13, .iaload, 1), (14, .iload_n 3, 1), (15, .iadd, 1), (16, .iastore, 1), (17, .return_, 1)]
theorem D_cX12_adds_0 : dcs cX12_adds l_cX12_adds_0 := dcs_of (by decide +kernel)
def l_cX12_findsWay_0 : List (Nat × Instr × Nat) := [(0, .iconst 0, 1), (1, .istore_n 3, 1), (2, .iload_n 3, 1), (3, .aload_n 0, 1), (4, .getfield 215, 3), (7, .if_icmp .ge 16, 3), (10, .aload_n 0, 1), (11, .getfield 74, 3), (14, .iload_n 3, 1), (15, .iconst (-1), 1), (16, .iastore, 1), (17, .iinc 3 1, 3), (20, .goto (-18), 3), (23, .aload_n 0, 1), (24, .getfield 74, 3), (27, .iload_n 1, 1), (28, .iload_n 1, 1), (29, .iastore, 1), (30, .aload_n 0, 1), (31, .getfield 25, 3), (34, .iconst 0, 1), (35, .iload_n 1, 1), (36, .iastore, 1), (37, .iconst 1, 1), (38, .istore_n 3, 1), (39, .iconst 0, 1), (40, .istore 4, 2), (42, .iload 4, 2), (44, .iload_n 3, 1), (45, .if_icmp .ge 94, 3), (48, .aload_n 0, 1), (49, .getfield 74, 3), (52, .iload_n 2, 1), (53, .iaload, 1), (54, .ifCond .ge 85, 3), (57, .iconst 0, 1), (58, .istore 5, 2), (60, .iload 5, 2), (62, .aload_n 0, 1), (63, .getfield 215, 3)]
theorem D_cX12_findsWay_0 : dcs cX12_findsWay l_cX12_findsWay_0 := dcs_of (by decide +kernel)
def l_cX12_findsWay_1 : List (Nat × Instr × Nat) := [(66, .if_icmp .ge 67, 3), (69, .aload_n 0, 1), (70, .getfield 74, 3), (73, .iload 5, 2), (75, .iaload, 1), (76, .ifCond .ge 51, 3), (79, .aload_n 0, 1), (80, .getfield 71, 3), (83, .aload_n 0, 1), (84, .getfield 25, 3), (87, .iload 4, 2), (89, .iaload, 1), (90, .aload_n 0, 1), (91, .getfield 215, 3), (94, .imul, 1), (95, .iload 5, 2), (97, .iadd, 1), (98, .iaload, 1), (99, .ifCond .le 28, 3), (102, .aload_n 0, 1), (103, .getfield 74, 3), (106, .iload 5, 2), (108, .aload_n 0, 1), (109, .getfield 25, 3), (112, .iload 4, 2), (114, .iaload, 1), (115, .iastore, 1), (116, .aload_n 0, 1), (117, .getfield 25, 3), (120, .iload_n 3, 1), (121, .iload 5, 2), (123, .iastore, 1), (124, .iinc 3 1, 3), (127, .iinc 5 1, 3), (130, .goto (-70), 3), (133, .iinc 4 1, 3), (136, .goto (-94), 3), (139, .aload_n 0, 1), (140, .getfield 74, 3), (143, .iload_n 2, 1)]
theorem D_cX12_findsWay_1 : dcs cX12_findsWay l_cX12_findsWay_1 := dcs_of (by decide +kernel)
def l_cX12_findsWay_2 : List (Nat × Instr × Nat) := [(144, .iaload, 1), (145, .ifCond .lt 7, 3), (148, .iconst 1, 1), (149, .goto 4, 3), (152, .iconst 0, 1), (153, .ireturn, 1)]
theorem D_cX12_findsWay_2 : dcs cX12_findsWay l_cX12_findsWay_2 := dcs_of (by decide +kernel)
def l_cX12_passes_0 : List (Nat × Instr × Nat) := [(0, .iconst 0, 1), (1, .istore_n 3, 1), (2, .aload_n 0, 1), (3, .iload_n 1, 1), (4, .iload_n 2, 1), (5, .invokevirtual 218, 3), (8, .ifCond .eq 115, 3), (11, .ldc 141, 2), (13, .istore 4, 2), (15, .iload_n 2, 1), (16, .istore 5, 2), (18, .iload 5, 2), (20, .iload_n 1, 1), (21, .if_icmp .eq 42, 3), (24, .iload 4, 2), (26, .aload_n 0, 1), (27, .getfield 71, 3), (30, .aload_n 0, 1), (31, .getfield 74, 3), (34, .iload 5, 2), (36, .iaload, 1), (37, .aload_n 0, 1), (38, .getfield 215, 3), (41, .imul, 1), (42, .iload 5, 2), (44, .iadd, 1), (45, .iaload, 1), (46, .invokestatic 145, 3), (49, .istore 4, 2), (51, .aload_n 0, 1), (52, .getfield 74, 3), (55, .iload 5, 2), (57, .iaload, 1), (58, .istore 5, 2), (60, .goto (-42), 3), (63, .iload_n 2, 1), (64, .istore 5, 2), (66, .iload 5, 2), (68, .iload_n 1, 1), (69, .if_icmp .eq 46, 3)]
theorem D_cX12_passes_0 : dcs cX12_passes l_cX12_passes_0 := dcs_of (by decide +kernel)
def l_cX12_passes_1 : List (Nat × Instr × Nat) := [(72, .aload_n 0, 1), (73, .aload_n 0, 1), (74, .getfield 74, 3), (77, .iload 5, 2), (79, .iaload, 1), (80, .iload 5, 2), (82, .iload 4, 2), (84, .ineg, 1), (85, .invokevirtual 222, 3), (88, .aload_n 0, 1), (89, .iload 5, 2), (91, .aload_n 0, 1), (92, .getfield 74, 3), (95, .iload 5, 2), (97, .iaload, 1), (98, .iload 4, 2), (100, .invokevirtual 222, 3), (103, .aload_n 0, 1), (104, .getfield 74, 3), (107, .iload 5, 2), (109, .iaload, 1), (110, .istore 5, 2), (112, .goto (-46), 3), (115, .iload_n 3, 1), (116, .iload 4, 2), (118, .iadd, 1), (119, .istore_n 3, 1), (120, .goto (-118), 3), (123, .iload_n 3, 1), (124, .ireturn, 1)]
theorem D_cX12_passes_1 : dcs cX12_passes l_cX12_passes_1 := dcs_of (by decide +kernel)
def l_cX12_parts_0 : List (Nat × Instr × Nat) := [(0, .iconst 0, 1), (1, .istore_n 2, 1), (2, .iload_n 2, 1), (3, .aload_n 0, 1), (4, .getfield 215, 3), (7, .if_icmp .ge 37, 3), (10, .aload_n 0, 1), (11, .getfield 71, 3), (14, .iload_n 1, 1), (15, .aload_n 0, 1), (16, .getfield 215, 3), (19, .imul, 1), (20, .iload_n 2, 1), (21, .iadd, 1), (22, .iconst 0, 1), (23, .iastore, 1), (24, .aload_n 0, 1), (25, .getfield 71, 3), (28, .iload_n 2, 1), (29, .aload_n 0, 1), (30, .getfield 215, 3), (33, .imul, 1), (34, .iload_n 1, 1), (35, .iadd, 1), (36, .iconst 0, 1), (37, .iastore, 1), (38, .iinc 2 1, 3), (41, .goto (-39), 3), (44, .return_, 1)]
theorem D_cX12_parts_0 : dcs cX12_parts l_cX12_parts_0 := dcs_of (by decide +kernel)
def l_cX12_bound_0 : List (Nat × Instr × Nat) := [(0, .iload_n 1, 1), (1, .iconst 0, 1), (2, .iconst 1, 1), (3, .invokestatic 90, 3), (6, .ifCond .ne 5, 3), (9, .iconst (-1), 1), (10, .ireturn, 1), (11, .bipush 12, 2), (13, .istore_n 2, 1), (14, .bipush 13, 2), (16, .istore_n 3, 1), (17, .bipush 14, 2), (19, .istore 4, 2), (21, .aload_n 0, 1), (22, .bipush 15, 2), (24, .invokevirtual 225, 3), (27, .iconst 0, 1), (28, .istore 5, 2), (30, .iconst 0, 1), (31, .istore 6, 2), (33, .iload 6, 2), (35, .aload_n 0, 1), (36, .getfield 9, 3), (39, .iconst 2, 1), (40, .iaload, 1), (41, .if_icmp .ge 101, 3), (44, .aload_n 0, 1), (45, .iload 6, 2), (47, .invokevirtual 98, 3), (50, .ifCond .eq 86, 3), (53, .aload_n 0, 1), (54, .aload_n 0, 1), (55, .iload 6, 2), (57, .iconst 0, 1), (58, .invokevirtual 94, 3), (61, .aload_n 0, 1), (62, .iload 6, 2), (64, .iconst 1, 1), (65, .invokevirtual 94, 3), (68, .aload_n 0, 1)]
theorem D_cX12_bound_0 : dcs cX12_bound l_cX12_bound_0 := dcs_of (by decide +kernel)
def l_cX12_bound_1 : List (Nat × Instr × Nat) := [(69, .iload 6, 2), (71, .iconst 3, 1), (72, .invokevirtual 94, 3), (75, .aload_n 0, 1), (76, .iload 6, 2), (78, .iconst 2, 1), (79, .invokevirtual 94, 3), (82, .isub, 1), (83, .invokevirtual 222, 3), (86, .aload_n 0, 1), (87, .iload_n 2, 1), (88, .aload_n 0, 1), (89, .iload 6, 2), (91, .iconst 1, 1), (92, .invokevirtual 94, 3), (95, .aload_n 0, 1), (96, .iload 6, 2), (98, .iconst 2, 1), (99, .invokevirtual 94, 3), (102, .invokevirtual 222, 3), (105, .aload_n 0, 1), (106, .aload_n 0, 1), (107, .iload 6, 2), (109, .iconst 0, 1), (110, .invokevirtual 94, 3), (113, .iload_n 3, 1), (114, .aload_n 0, 1), (115, .iload 6, 2), (117, .iconst 2, 1), (118, .invokevirtual 94, 3), (121, .invokevirtual 222, 3), (124, .iload 5, 2), (126, .aload_n 0, 1), (127, .iload 6, 2), (129, .iconst 2, 1), (130, .invokevirtual 94, 3), (133, .iadd, 1), (134, .istore 5, 2), (136, .iinc 6 1, 3), (139, .goto (-106), 3)]
theorem D_cX12_bound_1 : dcs cX12_bound l_cX12_bound_1 := dcs_of (by decide +kernel)
def l_cX12_bound_2 : List (Nat × Instr × Nat) := [(142, .aload_n 0, 1), (143, .aload_n 0, 1), (144, .getfield 9, 3), (147, .iconst 1, 1), (148, .iaload, 1), (149, .iload 4, 2), (151, .ldc 141, 2), (153, .invokevirtual 222, 3), (156, .aload_n 0, 1), (157, .iload 4, 2), (159, .aload_n 0, 1), (160, .getfield 9, 3), (163, .iconst 0, 1), (164, .iaload, 1), (165, .ldc 141, 2), (167, .invokevirtual 222, 3), (170, .aload_n 0, 1), (171, .aload_n 0, 1), (172, .getfield 9, 3), (175, .iconst 0, 1), (176, .iaload, 1), (177, .iload 4, 2), (179, .ldc 141, 2), (181, .invokevirtual 222, 3), (184, .aload_n 0, 1), (185, .iload 4, 2), (187, .aload_n 0, 1), (188, .getfield 9, 3), (191, .iconst 1, 1), (192, .iaload, 1), (193, .ldc 141, 2), (195, .invokevirtual 222, 3), (198, .aload_n 0, 1), (199, .iload_n 2, 1), (200, .iload_n 3, 1), (201, .invokevirtual 228, 3), (204, .iload 5, 2), (206, .if_icmp .ge 6, 3), (209, .bipush (-5), 2), (211, .ireturn, 1)]
theorem D_cX12_bound_2 : dcs cX12_bound l_cX12_bound_2 := dcs_of (by decide +kernel)
def l_cX12_bound_3 : List (Nat × Instr × Nat) := [(212, .aload_n 0, 1), (213, .getfield 71, 3), (216, .aload_n 0, 1), (217, .getfield 9, 3), (220, .iconst 0, 1), (221, .iaload, 1), (222, .aload_n 0, 1), (223, .getfield 215, 3), (226, .imul, 1), (227, .iload 4, 2), (229, .iadd, 1), (230, .iaload, 1), (231, .ldc 141, 2), (233, .isub, 1), (234, .istore 6, 2), (236, .aload_n 0, 1), (237, .iload_n 2, 1), (238, .invokevirtual 231, 3), (241, .aload_n 0, 1), (242, .iload_n 3, 1), (243, .invokevirtual 231, 3), (246, .aload_n 0, 1), (247, .iload 4, 2), (249, .invokevirtual 231, 3), (252, .iload_n 1, 1), (253, .ifCond .ne 37, 3), (256, .iload 6, 2), (258, .aload_n 0, 1), (259, .aload_n 0, 1), (260, .getfield 9, 3), (263, .iconst 0, 1), (264, .iaload, 1), (265, .aload_n 0, 1), (266, .getfield 9, 3), (269, .iconst 1, 1), (270, .iaload, 1), (271, .invokevirtual 228, 3), (274, .iadd, 1), (275, .istore 7, 2), (277, .iload 7, 2)]
theorem D_cX12_bound_3 : dcs cX12_bound l_cX12_bound_3 := dcs_of (by decide +kernel)
def l_cX12_bound_4 : List (Nat × Instr × Nat) := [(279, .ifCond .ge 8, 3), (282, .bipush (-5), 2), (284, .goto 5, 3), (287, .iload 7, 2), (289, .ireturn, 1), (290, .iload 6, 2), (292, .aload_n 0, 1), (293, .aload_n 0, 1), (294, .getfield 9, 3), (297, .iconst 1, 1), (298, .iaload, 1), (299, .aload_n 0, 1), (300, .getfield 9, 3), (303, .iconst 0, 1), (304, .iaload, 1), (305, .invokevirtual 228, 3), (308, .isub, 1), (309, .istore 7, 2), (311, .iload 7, 2), (313, .ifCond .lt 6, 3), (316, .iload 7, 2), (318, .ireturn, 1), (319, .aload_n 0, 1), (320, .iconst 0, 1), (321, .invokevirtual 234, 3), (324, .ifCond .ge 8, 3), (327, .bipush (-5), 2), (329, .goto 4, 3), (332, .iconst 0, 1), (333, .ireturn, 1)]
theorem D_cX12_bound_4 : dcs cX12_bound l_cX12_bound_4 := dcs_of (by decide +kernel)
def l_cX12_apart_0 : List (Nat × Instr × Nat) := [(0, .iload_n 1, 1), (1, .iconst 0, 1), (2, .iconst 1, 1), (3, .invokestatic 90, 3), (6, .ifCond .ne 5, 3), (9, .iconst (-1), 1), (10, .ireturn, 1), (11, .aload_n 0, 1), (12, .bipush 24, 2), (14, .invokevirtual 225, 3), (17, .iconst 0, 1), (18, .istore_n 2, 1), (19, .iload_n 2, 1), (20, .bipush 12, 2), (22, .if_icmp .ge 48, 3), (25, .aload_n 0, 1), (26, .iload_n 2, 1), (27, .bipush 12, 2), (29, .iload_n 2, 1), (30, .iadd, 1), (31, .iload_n 1, 1), (32, .ifCond .eq 23, 3), (35, .iload_n 2, 1), (36, .aload_n 0, 1), (37, .getfield 9, 3), (40, .iconst 0, 1), (41, .iaload, 1), (42, .if_icmp .eq 13, 3), (45, .iload_n 2, 1), (46, .aload_n 0, 1), (47, .getfield 9, 3), (50, .iconst 1, 1), (51, .iaload, 1), (52, .if_icmp .ne 8, 3), (55, .bipush 30, 2), (57, .goto 4, 3), (60, .iconst 1, 1), (61, .invokevirtual 222, 3), (64, .iinc 2 1, 3), (67, .goto (-48), 3)]
theorem D_cX12_apart_0 : dcs cX12_apart l_cX12_apart_0 := dcs_of (by decide +kernel)
def l_cX12_apart_1 : List (Nat × Instr × Nat) := [(70, .iconst 0, 1), (71, .istore_n 2, 1), (72, .iload_n 2, 1), (73, .aload_n 0, 1), (74, .getfield 9, 3), (77, .iconst 2, 1), (78, .iaload, 1), (79, .if_icmp .ge 37, 3), (82, .aload_n 0, 1), (83, .iload_n 2, 1), (84, .invokevirtual 150, 3), (87, .ifCond .le 23, 3), (90, .aload_n 0, 1), (91, .bipush 12, 2), (93, .aload_n 0, 1), (94, .iload_n 2, 1), (95, .iconst 0, 1), (96, .invokevirtual 94, 3), (99, .iadd, 1), (100, .aload_n 0, 1), (101, .iload_n 2, 1), (102, .iconst 1, 1), (103, .invokevirtual 94, 3), (106, .iconst 1, 1), (107, .invokevirtual 222, 3), (110, .iinc 2 1, 3), (113, .goto (-41), 3), (116, .aload_n 0, 1), (117, .bipush 12, 2), (119, .aload_n 0, 1), (120, .getfield 9, 3), (123, .iconst 0, 1), (124, .iaload, 1), (125, .iadd, 1), (126, .aload_n 0, 1), (127, .getfield 9, 3), (130, .iconst 1, 1), (131, .iaload, 1), (132, .invokevirtual 228, 3), (135, .ireturn, 1)]
theorem D_cX12_apart_1 : dcs cX12_apart l_cX12_apart_1 := dcs_of (by decide +kernel)
def l_cX12_hours_0 : List (Nat × Instr × Nat) := [(0, .iload_n 1, 1), (1, .iconst 1, 1), (2, .bipush 8, 2), (4, .invokestatic 90, 3), (7, .ifCond .ne 6, 3), (10, .bipush (-2), 2), (12, .ireturn, 1), (13, .aload_n 0, 1), (14, .bipush 12, 2), (16, .iload_n 1, 1), (17, .iconst 1, 1), (18, .iadd, 1), (19, .imul, 1), (20, .invokevirtual 225, 3), (23, .iconst 0, 1), (24, .istore_n 2, 1), (25, .iload_n 2, 1), (26, .iload_n 1, 1), (27, .if_icmp .ge 111, 3), (30, .iconst 0, 1), (31, .istore_n 3, 1), (32, .iload_n 3, 1), (33, .bipush 12, 2), (35, .if_icmp .ge 29, 3), (38, .aload_n 0, 1), (39, .bipush 12, 2), (41, .iload_n 2, 1), (42, .imul, 1), (43, .iload_n 3, 1), (44, .iadd, 1), (45, .bipush 12, 2), (47, .iload_n 2, 1), (48, .iconst 1, 1), (49, .iadd, 1), (50, .imul, 1), (51, .iload_n 3, 1), (52, .iadd, 1), (53, .ldc 141, 2), (55, .invokevirtual 222, 3), (58, .iinc 3 1, 3)]
theorem D_cX12_hours_0 : dcs cX12_hours l_cX12_hours_0 := dcs_of (by decide +kernel)
def l_cX12_hours_1 : List (Nat × Instr × Nat) := [(61, .goto (-29), 3), (64, .iconst 0, 1), (65, .istore_n 3, 1), (66, .iload_n 3, 1), (67, .aload_n 0, 1), (68, .getfield 9, 3), (71, .iconst 2, 1), (72, .iaload, 1), (73, .if_icmp .ge 59, 3), (76, .iload_n 2, 1), (77, .aload_n 0, 1), (78, .iload_n 3, 1), (79, .iconst 4, 1), (80, .invokevirtual 94, 3), (83, .iadd, 1), (84, .iload_n 1, 1), (85, .if_icmp .gt 41, 3), (88, .aload_n 0, 1), (89, .bipush 12, 2), (91, .iload_n 2, 1), (92, .imul, 1), (93, .aload_n 0, 1), (94, .iload_n 3, 1), (95, .iconst 0, 1), (96, .invokevirtual 94, 3), (99, .iadd, 1), (100, .bipush 12, 2), (102, .iload_n 2, 1), (103, .aload_n 0, 1), (104, .iload_n 3, 1), (105, .iconst 4, 1), (106, .invokevirtual 94, 3), (109, .iadd, 1), (110, .imul, 1), (111, .aload_n 0, 1), (112, .iload_n 3, 1), (113, .iconst 1, 1), (114, .invokevirtual 94, 3), (117, .iadd, 1), (118, .aload_n 0, 1)]
theorem D_cX12_hours_1 : dcs cX12_hours l_cX12_hours_1 := dcs_of (by decide +kernel)
def l_cX12_hours_2 : List (Nat × Instr × Nat) := [(119, .iload_n 3, 1), (120, .invokevirtual 150, 3), (123, .invokevirtual 222, 3), (126, .iinc 3 1, 3), (129, .goto (-63), 3), (132, .iinc 2 1, 3), (135, .goto (-110), 3), (138, .aload_n 0, 1), (139, .aload_n 0, 1), (140, .getfield 9, 3), (143, .iconst 0, 1), (144, .iaload, 1), (145, .bipush 12, 2), (147, .iload_n 1, 1), (148, .imul, 1), (149, .aload_n 0, 1), (150, .getfield 9, 3), (153, .iconst 1, 1), (154, .iaload, 1), (155, .iadd, 1), (156, .invokevirtual 228, 3), (159, .ireturn, 1)]
theorem D_cX12_hours_2 : dcs cX12_hours l_cX12_hours_2 := dcs_of (by decide +kernel)
def l_cX12_areAlike_0 : List (Nat × Instr × Nat) := [(0, .aload_n 0, 1), (1, .iload_n 1, 1), (2, .iconst 0, 1), (3, .invokevirtual 94, 3), (6, .aload_n 0, 1), (7, .iload_n 2, 1), (8, .iconst 0, 1), (9, .invokevirtual 94, 3), (12, .if_icmp .ne 22, 3), (15, .aload_n 0, 1), (16, .iload_n 1, 1), (17, .iconst 1, 1), (18, .invokevirtual 94, 3), (21, .aload_n 0, 1), (22, .iload_n 2, 1), (23, .iconst 1, 1), (24, .invokevirtual 94, 3), (27, .if_icmp .ne 7, 3), (30, .iconst 1, 1), (31, .goto 4, 3), (34, .iconst 0, 1), (35, .ireturn, 1)]
theorem D_cX12_areAlike_0 : dcs cX12_areAlike l_cX12_areAlike_0 := dcs_of (by decide +kernel)
def l_cX12_isFirst_0 : List (Nat × Instr × Nat) := [(0, .iconst 0, 1), (1, .istore_n 2, 1), (2, .iload_n 2, 1), (3, .iload_n 1, 1), (4, .if_icmp .ge 20, 3), (7, .aload_n 0, 1), (8, .iload_n 1, 1), (9, .iload_n 2, 1), (10, .invokevirtual 237, 3), (13, .ifCond .eq 5, 3), (16, .iconst 0, 1), (17, .ireturn, 1), (18, .iinc 2 1, 3), (21, .goto (-19), 3), (24, .iconst 1, 1), (25, .ireturn, 1)]
theorem D_cX12_isFirst_0 : dcs cX12_isFirst l_cX12_isFirst_0 := dcs_of (by decide +kernel)
def l_cX12_tellsTwo_0 : List (Nat × Instr × Nat) := [(0, .iconst 0, 1), (1, .istore_n 3, 1), (2, .iconst 0, 1), (3, .istore 4, 2), (5, .iload_n 1, 1), (6, .istore 5, 2), (8, .iload 5, 2), (10, .aload_n 0, 1), (11, .getfield 9, 3), (14, .iconst 2, 1), (15, .iaload, 1), (16, .if_icmp .ge 52, 3), (19, .iload_n 3, 1), (20, .aload_n 0, 1), (21, .iload_n 1, 1), (22, .iload 5, 2), (24, .invokevirtual 237, 3), (27, .ifCond .eq 7, 3), (30, .iconst 1, 1), (31, .goto 4, 3), (34, .iconst 0, 1), (35, .iadd, 1), (36, .istore_n 3, 1), (37, .iload 4, 2), (39, .aload_n 0, 1), (40, .iload_n 1, 1), (41, .iload 5, 2), (43, .invokevirtual 237, 3), (46, .ifCond .eq 12, 3), (49, .aload_n 0, 1), (50, .iload 5, 2), (52, .invokevirtual 150, 3), (55, .goto 4, 3), (58, .iconst 0, 1), (59, .iadd, 1), (60, .istore 4, 2), (62, .iinc 5 1, 3), (65, .goto (-57), 3), (68, .iload_n 2, 1), (69, .iconst 2, 1)]
theorem D_cX12_tellsTwo_0 : dcs cX12_tellsTwo l_cX12_tellsTwo_0 := dcs_of (by decide +kernel)
def l_cX12_tellsTwo_1 : List (Nat × Instr × Nat) := [(70, .if_icmp .ge 12, 3), (73, .aload_n 0, 1), (74, .iload_n 1, 1), (75, .iload_n 2, 1), (76, .invokevirtual 94, 3), (79, .goto 14, 3), (82, .iload_n 2, 1), (83, .iconst 2, 1), (84, .if_icmp .ne 7, 3), (87, .iload_n 3, 1), (88, .goto 5, 3), (91, .iload 4, 2), (93, .ireturn, 1)]
theorem D_cX12_tellsTwo_1 : dcs cX12_tellsTwo l_cX12_tellsTwo_1 := dcs_of (by decide +kernel)
def l_cX12_two_0 : List (Nat × Instr × Nat) := [(0, .iconst 0, 1), (1, .istore_n 3, 1), (2, .iconst 0, 1), (3, .istore 4, 2), (5, .iload 4, 2), (7, .aload_n 0, 1), (8, .getfield 9, 3), (11, .iconst 2, 1), (12, .iaload, 1), (13, .if_icmp .ge 47, 3), (16, .aload_n 0, 1), (17, .iload 4, 2), (19, .invokevirtual 240, 3), (22, .ifCond .eq 32, 3), (25, .iload_n 3, 1), (26, .iload_n 1, 1), (27, .if_icmp .ne 24, 3), (30, .iload_n 2, 1), (31, .iconst 0, 1), (32, .iconst 3, 1), (33, .invokestatic 90, 3), (36, .ifCond .eq 13, 3), (39, .aload_n 0, 1), (40, .iload 4, 2), (42, .iload_n 2, 1), (43, .invokevirtual 243, 3), (46, .goto 4, 3), (49, .iconst (-1), 1), (50, .ireturn, 1), (51, .iinc 3 1, 3), (54, .iinc 4 1, 3), (57, .goto (-52), 3), (60, .iload_n 1, 1), (61, .iconst (-1), 1), (62, .if_icmp .ne 7, 3), (65, .iload_n 3, 1), (66, .goto 4, 3), (69, .iconst (-1), 1), (70, .ireturn, 1)]
theorem D_cX12_two_0 : dcs cX12_two l_cX12_two_0 := dcs_of (by decide +kernel)
def l_cX12_reach_0 : List (Nat × Instr × Nat) := [(0, .iload_n 1, 1), (1, .invokestatic 106, 3), (4, .ifCond .ne 5, 3), (7, .iconst (-1), 1), (8, .ireturn, 1), (9, .iload_n 2, 1), (10, .iconst 0, 1), (11, .bipush 20, 2), (13, .invokestatic 90, 3), (16, .ifCond .ne 6, 3), (19, .bipush (-2), 2), (21, .ireturn, 1), (22, .iconst 0, 1), (23, .istore_n 3, 1), (24, .iload_n 3, 1), (25, .bipush 12, 2), (27, .if_icmp .ge 26, 3), (30, .aload_n 0, 1), (31, .getfield 22, 3), (34, .iload_n 3, 1), (35, .iload_n 3, 1), (36, .iload_n 1, 1), (37, .if_icmp .ne 7, 3), (40, .iconst 0, 1), (41, .goto 5, 3), (44, .bipush 99, 2), (46, .iastore, 1), (47, .iinc 3 1, 3), (50, .goto (-26), 3), (53, .iconst 0, 1), (54, .istore_n 3, 1), (55, .iload_n 3, 1), (56, .bipush 12, 2), (58, .if_icmp .ge 85, 3), (61, .iconst 0, 1), (62, .istore 4, 2), (64, .iload 4, 2), (66, .aload_n 0, 1), (67, .getfield 9, 3), (70, .iconst 2, 1)]
theorem D_cX12_reach_0 : dcs cX12_reach l_cX12_reach_0 := dcs_of (by decide +kernel)
def l_cX12_reach_1 : List (Nat × Instr × Nat) := [(71, .iaload, 1), (72, .if_icmp .ge 65, 3), (75, .aload_n 0, 1), (76, .iload 4, 2), (78, .invokevirtual 150, 3), (81, .ifCond .le 50, 3), (84, .aload_n 0, 1), (85, .getfield 22, 3), (88, .aload_n 0, 1), (89, .iload 4, 2), (91, .iconst 1, 1), (92, .invokevirtual 94, 3), (95, .aload_n 0, 1), (96, .getfield 22, 3), (99, .aload_n 0, 1), (100, .iload 4, 2), (102, .iconst 1, 1), (103, .invokevirtual 94, 3), (106, .iaload, 1), (107, .aload_n 0, 1), (108, .getfield 22, 3), (111, .aload_n 0, 1), (112, .iload 4, 2), (114, .iconst 0, 1), (115, .invokevirtual 94, 3), (118, .iaload, 1), (119, .aload_n 0, 1), (120, .iload 4, 2), (122, .iconst 4, 1), (123, .invokevirtual 94, 3), (126, .iadd, 1), (127, .invokestatic 145, 3), (130, .iastore, 1), (131, .iinc 4 1, 3), (134, .goto (-70), 3), (137, .iinc 3 1, 3), (140, .goto (-85), 3), (143, .iconst 0, 1), (144, .istore_n 3, 1), (145, .iconst 0, 1)]
theorem D_cX12_reach_1 : dcs cX12_reach l_cX12_reach_1 := dcs_of (by decide +kernel)
def l_cX12_reach_2 : List (Nat × Instr × Nat) := [(146, .istore 4, 2), (148, .iload 4, 2), (150, .bipush 12, 2), (152, .if_icmp .ge 31, 3), (155, .iload_n 3, 1), (156, .aload_n 0, 1), (157, .getfield 22, 3), (160, .iload 4, 2), (162, .iaload, 1), (163, .iload_n 2, 1), (164, .if_icmp .gt 10, 3), (167, .iconst 1, 1), (168, .iload 4, 2), (170, .ishl, 1), (171, .goto 4, 3), (174, .iconst 0, 1), (175, .ior, 1), (176, .istore_n 3, 1), (177, .iinc 4 1, 3), (180, .goto (-32), 3), (183, .iload_n 3, 1), (184, .ireturn, 1)]
theorem D_cX12_reach_2 : dcs cX12_reach l_cX12_reach_2 := dcs_of (by decide +kernel)
def l_cX12_feed_0 : List (Nat × Instr × Nat) := [(0, .iload_n 1, 1), (1, .iconst 1, 1), (2, .bipush 127, 2), (4, .invokestatic 90, 3), (7, .ifCond .ne 6, 3), (10, .bipush (-2), 2), (12, .ireturn, 1), (13, .aload_n 0, 1), (14, .getfield 246, 3), (17, .bipush 90, 2), (19, .if_icmp .ne 6, 3), (22, .bipush (-4), 2), (24, .ireturn, 1), (25, .aload_n 0, 1), (26, .getfield 77, 3), (29, .aload_n 0, 1), (30, .getfield 246, 3), (33, .iload_n 1, 1), (34, .i2b, 1), (35, .bastore, 1), (36, .aload_n 0, 1), (37, .dup, 1), (38, .getfield 246, 3), (41, .iconst 1, 1), (42, .iadd, 1), (43, .putfield 246, 3), (46, .aload_n 0, 1), (47, .getfield 246, 3), (50, .ireturn, 1)]
theorem D_cX12_feed_0 : dcs cX12_feed l_cX12_feed_0 := dcs_of (by decide +kernel)
def l_cX12_clear_0 : List (Nat × Instr × Nat) := [(0, .aload_n 0, 1), (1, .getfield 246, 3), (4, .istore_n 1, 1), (5, .aload_n 0, 1), (6, .iconst 0, 1), (7, .putfield 246, 3), (10, .iload_n 1, 1), (11, .ireturn, 1)]
theorem D_cX12_clear_0 : dcs cX12_clear l_cX12_clear_0 := dcs_of (by decide +kernel)
def l_cX12_here_0 : List (Nat × Instr × Nat) := [(0, .aload_n 0, 1), (1, .getfield 249, 3), (4, .aload_n 0, 1), (5, .getfield 246, 3), (8, .if_icmp .ge 15, 3), (11, .aload_n 0, 1), (12, .getfield 77, 3), (15, .aload_n 0, 1), (16, .getfield 249, 3), (19, .baload, 1), (20, .goto 4, 3), (23, .iconst (-1), 1), (24, .ireturn, 1)]
theorem D_cX12_here_0 : dcs cX12_here l_cX12_here_0 := dcs_of (by decide +kernel)
def l_cX12_wrong_0 : List (Nat × Instr × Nat) := [(0, .aload_n 0, 1), (1, .aload_n 0, 1), (2, .getfield 252, 3), (5, .ifCond .ge 7, 3), (8, .iload_n 1, 1), (9, .goto 7, 3), (12, .aload_n 0, 1), (13, .getfield 252, 3), (16, .putfield 252, 3), (19, .return_, 1)]
theorem D_cX12_wrong_0 : dcs cX12_wrong l_cX12_wrong_0 := dcs_of (by decide +kernel)
def l_cX12_begins_0 : List (Nat × Instr × Nat) := [(0, .aload_n 0, 1), (1, .iconst 0, 1), (2, .putfield 249, 3), (5, .aload_n 0, 1), (6, .iconst (-1), 1), (7, .putfield 252, 3), (10, .return_, 1)]
theorem D_cX12_begins_0 : dcs cX12_begins l_cX12_begins_0 := dcs_of (by decide +kernel)
def l_cX12_takes__0 : List (Nat × Instr × Nat) := [(0, .aload_n 0, 1), (1, .getfield 252, 3), (4, .ifCond .ge 11, 3), (7, .aload_n 0, 1), (8, .invokevirtual 255, 3), (11, .iload_n 1, 1), (12, .if_icmp .eq 5, 3), (15, .iconst 0, 1), (16, .ireturn, 1), (17, .aload_n 0, 1), (18, .dup, 1), (19, .getfield 249, 3), (22, .iconst 1, 1), (23, .iadd, 1), (24, .putfield 249, 3), (27, .iconst 1, 1), (28, .ireturn, 1)]
theorem D_cX12_takes__0 : dcs cX12_takes_ l_cX12_takes__0 := dcs_of (by decide +kernel)
def l_cX12_must_0 : List (Nat × Instr × Nat) := [(0, .aload_n 0, 1), (1, .iload_n 1, 1), (2, .invokevirtual 258, 3), (5, .ifCond .ne 11, 3), (8, .aload_n 0, 1), (9, .aload_n 0, 1), (10, .getfield 249, 3), (13, .invokevirtual 260, 3), (16, .return_, 1)]
theorem D_cX12_must_0 : dcs cX12_must l_cX12_must_0 := dcs_of (by decide +kernel)
def l_cX12_number_0 : List (Nat × Instr × Nat) := [(0, .aload_n 0, 1), (1, .getfield 249, 3), (4, .istore 4, 2), (6, .iconst 0, 1), (7, .istore 5, 2), (9, .aload_n 0, 1), (10, .getfield 252, 3), (13, .ifCond .ge 56, 3), (16, .aload_n 0, 1), (17, .invokevirtual 255, 3), (20, .bipush 48, 2), (22, .bipush 57, 2), (24, .invokestatic 90, 3), (27, .ifCond .eq 42, 3), (30, .aload_n 0, 1), (31, .getfield 249, 3), (34, .iload 4, 2), (36, .isub, 1), (37, .iconst 3, 1), (38, .if_icmp .ge 31, 3), (41, .bipush 10, 2), (43, .iload 5, 2), (45, .imul, 1), (46, .aload_n 0, 1), (47, .invokevirtual 255, 3), (50, .iadd, 1), (51, .bipush 48, 2), (53, .isub, 1), (54, .istore 5, 2), (56, .aload_n 0, 1), (57, .dup, 1), (58, .getfield 249, 3), (61, .iconst 1, 1), (62, .iadd, 1), (63, .putfield 249, 3), (66, .goto (-57), 3), (69, .aload_n 0, 1), (70, .getfield 249, 3), (73, .iload 4, 2), (75, .if_icmp .eq 19, 3)]
theorem D_cX12_number_0 : dcs cX12_number l_cX12_number_0 := dcs_of (by decide +kernel)
def l_cX12_number_1 : List (Nat × Instr × Nat) := [(78, .iload 5, 2), (80, .iload_n 1, 1), (81, .iload_n 2, 1), (82, .invokestatic 90, 3), (85, .ifCond .eq 9, 3), (88, .iload 5, 2), (90, .iload_n 3, 1), (91, .if_icmp .ne 9, 3), (94, .aload_n 0, 1), (95, .iload 4, 2), (97, .invokevirtual 260, 3), (100, .iload 5, 2), (102, .ireturn, 1)]
theorem D_cX12_number_1 : dcs cX12_number l_cX12_number_1 := dcs_of (by decide +kernel)
def l_cX12_readGate_0 : List (Nat × Instr × Nat) := [(0, .iload_n 1, 1), (1, .ifCond .ne 27, 3), (4, .aload_n 0, 1), (5, .getfield 263, 3), (8, .aload_n 0, 1), (9, .getfield 9, 3), (12, .iconst 2, 1), (13, .iaload, 1), (14, .iadd, 1), (15, .bipush 30, 2), (17, .if_icmp .ne 11, 3), (20, .aload_n 0, 1), (21, .aload_n 0, 1), (22, .getfield 249, 3), (25, .invokevirtual 260, 3), (28, .aload_n 0, 1), (29, .iconst 0, 1), (30, .bipush 11, 2), (32, .iconst (-1), 1), (33, .invokevirtual 266, 3), (36, .istore_n 2, 1), (37, .aload_n 0, 1), (38, .bipush 62, 2), (40, .invokevirtual 268, 3), (43, .aload_n 0, 1), (44, .iconst 0, 1), (45, .bipush 11, 2), (47, .iload_n 2, 1), (48, .invokevirtual 266, 3), (51, .istore_n 3, 1), (52, .aload_n 0, 1), (53, .bipush 58, 2), (55, .invokevirtual 268, 3), (58, .iconst 0, 1), (59, .istore 4, 2), (61, .aload_n 0, 1), (62, .iconst 0, 1), (63, .sipush 999, 3), (66, .iconst (-1), 1), (67, .invokevirtual 266, 3)]
theorem D_cX12_readGate_0 : dcs cX12_readGate l_cX12_readGate_0 := dcs_of (by decide +kernel)
def l_cX12_readGate_1 : List (Nat × Instr × Nat) := [(70, .istore 5, 2), (72, .aload_n 0, 1), (73, .bipush 45, 2), (75, .invokevirtual 258, 3), (78, .ifCond .eq 19, 3), (81, .iload 5, 2), (83, .istore 4, 2), (85, .aload_n 0, 1), (86, .iload 4, 2), (88, .sipush 999, 3), (91, .iconst (-1), 1), (92, .invokevirtual 266, 3), (95, .istore 5, 2), (97, .aload_n 0, 1), (98, .bipush 64, 2), (100, .invokevirtual 258, 3), (103, .ifCond .eq 13, 3), (106, .aload_n 0, 1), (107, .iconst 1, 1), (108, .iconst 3, 1), (109, .iconst (-1), 1), (110, .invokevirtual 266, 3), (113, .goto 4, 3), (116, .iconst 1, 1), (117, .istore 6, 2), (119, .aload_n 0, 1), (120, .bipush 120, 2), (122, .invokevirtual 258, 3), (125, .istore 7, 2), (127, .iload_n 1, 1), (128, .ifCond .eq 25, 3), (131, .aload_n 0, 1), (132, .iload_n 2, 1), (133, .iload_n 3, 1), (134, .iload 4, 2), (136, .iload 5, 2), (138, .iload 6, 2), (140, .iload 7, 2), (142, .ifCond .eq 7, 3), (145, .iconst 0, 1)]
theorem D_cX12_readGate_1 : dcs cX12_readGate l_cX12_readGate_1 := dcs_of (by decide +kernel)
def l_cX12_readGate_2 : List (Nat × Instr × Nat) := [(146, .goto 4, 3), (149, .iconst 1, 1), (150, .invokevirtual 109, 3), (153, .aload_n 0, 1), (154, .dup, 1), (155, .getfield 263, 3), (158, .iconst 1, 1), (159, .iadd, 1), (160, .putfield 263, 3), (163, .return_, 1)]
theorem D_cX12_readGate_2 : dcs cX12_readGate l_cX12_readGate_2 := dcs_of (by decide +kernel)
def l_cX12_readBook_0 : List (Nat × Instr × Nat) := [(0, .aload_n 0, 1), (1, .invokevirtual 271, 3), (4, .aload_n 0, 1), (5, .iconst 0, 1), (6, .putfield 263, 3), (9, .aload_n 0, 1), (10, .iload_n 1, 1), (11, .invokevirtual 274, 3), (14, .aload_n 0, 1), (15, .bipush 59, 2), (17, .invokevirtual 258, 3), (20, .ifCond .eq 11, 3), (23, .aload_n 0, 1), (24, .iload_n 1, 1), (25, .invokevirtual 274, 3), (28, .goto (-14), 3), (31, .aload_n 0, 1), (32, .getfield 249, 3), (35, .aload_n 0, 1), (36, .getfield 246, 3), (39, .if_icmp .ge 11, 3), (42, .aload_n 0, 1), (43, .aload_n 0, 1), (44, .getfield 249, 3), (47, .invokevirtual 260, 3), (50, .return_, 1)]
theorem D_cX12_readBook_0 : dcs cX12_readBook l_cX12_readBook_0 := dcs_of (by decide +kernel)
def l_cX12_read_0 : List (Nat × Instr × Nat) := [(0, .aload_n 0, 1), (1, .iconst 0, 1), (2, .invokevirtual 278, 3), (5, .aload_n 0, 1), (6, .getfield 252, 3), (9, .ifCond .ge 7, 3), (12, .iconst 1, 1), (13, .goto 4, 3), (16, .iconst 0, 1), (17, .istore_n 1, 1), (18, .iload_n 1, 1), (19, .ifCond .eq 8, 3), (22, .aload_n 0, 1), (23, .iconst 1, 1), (24, .invokevirtual 278, 3), (27, .aload_n 0, 1), (28, .iconst 0, 1), (29, .putfield 246, 3), (32, .iload_n 1, 1), (33, .ifCond .eq 10, 3), (36, .aload_n 0, 1), (37, .getfield 263, 3), (40, .goto 10, 3), (43, .bipush (-100), 2), (45, .aload_n 0, 1), (46, .getfield 252, 3), (49, .isub, 1), (50, .ireturn, 1)]
theorem D_cX12_read_0 : dcs cX12_read l_cX12_read_0 := dcs_of (by decide +kernel)
def l_cX12_either_0 : List (Nat × Instr × Nat) := [(0, .aload_n 0, 1), (1, .invokevirtual 281, 3), (4, .istore_n 1, 1), (5, .aload_n 0, 1), (6, .bipush 124, 2), (8, .invokevirtual 258, 3), (11, .ifCond .eq 13, 3), (14, .iload_n 1, 1), (15, .aload_n 0, 1), (16, .invokevirtual 281, 3), (19, .ior, 1), (20, .istore_n 1, 1), (21, .goto (-16), 3), (24, .iload_n 1, 1), (25, .ireturn, 1)]
theorem D_cX12_either_0 : dcs cX12_either l_cX12_either_0 := dcs_of (by decide +kernel)
def l_cX12_both_0 : List (Nat × Instr × Nat) := [(0, .aload_n 0, 1), (1, .invokevirtual 285, 3), (4, .istore_n 1, 1), (5, .aload_n 0, 1), (6, .bipush 38, 2), (8, .invokevirtual 258, 3), (11, .ifCond .eq 13, 3), (14, .iload_n 1, 1), (15, .aload_n 0, 1), (16, .invokevirtual 285, 3), (19, .iand, 1), (20, .istore_n 1, 1), (21, .goto (-16), 3), (24, .iload_n 1, 1), (25, .ireturn, 1)]
theorem D_cX12_both_0 : dcs cX12_both l_cX12_both_0 := dcs_of (by decide +kernel)
def l_cX12_one_0 : List (Nat × Instr × Nat) := [(0, .aload_n 0, 1), (1, .bipush 33, 2), (3, .invokevirtual 258, 3), (6, .ifCond .eq 16, 3), (9, .aload_n 0, 1), (10, .invokevirtual 285, 3), (13, .ifCond .ne 7, 3), (16, .iconst 1, 1), (17, .goto 4, 3), (20, .iconst 0, 1), (21, .ireturn, 1), (22, .aload_n 0, 1), (23, .invokevirtual 255, 3), (26, .bipush 40, 2), (28, .if_icmp .ne 54, 3), (31, .aload_n 0, 1), (32, .getfield 288, 3), (35, .iconst 5, 1), (36, .if_icmp .ge 46, 3), (39, .aload_n 0, 1), (40, .dup, 1), (41, .getfield 249, 3), (44, .iconst 1, 1), (45, .iadd, 1), (46, .putfield 249, 3), (49, .aload_n 0, 1), (50, .dup, 1), (51, .getfield 288, 3), (54, .iconst 1, 1), (55, .iadd, 1), (56, .putfield 288, 3), (59, .aload_n 0, 1), (60, .invokevirtual 291, 3), (63, .istore_n 1, 1), (64, .aload_n 0, 1), (65, .bipush 41, 2), (67, .invokevirtual 268, 3), (70, .aload_n 0, 1), (71, .dup, 1), (72, .getfield 288, 3)]
theorem D_cX12_one_0 : dcs cX12_one l_cX12_one_0 := dcs_of (by decide +kernel)
def l_cX12_one_1 : List (Nat × Instr × Nat) := [(75, .iconst 1, 1), (76, .isub, 1), (77, .putfield 288, 3), (80, .iload_n 1, 1), (81, .ireturn, 1), (82, .aload_n 0, 1), (83, .invokevirtual 294, 3), (86, .istore_n 1, 1), (87, .aload_n 0, 1), (88, .invokevirtual 255, 3), (91, .istore_n 2, 1), (92, .aload_n 0, 1), (93, .bipush 60, 2), (95, .invokevirtual 258, 3), (98, .ifCond .ne 29, 3), (101, .aload_n 0, 1), (102, .bipush 61, 2), (104, .invokevirtual 258, 3), (107, .ifCond .ne 20, 3), (110, .aload_n 0, 1), (111, .bipush 62, 2), (113, .invokevirtual 258, 3), (116, .ifCond .ne 11, 3), (119, .aload_n 0, 1), (120, .aload_n 0, 1), (121, .getfield 249, 3), (124, .invokevirtual 260, 3), (127, .aload_n 0, 1), (128, .iconst 0, 1), (129, .sipush 999, 3), (132, .iconst (-1), 1), (133, .invokevirtual 266, 3), (136, .istore_n 3, 1), (137, .aload_n 0, 1), (138, .getfield 297, 3), (141, .ifCond .lt 10, 3), (144, .aload_n 0, 1), (145, .getfield 252, 3), (148, .ifCond .lt 7, 3), (151, .iconst 0, 1)]
theorem D_cX12_one_1 : dcs cX12_one l_cX12_one_1 := dcs_of (by decide +kernel)
def l_cX12_one_2 : List (Nat × Instr × Nat) := [(152, .goto 12, 3), (155, .aload_n 0, 1), (156, .aload_n 0, 1), (157, .getfield 297, 3), (160, .iload_n 1, 1), (161, .invokevirtual 300, 3), (164, .istore 4, 2), (166, .iload_n 2, 1), (167, .bipush 60, 2), (169, .if_icmp .ne 17, 3), (172, .iload 4, 2), (174, .iload_n 3, 1), (175, .if_icmp .ge 7, 3), (178, .iconst 1, 1), (179, .goto 38, 3), (182, .iconst 0, 1), (183, .goto 34, 3), (186, .iload_n 2, 1), (187, .bipush 62, 2), (189, .if_icmp .ne 17, 3), (192, .iload 4, 2), (194, .iload_n 3, 1), (195, .if_icmp .le 7, 3), (198, .iconst 1, 1), (199, .goto 18, 3), (202, .iconst 0, 1), (203, .goto 14, 3), (206, .iload 4, 2), (208, .iload_n 3, 1), (209, .if_icmp .ne 7, 3), (212, .iconst 1, 1), (213, .goto 4, 3), (216, .iconst 0, 1), (217, .ireturn, 1)]
theorem D_cX12_one_2 : dcs cX12_one l_cX12_one_2 := dcs_of (by decide +kernel)
def l_cX12_word_0 : List (Nat × Instr × Nat) := [(0, .aload_n 0, 1), (1, .getfield 249, 3), (4, .istore_n 1, 1), (5, .aload_n 0, 1), (6, .getfield 252, 3), (9, .ifCond .ge 30, 3), (12, .aload_n 0, 1), (13, .invokevirtual 255, 3), (16, .bipush 97, 2), (18, .bipush 122, 2), (20, .invokestatic 90, 3), (23, .ifCond .eq 16, 3), (26, .aload_n 0, 1), (27, .dup, 1), (28, .getfield 249, 3), (31, .iconst 1, 1), (32, .iadd, 1), (33, .putfield 249, 3), (36, .goto (-31), 3), (39, .iconst 0, 1), (40, .istore_n 2, 1), (41, .iload_n 2, 1), (42, .ldc_w 303, 3), (45, .invokevirtual 305, 3), (48, .bipush 7, 2), (50, .idiv, 1), (51, .if_icmp .ge 115, 3), (54, .aload_n 0, 1), (55, .getfield 249, 3), (58, .iload_n 1, 1), (59, .if_icmp .le 40, 3), (62, .aload_n 0, 1), (63, .getfield 249, 3), (66, .iload_n 1, 1), (67, .isub, 1), (68, .bipush 7, 2), (70, .if_icmp .ge 29, 3), (73, .ldc_w 303, 3), (76, .bipush 7, 2), (78, .iload_n 2, 1)]
theorem D_cX12_word_0 : dcs cX12_word l_cX12_word_0 := dcs_of (by decide +kernel)
def l_cX12_word_1 : List (Nat × Instr × Nat) := [(79, .imul, 1), (80, .aload_n 0, 1), (81, .getfield 249, 3), (84, .iadd, 1), (85, .iload_n 1, 1), (86, .isub, 1), (87, .invokevirtual 310, 3), (90, .bipush 32, 2), (92, .if_icmp .ne 7, 3), (95, .iconst 1, 1), (96, .goto 4, 3), (99, .iconst 0, 1), (100, .istore_n 3, 1), (101, .iload_n 1, 1), (102, .istore 4, 2), (104, .iload 4, 2), (106, .aload_n 0, 1), (107, .getfield 249, 3), (110, .if_icmp .ge 44, 3), (113, .iload_n 3, 1), (114, .ifCond .eq 40, 3), (117, .ldc_w 303, 3), (120, .bipush 7, 2), (122, .iload_n 2, 1), (123, .imul, 1), (124, .iload 4, 2), (126, .iadd, 1), (127, .iload_n 1, 1), (128, .isub, 1), (129, .invokevirtual 310, 3), (132, .aload_n 0, 1), (133, .getfield 77, 3), (136, .iload 4, 2), (138, .baload, 1), (139, .if_icmp .ne 7, 3), (142, .iconst 1, 1), (143, .goto 4, 3), (146, .iconst 0, 1), (147, .istore_n 3, 1), (148, .iinc 4 1, 3)]
theorem D_cX12_word_1 : dcs cX12_word l_cX12_word_1 := dcs_of (by decide +kernel)
def l_cX12_word_2 : List (Nat × Instr × Nat) := [(151, .goto (-47), 3), (154, .iload_n 3, 1), (155, .ifCond .eq 5, 3), (158, .iload_n 2, 1), (159, .ireturn, 1), (160, .iinc 2 1, 3), (163, .goto (-122), 3), (166, .aload_n 0, 1), (167, .iload_n 1, 1), (168, .invokevirtual 260, 3), (171, .iconst 0, 1), (172, .ireturn, 1)]
theorem D_cX12_word_2 : dcs cX12_word l_cX12_word_2 := dcs_of (by decide +kernel)
def l_cX12_valueOf_0 : List (Nat × Instr × Nat) := [(0, .iload_n 2, 1), (1, .iconst 5, 1), (2, .if_icmp .ge 10, 3), (5, .aload_n 0, 1), (6, .iload_n 1, 1), (7, .iload_n 2, 1), (8, .invokevirtual 94, 3), (11, .ireturn, 1), (12, .iload_n 2, 1), (13, .bipush 7, 2), (15, .if_icmp .ne 17, 3), (18, .aload_n 0, 1), (19, .iload_n 1, 1), (20, .invokevirtual 98, 3), (23, .ifCond .eq 7, 3), (26, .iconst 0, 1), (27, .goto 4, 3), (30, .iconst 1, 1), (31, .ireturn, 1), (32, .iload_n 2, 1), (33, .iconst 5, 1), (34, .if_icmp .ne 12, 3), (37, .aload_n 0, 1), (38, .getfield 19, 3), (41, .iload_n 1, 1), (42, .iaload, 1), (43, .goto 16, 3), (46, .aload_n 0, 1), (47, .iload_n 1, 1), (48, .iconst 3, 1), (49, .invokevirtual 94, 3), (52, .aload_n 0, 1), (53, .getfield 19, 3), (56, .iload_n 1, 1), (57, .iaload, 1), (58, .isub, 1), (59, .ireturn, 1)]
theorem D_cX12_valueOf_0 : dcs cX12_valueOf l_cX12_valueOf_0 := dcs_of (by decide +kernel)
def l_cX12_isSo_0 : List (Nat × Instr × Nat) := [(0, .aload_n 0, 1), (1, .invokevirtual 271, 3), (4, .aload_n 0, 1), (5, .iconst 0, 1), (6, .putfield 288, 3), (9, .aload_n 0, 1), (10, .iload_n 1, 1), (11, .putfield 297, 3), (14, .aload_n 0, 1), (15, .invokevirtual 291, 3), (18, .istore_n 2, 1), (19, .aload_n 0, 1), (20, .getfield 249, 3), (23, .aload_n 0, 1), (24, .getfield 246, 3), (27, .if_icmp .ge 11, 3), (30, .aload_n 0, 1), (31, .aload_n 0, 1), (32, .getfield 249, 3), (35, .invokevirtual 260, 3), (38, .iload_n 2, 1), (39, .ireturn, 1)]
theorem D_cX12_isSo_0 : dcs cX12_isSo l_cX12_isSo_0 := dcs_of (by decide +kernel)
def l_cX12_meant_0 : List (Nat × Instr × Nat) := [(0, .aload_n 0, 1), (1, .iconst (-1), 1), (2, .invokevirtual 314, 3), (5, .pop, 1), (6, .iconst 0, 1), (7, .istore_n 1, 1), (8, .aload_n 0, 1), (9, .getfield 252, 3), (12, .ifCond .ge 44, 3), (15, .aload_n 0, 1), (16, .invokevirtual 160, 3), (19, .pop, 1), (20, .iconst 0, 1), (21, .istore_n 2, 1), (22, .iload_n 2, 1), (23, .aload_n 0, 1), (24, .getfield 9, 3), (27, .iconst 2, 1), (28, .iaload, 1), (29, .if_icmp .ge 27, 3), (32, .iload_n 1, 1), (33, .aload_n 0, 1), (34, .iload_n 2, 1), (35, .invokevirtual 314, 3), (38, .ifCond .eq 9, 3), (41, .iconst 1, 1), (42, .iload_n 2, 1), (43, .ishl, 1), (44, .goto 4, 3), (47, .iconst 0, 1), (48, .ior, 1), (49, .istore_n 1, 1), (50, .iinc 2 1, 3), (53, .goto (-31), 3), (56, .aload_n 0, 1), (57, .iconst 0, 1), (58, .putfield 246, 3), (61, .iload_n 1, 1), (62, .ireturn, 1)]
theorem D_cX12_meant_0 : dcs cX12_meant l_cX12_meant_0 := dcs_of (by decide +kernel)
def l_cX12_pick_0 : List (Nat × Instr × Nat) := [(0, .aload_n 0, 1), (1, .invokevirtual 317, 3), (4, .istore_n 1, 1), (5, .aload_n 0, 1), (6, .getfield 252, 3), (9, .ifCond .lt 13, 3), (12, .bipush (-100), 2), (14, .aload_n 0, 1), (15, .getfield 252, 3), (18, .isub, 1), (19, .goto 4, 3), (22, .iload_n 1, 1), (23, .ireturn, 1)]
theorem D_cX12_pick_0 : dcs cX12_pick l_cX12_pick_0 := dcs_of (by decide +kernel)
def l_cX12_many_0 : List (Nat × Instr × Nat) := [(0, .aload_n 0, 1), (1, .invokevirtual 317, 3), (4, .istore_n 1, 1), (5, .aload_n 0, 1), (6, .getfield 252, 3), (9, .ifCond .lt 13, 3), (12, .bipush (-100), 2), (14, .aload_n 0, 1), (15, .getfield 252, 3), (18, .isub, 1), (19, .goto 7, 3), (22, .iload_n 1, 1), (23, .invokestatic 320, 3), (26, .ireturn, 1)]
theorem D_cX12_many_0 : dcs cX12_many l_cX12_many_0 := dcs_of (by decide +kernel)
def l_cX12_shutAll_0 : List (Nat × Instr × Nat) := [(0, .iload_n 1, 1), (1, .iconst 0, 1), (2, .iconst 1, 1), (3, .invokestatic 90, 3), (6, .ifCond .ne 5, 3), (9, .iconst (-1), 1), (10, .ireturn, 1), (11, .aload_n 0, 1), (12, .invokevirtual 317, 3), (15, .istore_n 2, 1), (16, .aload_n 0, 1), (17, .getfield 252, 3), (20, .ifCond .lt 11, 3), (23, .bipush (-100), 2), (25, .aload_n 0, 1), (26, .getfield 252, 3), (29, .isub, 1), (30, .ireturn, 1), (31, .iconst 0, 1), (32, .istore_n 3, 1), (33, .iconst 0, 1), (34, .istore 4, 2), (36, .iload 4, 2), (38, .aload_n 0, 1), (39, .getfield 9, 3), (42, .iconst 2, 1), (43, .iaload, 1), (44, .if_icmp .ge 39, 3), (47, .iload_n 2, 1), (48, .iload 4, 2), (50, .ishr, 1), (51, .iconst 1, 1), (52, .iand, 1), (53, .iconst 1, 1), (54, .if_icmp .ne 23, 3), (57, .iload_n 3, 1), (58, .aload_n 0, 1), (59, .iload 4, 2), (61, .iconst 5, 1), (62, .iload_n 1, 1)]
theorem D_cX12_shutAll_0 : dcs cX12_shutAll l_cX12_shutAll_0 := dcs_of (by decide +kernel)
def l_cX12_shutAll_1 : List (Nat × Instr × Nat) := [(63, .invokevirtual 116, 3), (66, .iload_n 1, 1), (67, .if_icmp .ne 7, 3), (70, .iconst 0, 1), (71, .goto 4, 3), (74, .iconst 1, 1), (75, .iadd, 1), (76, .istore_n 3, 1), (77, .iinc 4 1, 3), (80, .goto (-44), 3), (83, .iload_n 3, 1), (84, .ireturn, 1)]
theorem D_cX12_shutAll_1 : dcs cX12_shutAll l_cX12_shutAll_1 := dcs_of (by decide +kernel)
def l_cX12_puts_0 : List (Nat × Instr × Nat) := [(0, .aload_n 0, 1), (1, .getfield 81, 3), (4, .aload_n 0, 1), (5, .getfield 325, 3), (8, .iload_n 1, 1), (9, .iastore, 1), (10, .aload_n 0, 1), (11, .dup, 1), (12, .getfield 325, 3), (15, .iconst 1, 1), (16, .iadd, 1), (17, .putfield 325, 3), (20, .return_, 1)]
theorem D_cX12_puts_0 : dcs cX12_puts l_cX12_puts_0 := dcs_of (by decide +kernel)
def l_cX12_putsNumber_0 : List (Nat × Instr × Nat) := [(0, .iload_n 1, 1), (1, .bipush 99, 2), (3, .if_icmp .le 14, 3), (6, .aload_n 0, 1), (7, .bipush 48, 2), (9, .iload_n 1, 1), (10, .bipush 100, 2), (12, .idiv, 1), (13, .iadd, 1), (14, .invokevirtual 328, 3), (17, .iload_n 1, 1), (18, .bipush 9, 2), (20, .if_icmp .le 17, 3), (23, .aload_n 0, 1), (24, .bipush 48, 2), (26, .iload_n 1, 1), (27, .bipush 10, 2), (29, .idiv, 1), (30, .bipush 10, 2), (32, .irem, 1), (33, .iadd, 1), (34, .invokevirtual 328, 3), (37, .aload_n 0, 1), (38, .bipush 48, 2), (40, .iload_n 1, 1), (41, .bipush 10, 2), (43, .irem, 1), (44, .iadd, 1), (45, .invokevirtual 328, 3), (48, .return_, 1)]
theorem D_cX12_putsNumber_0 : dcs cX12_putsNumber l_cX12_putsNumber_0 := dcs_of (by decide +kernel)
def l_cX12_spell_0 : List (Nat × Instr × Nat) := [(0, .aload_n 0, 1), (1, .iconst 0, 1), (2, .putfield 325, 3), (5, .iconst 0, 1), (6, .istore_n 1, 1), (7, .iload_n 1, 1), (8, .aload_n 0, 1), (9, .getfield 9, 3), (12, .iconst 2, 1), (13, .iaload, 1), (14, .if_icmp .ge 126, 3), (17, .iload_n 1, 1), (18, .ifCond .le 9, 3), (21, .aload_n 0, 1), (22, .bipush 59, 2), (24, .invokevirtual 328, 3), (27, .aload_n 0, 1), (28, .aload_n 0, 1), (29, .iload_n 1, 1), (30, .iconst 0, 1), (31, .invokevirtual 94, 3), (34, .invokevirtual 331, 3), (37, .aload_n 0, 1), (38, .bipush 62, 2), (40, .invokevirtual 328, 3), (43, .aload_n 0, 1), (44, .aload_n 0, 1), (45, .iload_n 1, 1), (46, .iconst 1, 1), (47, .invokevirtual 94, 3), (50, .invokevirtual 331, 3), (53, .aload_n 0, 1), (54, .bipush 58, 2), (56, .invokevirtual 328, 3), (59, .aload_n 0, 1), (60, .iload_n 1, 1), (61, .iconst 2, 1), (62, .invokevirtual 94, 3), (65, .ifCond .le 19, 3), (68, .aload_n 0, 1)]
theorem D_cX12_spell_0 : dcs cX12_spell l_cX12_spell_0 := dcs_of (by decide +kernel)
def l_cX12_spell_1 : List (Nat × Instr × Nat) := [(69, .aload_n 0, 1), (70, .iload_n 1, 1), (71, .iconst 2, 1), (72, .invokevirtual 94, 3), (75, .invokevirtual 331, 3), (78, .aload_n 0, 1), (79, .bipush 45, 2), (81, .invokevirtual 328, 3), (84, .aload_n 0, 1), (85, .aload_n 0, 1), (86, .iload_n 1, 1), (87, .iconst 3, 1), (88, .invokevirtual 94, 3), (91, .invokevirtual 331, 3), (94, .aload_n 0, 1), (95, .iload_n 1, 1), (96, .iconst 4, 1), (97, .invokevirtual 94, 3), (100, .iconst 1, 1), (101, .if_icmp .le 19, 3), (104, .aload_n 0, 1), (105, .bipush 64, 2), (107, .invokevirtual 328, 3), (110, .aload_n 0, 1), (111, .aload_n 0, 1), (112, .iload_n 1, 1), (113, .iconst 4, 1), (114, .invokevirtual 94, 3), (117, .invokevirtual 331, 3), (120, .aload_n 0, 1), (121, .iload_n 1, 1), (122, .invokevirtual 98, 3), (125, .ifCond .ne 9, 3), (128, .aload_n 0, 1), (129, .bipush 120, 2), (131, .invokevirtual 328, 3), (134, .iinc 1 1, 3), (137, .goto (-130), 3), (140, .aload_n 0, 1), (141, .getfield 325, 3)]
theorem D_cX12_spell_1 : dcs cX12_spell l_cX12_spell_1 := dcs_of (by decide +kernel)
def l_cX12_spell_2 : List (Nat × Instr × Nat) := [(144, .ireturn, 1)]
theorem D_cX12_spell_2 : dcs cX12_spell l_cX12_spell_2 := dcs_of (by decide +kernel)
def l_cX12_paper_0 : List (Nat × Instr × Nat) := [(0, .iload_n 1, 1), (1, .iconst 0, 1), (2, .aload_n 0, 1), (3, .getfield 325, 3), (6, .iconst 1, 1), (7, .isub, 1), (8, .invokestatic 90, 3), (11, .ifCond .eq 12, 3), (14, .aload_n 0, 1), (15, .getfield 81, 3), (18, .iload_n 1, 1), (19, .iaload, 1), (20, .goto 4, 3), (23, .iconst (-1), 1), (24, .ireturn, 1)]
theorem D_cX12_paper_0 : dcs cX12_paper l_cX12_paper_0 := dcs_of (by decide +kernel)
def l_cX12_capacities_0 : List (Nat × Instr × Nat) := [(0, .iconst 0, 1), (1, .istore_n 3, 1), (2, .iconst 0, 1), (3, .istore 4, 2), (5, .iload 4, 2), (7, .aload_n 0, 1), (8, .getfield 9, 3), (11, .iconst 2, 1), (12, .iaload, 1), (13, .if_icmp .ge 33, 3), (16, .iload_n 3, 1), (17, .aload_n 0, 1), (18, .iload 4, 2), (20, .iload_n 2, 1), (21, .invokevirtual 94, 3), (24, .iload_n 1, 1), (25, .if_icmp .ne 12, 3), (28, .aload_n 0, 1), (29, .iload 4, 2), (31, .invokevirtual 150, 3), (34, .goto 4, 3), (37, .iconst 0, 1), (38, .iadd, 1), (39, .istore_n 3, 1), (40, .iinc 4 1, 3), (43, .goto (-38), 3), (46, .iload_n 3, 1), (47, .ireturn, 1)]
theorem D_cX12_capacities_0 : dcs cX12_capacities l_cX12_capacities_0 := dcs_of (by decide +kernel)
def l_cX12_openMany_0 : List (Nat × Instr × Nat) := [(0, .iconst 0, 1), (1, .istore_n 1, 1), (2, .iconst 0, 1), (3, .istore_n 2, 1), (4, .iload_n 2, 1), (5, .aload_n 0, 1), (6, .getfield 9, 3), (9, .iconst 2, 1), (10, .iaload, 1), (11, .if_icmp .ge 18, 3), (14, .iload_n 1, 1), (15, .aload_n 0, 1), (16, .iload_n 2, 1), (17, .iconst 5, 1), (18, .invokevirtual 94, 3), (21, .iadd, 1), (22, .istore_n 1, 1), (23, .iinc 2 1, 3), (26, .goto (-22), 3), (29, .iload_n 1, 1), (30, .ireturn, 1)]
theorem D_cX12_openMany_0 : dcs cX12_openMany l_cX12_openMany_0 := dcs_of (by decide +kernel)
def l_cX12_told_0 : List (Nat × Instr × Nat) := [(0, .iload_n 1, 1), (1, .tableswitch 138 0 10 #[59, 66, 71, 78, 85, 97, 109, 114, 119, 126, 132], 59), (60, .aload_n 0, 1), (61, .getfield 9, 3), (64, .iconst 2, 1), (65, .iaload, 1), (66, .ireturn, 1), (67, .aload_n 0, 1), (68, .invokevirtual 334, 3), (71, .ireturn, 1), (72, .aload_n 0, 1), (73, .getfield 9, 3), (76, .iconst 0, 1), (77, .iaload, 1), (78, .ireturn, 1), (79, .aload_n 0, 1), (80, .getfield 9, 3), (83, .iconst 1, 1), (84, .iaload, 1), (85, .ireturn, 1), (86, .aload_n 0, 1), (87, .aload_n 0, 1), (88, .getfield 9, 3), (91, .iconst 0, 1), (92, .iaload, 1), (93, .iconst 0, 1), (94, .invokevirtual 337, 3), (97, .ireturn, 1), (98, .aload_n 0, 1), (99, .aload_n 0, 1), (100, .getfield 9, 3), (103, .iconst 1, 1), (104, .iaload, 1), (105, .iconst 1, 1), (106, .invokevirtual 337, 3), (109, .ireturn, 1), (110, .aload_n 0, 1), (111, .getfield 246, 3), (114, .ireturn, 1), (115, .aload_n 0, 1)]
theorem D_cX12_told_0 : dcs cX12_told l_cX12_told_0 := dcs_of (by decide +kernel)
def l_cX12_told_1 : List (Nat × Instr × Nat) := [(116, .getfield 325, 3), (119, .ireturn, 1), (120, .aload_n 0, 1), (121, .iconst (-1), 1), (122, .iconst 0, 1), (123, .invokevirtual 340, 3), (126, .ireturn, 1), (127, .aload_n 0, 1), (128, .iconst 0, 1), (129, .invokevirtual 343, 3), (132, .ireturn, 1), (133, .aload_n 0, 1), (134, .iconst 1, 1), (135, .invokevirtual 343, 3), (138, .ireturn, 1), (139, .iconst (-1), 1), (140, .ireturn, 1)]
theorem D_cX12_told_1 : dcs cX12_told l_cX12_told_1 := dcs_of (by decide +kernel)
def l_cX12_isList_0 : List (Nat × Instr × Nat) := [(0, .iload_n 0, 1), (1, .iconst 0, 1), (2, .iconst 3, 1), (3, .invokestatic 90, 3), (6, .ireturn, 1)]
theorem D_cX12_isList_0 : dcs cX12_isList l_cX12_isList_0 := dcs_of (by decide +kernel)
def l_cX12_list_0 : List (Nat × Instr × Nat) := [(0, .iload_n 1, 1), (1, .invokestatic 347, 3), (4, .ifCond .ne 5, 3), (7, .iconst (-1), 1), (8, .ireturn, 1), (9, .iload_n 2, 1), (10, .bipush 40, 2), (12, .if_icmp .le 6, 3), (15, .bipush (-2), 2), (17, .ireturn, 1), (18, .iload_n 2, 1), (19, .ifCond .ge 6, 3), (22, .bipush (-14), 2), (24, .ireturn, 1), (25, .aload_n 0, 1), (26, .getfield 84, 3), (29, .iload_n 1, 1), (30, .iload_n 2, 1), (31, .iastore, 1), (32, .iconst 0, 1), (33, .istore_n 3, 1), (34, .iload_n 3, 1), (35, .iload_n 2, 1), (36, .if_icmp .ge 21, 3), (39, .aload_n 0, 1), (40, .getfield 87, 3), (43, .bipush 40, 2), (45, .iload_n 1, 1), (46, .imul, 1), (47, .iload_n 3, 1), (48, .iadd, 1), (49, .iconst 0, 1), (50, .iastore, 1), (51, .iinc 3 1, 3), (54, .goto (-20), 3), (57, .iconst 1, 1), (58, .ireturn, 1)]
theorem D_cX12_list_0 : dcs cX12_list l_cX12_list_0 := dcs_of (by decide +kernel)
def l_cX12_set_0 : List (Nat × Instr × Nat) := [(0, .iload_n 1, 1), (1, .invokestatic 347, 3), (4, .ifCond .ne 5, 3), (7, .iconst (-1), 1), (8, .ireturn, 1), (9, .aload_n 0, 1), (10, .getfield 84, 3), (13, .iload_n 1, 1), (14, .iaload, 1), (15, .ifCond .ge 6, 3), (18, .bipush (-11), 2), (20, .ireturn, 1), (21, .iload_n 2, 1), (22, .iconst 0, 1), (23, .aload_n 0, 1), (24, .getfield 84, 3), (27, .iload_n 1, 1), (28, .iaload, 1), (29, .iconst 1, 1), (30, .isub, 1), (31, .invokestatic 90, 3), (34, .ifCond .ne 6, 3), (37, .bipush (-13), 2), (39, .ireturn, 1), (40, .aload_n 0, 1), (41, .getfield 87, 3), (44, .bipush 40, 2), (46, .iload_n 1, 1), (47, .imul, 1), (48, .iload_n 2, 1), (49, .iadd, 1), (50, .iload_n 3, 1), (51, .iastore, 1), (52, .iconst 1, 1), (53, .ireturn, 1)]
theorem D_cX12_set_0 : dcs cX12_set l_cX12_set_0 := dcs_of (by decide +kernel)
def l_cX12_get_0 : List (Nat × Instr × Nat) := [(0, .iload_n 1, 1), (1, .invokestatic 347, 3), (4, .ifCond .eq 33, 3), (7, .iload_n 2, 1), (8, .iconst 0, 1), (9, .aload_n 0, 1), (10, .getfield 84, 3), (13, .iload_n 1, 1), (14, .iaload, 1), (15, .iconst 1, 1), (16, .isub, 1), (17, .invokestatic 90, 3), (20, .ifCond .eq 17, 3), (23, .aload_n 0, 1), (24, .getfield 87, 3), (27, .bipush 40, 2), (29, .iload_n 1, 1), (30, .imul, 1), (31, .iload_n 2, 1), (32, .iadd, 1), (33, .iaload, 1), (34, .goto 6, 3), (37, .ldc_w 350, 3), (40, .ireturn, 1)]
theorem D_cX12_get_0 : dcs cX12_get l_cX12_get_0 := dcs_of (by decide +kernel)
def l_cX12_lay_0 : List (Nat × Instr × Nat) := [(0, .iload_n 1, 1), (1, .invokestatic 347, 3), (4, .ifCond .eq 12, 3), (7, .iload_n 3, 1), (8, .iconst 0, 1), (9, .iconst 1, 1), (10, .invokestatic 90, 3), (13, .ifCond .ne 5, 3), (16, .iconst (-1), 1), (17, .ireturn, 1), (18, .aload_n 0, 1), (19, .getfield 84, 3), (22, .iload_n 1, 1), (23, .iaload, 1), (24, .ifCond .ge 6, 3), (27, .bipush (-11), 2), (29, .ireturn, 1), (30, .iload_n 2, 1), (31, .ifCond .ge 19, 3), (34, .aload_n 0, 1), (35, .getfield 9, 3), (38, .iconst 2, 1), (39, .iaload, 1), (40, .ifCond .ne 7, 3), (43, .iconst 0, 1), (44, .goto 5, 3), (47, .bipush (-13), 2), (49, .ireturn, 1), (50, .iload_n 3, 1), (51, .ifCond .ne 11, 3), (54, .aload_n 0, 1), (55, .invokevirtual 160, 3), (58, .pop, 1), (59, .goto 7, 3), (62, .aload_n 0, 1), (63, .invokevirtual 183, 3), (66, .iconst 0, 1), (67, .istore 4, 2), (69, .iload 4, 2), (71, .aload_n 0, 1)]
theorem D_cX12_lay_0 : dcs cX12_lay l_cX12_lay_0 := dcs_of (by decide +kernel)
def l_cX12_lay_1 : List (Nat × Instr × Nat) := [(72, .getfield 9, 3), (75, .iconst 2, 1), (76, .iaload, 1), (77, .if_icmp .ge 43, 3), (80, .iload_n 2, 1), (81, .aload_n 0, 1), (82, .getfield 84, 3), (85, .iload_n 1, 1), (86, .iaload, 1), (87, .iload 4, 2), (89, .isub, 1), (90, .if_icmp .ge 30, 3), (93, .aload_n 0, 1), (94, .getfield 87, 3), (97, .bipush 40, 2), (99, .iload_n 1, 1), (100, .imul, 1), (101, .iload_n 2, 1), (102, .iadd, 1), (103, .iload 4, 2), (105, .iadd, 1), (106, .aload_n 0, 1), (107, .getfield 19, 3), (110, .iload 4, 2), (112, .iaload, 1), (113, .iastore, 1), (114, .iinc 4 1, 3), (117, .goto (-48), 3), (120, .iload 4, 2), (122, .aload_n 0, 1), (123, .getfield 9, 3), (126, .iconst 2, 1), (127, .iaload, 1), (128, .if_icmp .ge 8, 3), (131, .bipush (-13), 2), (133, .goto 5, 3), (136, .iload 4, 2), (138, .ireturn, 1)]
theorem D_cX12_lay_1 : dcs cX12_lay l_cX12_lay_1 := dcs_of (by decide +kernel)
def l_cX12_judge_0 : List (Nat × Instr × Nat) := [(0, .iload_n 1, 1), (1, .invokestatic 347, 3), (4, .ifCond .ne 5, 3), (7, .iconst (-1), 1), (8, .ireturn, 1), (9, .aload_n 0, 1), (10, .getfield 84, 3), (13, .iload_n 1, 1), (14, .iaload, 1), (15, .ifCond .ge 6, 3), (18, .bipush (-11), 2), (20, .ireturn, 1), (21, .iload_n 2, 1), (22, .ifCond .ge 6, 3), (25, .bipush (-13), 2), (27, .ireturn, 1), (28, .iload_n 2, 1), (29, .aload_n 0, 1), (30, .getfield 84, 3), (33, .iload_n 1, 1), (34, .iaload, 1), (35, .aload_n 0, 1), (36, .getfield 9, 3), (39, .iconst 2, 1), (40, .iaload, 1), (41, .isub, 1), (42, .if_icmp .le 15, 3), (45, .aload_n 0, 1), (46, .getfield 9, 3), (49, .iconst 2, 1), (50, .iaload, 1), (51, .ifCond .le 6, 3), (54, .bipush (-5), 2), (56, .ireturn, 1), (57, .bipush 40, 2), (59, .iload_n 1, 1), (60, .imul, 1), (61, .iload_n 2, 1), (62, .iadd, 1), (63, .istore_n 3, 1)]
theorem D_cX12_judge_0 : dcs cX12_judge l_cX12_judge_0 := dcs_of (by decide +kernel)
def l_cX12_judge_1 : List (Nat × Instr × Nat) := [(64, .iconst 0, 1), (65, .istore 4, 2), (67, .iload 4, 2), (69, .aload_n 0, 1), (70, .getfield 9, 3), (73, .iconst 2, 1), (74, .iaload, 1), (75, .if_icmp .ge 34, 3), (78, .aload_n 0, 1), (79, .getfield 87, 3), (82, .iload_n 3, 1), (83, .iload 4, 2), (85, .iadd, 1), (86, .iaload, 1), (87, .iconst 0, 1), (88, .aload_n 0, 1), (89, .iload 4, 2), (91, .invokevirtual 150, 3), (94, .invokestatic 90, 3), (97, .ifCond .ne 6, 3), (100, .iload 4, 2), (102, .ireturn, 1), (103, .iinc 4 1, 3), (106, .goto (-39), 3), (109, .iconst 0, 1), (110, .istore 4, 2), (112, .iconst (-1), 1), (113, .istore 5, 2), (115, .bipush 11, 2), (117, .istore 6, 2), (119, .iload 6, 2), (121, .ifCond .lt 143, 3), (124, .iconst 0, 1), (125, .istore 7, 2), (127, .iconst 0, 1), (128, .istore 8, 2), (130, .iload 8, 2), (132, .aload_n 0, 1), (133, .getfield 9, 3), (136, .iconst 2, 1)]
theorem D_cX12_judge_1 : dcs cX12_judge l_cX12_judge_1 := dcs_of (by decide +kernel)
def l_cX12_judge_2 : List (Nat × Instr × Nat) := [(137, .iaload, 1), (138, .if_icmp .ge 64, 3), (141, .iload 7, 2), (143, .aload_n 0, 1), (144, .iload 8, 2), (146, .iconst 0, 1), (147, .invokevirtual 94, 3), (150, .iload 6, 2), (152, .if_icmp .ne 15, 3), (155, .aload_n 0, 1), (156, .getfield 87, 3), (159, .iload_n 3, 1), (160, .iload 8, 2), (162, .iadd, 1), (163, .iaload, 1), (164, .goto 29, 3), (167, .aload_n 0, 1), (168, .iload 8, 2), (170, .iconst 1, 1), (171, .invokevirtual 94, 3), (174, .iload 6, 2), (176, .if_icmp .ne 16, 3), (179, .aload_n 0, 1), (180, .getfield 87, 3), (183, .iload_n 3, 1), (184, .iload 8, 2), (186, .iadd, 1), (187, .iaload, 1), (188, .ineg, 1), (189, .goto 4, 3), (192, .iconst 0, 1), (193, .iadd, 1), (194, .istore 7, 2), (196, .iinc 8 1, 3), (199, .goto (-69), 3), (202, .iload 6, 2), (204, .aload_n 0, 1), (205, .getfield 9, 3), (208, .iconst 0, 1), (209, .iaload, 1)]
theorem D_cX12_judge_2 : dcs cX12_judge l_cX12_judge_2 := dcs_of (by decide +kernel)
def l_cX12_judge_3 : List (Nat × Instr × Nat) := [(210, .if_icmp .ne 8, 3), (213, .iload 7, 2), (215, .goto 5, 3), (218, .iload 4, 2), (220, .istore 4, 2), (222, .iload 6, 2), (224, .aload_n 0, 1), (225, .getfield 9, 3), (228, .iconst 0, 1), (229, .iaload, 1), (230, .if_icmp .eq 24, 3), (233, .iload 6, 2), (235, .aload_n 0, 1), (236, .getfield 9, 3), (239, .iconst 1, 1), (240, .iaload, 1), (241, .if_icmp .eq 13, 3), (244, .iload 7, 2), (246, .ifCond .eq 8, 3), (249, .iload 6, 2), (251, .goto 5, 3), (254, .iload 5, 2), (256, .istore 5, 2), (258, .iinc 6 (-1), 3), (261, .goto (-142), 3), (264, .iload 5, 2), (266, .ifCond .lt 11, 3), (269, .bipush 100, 2), (271, .iload 5, 2), (273, .iadd, 1), (274, .goto 9, 3), (277, .ldc_w 351, 3), (280, .iload 4, 2), (282, .iadd, 1), (283, .ireturn, 1)]
theorem D_cX12_judge_3 : dcs cX12_judge l_cX12_judge_3 := dcs_of (by decide +kernel)
def l_cX12_image_0 : List (Nat × Instr × Nat) := [(0, .iconst 0, 1), (1, .istore_n 1, 1), (2, .iload_n 1, 1), (3, .sipush 183, 3), (6, .if_icmp .ge 21, 3), (9, .aload_n 0, 1), (10, .getfield 13, 3), (13, .iload_n 1, 1), (14, .aload_n 0, 1), (15, .getfield 9, 3), (18, .iload_n 1, 1), (19, .iaload, 1), (20, .iastore, 1), (21, .iinc 1 1, 3), (24, .goto (-22), 3), (27, .aload_n 0, 1), (28, .iconst 1, 1), (29, .putfield 352, 3), (32, .aload_n 0, 1), (33, .getfield 9, 3), (36, .iconst 2, 1), (37, .iaload, 1), (38, .ireturn, 1)]
theorem D_cX12_image_0 : dcs cX12_image l_cX12_image_0 := dcs_of (by decide +kernel)
def l_cX12_undo_0 : List (Nat × Instr × Nat) := [(0, .aload_n 0, 1), (1, .getfield 352, 3), (4, .ifCond .ne 6, 3), (7, .bipush (-3), 2), (9, .ireturn, 1), (10, .iconst 0, 1), (11, .istore_n 1, 1), (12, .iload_n 1, 1), (13, .sipush 183, 3), (16, .if_icmp .ge 21, 3), (19, .aload_n 0, 1), (20, .getfield 9, 3), (23, .iload_n 1, 1), (24, .aload_n 0, 1), (25, .getfield 13, 3), (28, .iload_n 1, 1), (29, .iaload, 1), (30, .iastore, 1), (31, .iinc 1 1, 3), (34, .goto (-22), 3), (37, .aload_n 0, 1), (38, .getfield 9, 3), (41, .iconst 2, 1), (42, .iaload, 1), (43, .ireturn, 1)]
theorem D_cX12_undo_0 : dcs cX12_undo l_cX12_undo_0 := dcs_of (by decide +kernel)
def l_cJ6_bitCount_0f7a4_0 : List (Nat × Instr × Nat) := [(0, .iload_n 0, 1), (1, .iload_n 0, 1), (2, .iconst 1, 1), (3, .iushr, 1), (4, .ldc_w 265, 3), (7, .iand, 1), (8, .isub, 1), (9, .istore_n 0, 1), (10, .iload_n 0, 1), (11, .ldc_w 266, 3), (14, .iand, 1), (15, .iload_n 0, 1), (16, .iconst 2, 1), (17, .iushr, 1), (18, .ldc_w 266, 3), (21, .iand, 1), (22, .iadd, 1), (23, .istore_n 0, 1), (24, .iload_n 0, 1), (25, .iload_n 0, 1), (26, .iconst 4, 1), (27, .iushr, 1), (28, .iadd, 1), (29, .ldc_w 267, 3), (32, .iand, 1), (33, .istore_n 0, 1), (34, .iload_n 0, 1), (35, .iload_n 0, 1), (36, .bipush 8, 2), (38, .iushr, 1), (39, .iadd, 1), (40, .istore_n 0, 1), (41, .iload_n 0, 1), (42, .iload_n 0, 1), (43, .bipush 16, 2), (45, .iushr, 1), (46, .iadd, 1), (47, .istore_n 0, 1), (48, .iload_n 0, 1), (49, .bipush 63, 2)]
theorem D_cJ6_bitCount_0f7a4_0 : dcs cJ6_bitCount_0f7a4 l_cJ6_bitCount_0f7a4_0 := dcs_of (by decide +kernel)
def l_cJ6_bitCount_0f7a4_1 : List (Nat × Instr × Nat) := [(51, .iand, 1), (52, .ireturn, 1)]
theorem D_cJ6_bitCount_0f7a4_1 : dcs cJ6_bitCount_0f7a4 l_cJ6_bitCount_0f7a4_1 := dcs_of (by decide +kernel)
def l_cJ9_max_7cf53_0 : List (Nat × Instr × Nat) := [(0, .iload_n 0, 1), (1, .iload_n 1, 1), (2, .if_icmp .lt 7, 3), (5, .iload_n 0, 1), (6, .goto 4, 3), (9, .iload_n 1, 1), (10, .ireturn, 1)]
theorem D_cJ9_max_7cf53_0 : dcs cJ9_max_7cf53 l_cJ9_max_7cf53_0 := dcs_of (by decide +kernel)
def l_cJ9_min_7cf53_0 : List (Nat × Instr × Nat) := [(0, .iload_n 0, 1), (1, .iload_n 1, 1), (2, .if_icmp .gt 7, 3), (5, .iload_n 0, 1), (6, .goto 4, 3), (9, .iload_n 1, 1), (10, .ireturn, 1)]
theorem D_cJ9_min_7cf53_0 : dcs cJ9_min_7cf53 l_cJ9_min_7cf53_0 := dcs_of (by decide +kernel)
def l_cJ0_length_8abf5_0 : List (Nat × Instr × Nat) := [(0, .aload_n 0, 1), (1, .getfield 9, 3), (4, .arraylength, 1), (5, .aload_n 0, 1), (6, .invokevirtual 335, 3), (9, .ishr, 1), (10, .ireturn, 1)]
theorem D_cJ0_length_8abf5_0 : dcs cJ0_length_8abf5 l_cJ0_length_8abf5_0 := dcs_of (by decide +kernel)
def l_cJ0_charAt_5068e_0 : List (Nat × Instr × Nat) := [(0, .aload_n 0, 1), (1, .invokevirtual 492, 3), (4, .ifCond .eq 12, 3), (7, .aload_n 0, 1), (8, .getfield 9, 3), (11, .iload_n 1, 1), (12, .invokestatic 495, 3), (15, .ireturn, 1), (16, .aload_n 0, 1), (17, .getfield 9, 3), (20, .iload_n 1, 1), (21, .invokestatic 498, 3), (24, .ireturn, 1)]
theorem D_cJ0_charAt_5068e_0 : dcs cJ0_charAt_5068e l_cJ0_charAt_5068e_0 := dcs_of (by decide +kernel)
def l_cJ0_coder_7d493_0 : List (Nat × Instr × Nat) := [(0, .getstatic 38, 3), (3, .ifCond .eq 10, 3), (6, .aload_n 0, 1), (7, .getfield 15, 3), (10, .goto 4, 3), (13, .iconst 1, 1), (14, .ireturn, 1)]
theorem D_cJ0_coder_7d493_0 : dcs cJ0_coder_7d493 l_cJ0_coder_7d493_0 := dcs_of (by decide +kernel)
def l_cJ0_isLatin1_aae02_0 : List (Nat × Instr × Nat) := [(0, .getstatic 38, 3), (3, .ifCond .eq 14, 3), (6, .aload_n 0, 1), (7, .getfield 15, 3), (10, .ifCond .ne 7, 3), (13, .iconst 1, 1), (14, .goto 4, 3), (17, .iconst 0, 1), (18, .ireturn, 1)]
theorem D_cJ0_isLatin1_aae02_0 : dcs cJ0_isLatin1_aae02 l_cJ0_isLatin1_aae02_0 := dcs_of (by decide +kernel)
def l_cJ0_checkIndex_df160_0 : List (Nat × Instr × Nat) := [(0, .iload_n 0, 1), (1, .iload_n 1, 1), (2, .getstatic 1053, 3), (5, .invokestatic 1059, 3), (8, .pop, 1), (9, .return_, 1)]
theorem D_cJ0_checkIndex_df160_0 : dcs cJ0_checkIndex_df160 l_cJ0_checkIndex_df160_0 := dcs_of (by decide +kernel)
def l_cJ1_charAt_3b067_0 : List (Nat × Instr × Nat) := [(0, .iload_n 1, 1), (1, .aload_n 0, 1), (2, .arraylength, 1), (3, .invokestatic 9, 3), (6, .aload_n 0, 1), (7, .iload_n 1, 1), (8, .baload, 1), (9, .sipush 255, 3), (12, .iand, 1), (13, .i2c, 1), (14, .ireturn, 1)]
theorem D_cJ1_charAt_3b067_0 : dcs cJ1_charAt_3b067 l_cJ1_charAt_3b067_0 := dcs_of (by decide +kernel)
def l_cJ2_getChar_3b067_0 : List (Nat × Instr × Nat) := [(0, .getstatic 44, 3), (3, .ifCond .ne 25, 3), (6, .iload_n 1, 1), (7, .ifCond .lt 11, 3), (10, .iload_n 1, 1), (11, .aload_n 0, 1), (12, .invokestatic 48, 3), (15, .if_icmp .lt 13, 3), (18, .new 52, 3), (21, .dup, 1), (22, .ldc 54, 2), (24, .invokespecial 56, 3), (27, .athrow, 1), (28, .iload_n 1, 1), (29, .iconst 1, 1), (30, .ishl, 1), (31, .istore_n 1, 1), (32, .aload_n 0, 1), (33, .iload_n 1, 1), (34, .iinc 1 1, 3), (37, .baload, 1), (38, .sipush 255, 3), (41, .iand, 1), (42, .getstatic 59, 3), (45, .ishl, 1), (46, .aload_n 0, 1), (47, .iload_n 1, 1), (48, .baload, 1), (49, .sipush 255, 3), (52, .iand, 1), (53, .getstatic 63, 3), (56, .ishl, 1), (57, .ior, 1), (58, .i2c, 1), (59, .ireturn, 1)]
theorem D_cJ2_getChar_3b067_0 : dcs cJ2_getChar_3b067 l_cJ2_getChar_3b067_0 := dcs_of (by decide +kernel)
def l_cJ2_length_9d52b_0 : List (Nat × Instr × Nat) := [(0, .aload_n 0, 1), (1, .arraylength, 1), (2, .iconst 1, 1), (3, .ishr, 1), (4, .ireturn, 1)]
theorem D_cJ2_length_9d52b_0 : dcs cJ2_length_9d52b l_cJ2_length_9d52b_0 := dcs_of (by decide +kernel)
def l_cJ2_charAt_3b067_0 : List (Nat × Instr × Nat) := [(0, .iload_n 1, 1), (1, .aload_n 0, 1), (2, .invokestatic 67, 3), (5, .aload_n 0, 1), (6, .iload_n 1, 1), (7, .invokestatic 71, 3), (10, .ireturn, 1)]
theorem D_cJ2_charAt_3b067_0 : dcs cJ2_charAt_3b067 l_cJ2_charAt_3b067_0 := dcs_of (by decide +kernel)
def l_cJ2_checkIndex_2214a_0 : List (Nat × Instr × Nat) := [(0, .iload_n 0, 1), (1, .aload_n 1, 1), (2, .invokestatic 48, 3), (5, .invokestatic 414, 3), (8, .return_, 1)]
theorem D_cJ2_checkIndex_2214a_0 : dcs cJ2_checkIndex_2214a l_cJ2_checkIndex_2214a_0 := dcs_of (by decide +kernel)
def l_cJ7_rangeCheck_23922_0 : List (Nat × Instr × Nat) := [(0, .iload_n 1, 1), (1, .iload_n 2, 1), (2, .if_icmp .le 44, 3), (5, .new 43, 3), (8, .dup, 1), (9, .new 45, 3), (12, .dup, 1), (13, .invokespecial 47, 3), (16, .ldc 48, 2), (18, .invokevirtual 50, 3), (21, .iload_n 1, 1), (22, .invokevirtual 54, 3), (25, .ldc 57, 2), (27, .invokevirtual 50, 3), (30, .iload_n 2, 1), (31, .invokevirtual 54, 3), (34, .ldc 59, 2), (36, .invokevirtual 50, 3), (39, .invokevirtual 61, 3), (42, .invokespecial 65, 3), (45, .athrow, 1), (46, .iload_n 1, 1), (47, .ifCond .ge 12, 3), (50, .new 68, 3), (53, .dup, 1), (54, .iload_n 1, 1), (55, .invokespecial 70, 3), (58, .athrow, 1), (59, .iload_n 2, 1), (60, .iload_n 0, 1), (61, .if_icmp .le 12, 3), (64, .new 68, 3), (67, .dup, 1), (68, .iload_n 2, 1), (69, .invokespecial 70, 3), (72, .athrow, 1), (73, .return_, 1)]
theorem D_cJ7_rangeCheck_23922_0 : dcs cJ7_rangeCheck_23922 l_cJ7_rangeCheck_23922_0 := dcs_of (by decide +kernel)
def l_cJ7_fill_53178_0 : List (Nat × Instr × Nat) := [(0, .iconst 0, 1), (1, .istore_n 2, 1), (2, .aload_n 0, 1), (3, .arraylength, 1), (4, .istore_n 3, 1), (5, .iload_n 2, 1), (6, .iload_n 3, 1), (7, .if_icmp .ge 13, 3), (10, .aload_n 0, 1), (11, .iload_n 2, 1), (12, .iload_n 1, 1), (13, .iastore, 1), (14, .iinc 2 1, 3), (17, .goto (-12), 3), (20, .return_, 1)]
theorem D_cJ7_fill_53178_0 : dcs cJ7_fill_53178 l_cJ7_fill_53178_0 := dcs_of (by decide +kernel)
def l_cJ7_fill_fda19_0 : List (Nat × Instr × Nat) := [(0, .aload_n 0, 1), (1, .arraylength, 1), (2, .iload_n 1, 1), (3, .iload_n 2, 1), (4, .invokestatic 13, 3), (7, .iload_n 1, 1), (8, .istore 4, 2), (10, .iload 4, 2), (12, .iload_n 2, 1), (13, .if_icmp .ge 14, 3), (16, .aload_n 0, 1), (17, .iload 4, 2), (19, .iload_n 3, 1), (20, .iastore, 1), (21, .iinc 4 1, 3), (24, .goto (-14), 3), (27, .return_, 1)]
theorem D_cJ7_fill_fda19_0 : dcs cJ7_fill_fda19 l_cJ7_fill_fda19_0 := dcs_of (by decide +kernel)
def l_cJ3_checkIndex_8e157_0 : List (Nat × Instr × Nat) := [(0, .iload_n 0, 1), (1, .ifCond .lt 8, 3), (4, .iload_n 0, 1), (5, .iload_n 1, 1), (6, .if_icmp .lt 10, 3), (9, .aload_n 2, 1), (10, .iload_n 0, 1), (11, .iload_n 1, 1), (12, .invokestatic 95, 3), (15, .athrow, 1), (16, .iload_n 0, 1), (17, .ireturn, 1)]
theorem D_cJ3_checkIndex_8e157_0 : dcs cJ3_checkIndex_8e157 l_cJ3_checkIndex_8e157_0 := dcs_of (by decide +kernel)
def l_cL_law_0 : List (Nat × Instr × Nat) := [(0, .new 7, 3), (3, .dup, 1), (4, .invokespecial 9, 3), (7, .astore_n 1, 1), (8, .new 10, 3), (11, .dup, 1), (12, .invokespecial 12, 3), (15, .astore_n 2, 1), (16, .iconst 0, 1), (17, .istore_n 3, 1), (18, .iload_n 3, 1), (19, .aload_n 0, 1), (20, .arraylength, 1), (21, .bipush 6, 2), (23, .isub, 1), (24, .if_icmp .gt 1254, 3), (27, .aload_n 0, 1), (28, .iload_n 3, 1), (29, .iaload, 1), (30, .bipush 63, 2), (32, .iand, 1), (33, .tableswitch 1239 0 41 #[183, 246, 279, 312, 345, 378, 391, 424, 437, 460, 493, 516, 549, 562, 575, 598, 611, 624, 657, 680, 703, 736, 759, 782, 805, 838, 871, 894, 907, 920, 933, 946, 969, 982, 1005, 1028, 1061, 1104, 1137, 1180, 1213, 1226], 183), (216, .aload_n 1, 1), (217, .aload_n 0, 1), (218, .iload_n 3, 1), (219, .iconst 1, 1), (220, .iadd, 1), (221, .iaload, 1), (222, .aload_n 0, 1), (223, .iload_n 3, 1), (224, .iconst 2, 1), (225, .iadd, 1), (226, .iaload, 1), (227, .aload_n 0, 1), (228, .iload_n 3, 1), (229, .iconst 3, 1), (230, .iadd, 1), (231, .iaload, 1), (232, .aload_n 0, 1), (233, .iload_n 3, 1)]
theorem D_cL_law_0 : dcs cL_law l_cL_law_0 := dcs_of (by decide +kernel)
def l_cL_law_1 : List (Nat × Instr × Nat) := [(234, .iconst 4, 1), (235, .iadd, 1), (236, .iaload, 1), (237, .aload_n 0, 1), (238, .iload_n 3, 1), (239, .iconst 5, 1), (240, .iadd, 1), (241, .iaload, 1), (242, .invokevirtual 13, 3), (245, .aload_n 2, 1), (246, .aload_n 0, 1), (247, .iload_n 3, 1), (248, .iconst 1, 1), (249, .iadd, 1), (250, .iaload, 1), (251, .aload_n 0, 1), (252, .iload_n 3, 1), (253, .iconst 2, 1), (254, .iadd, 1), (255, .iaload, 1), (256, .aload_n 0, 1), (257, .iload_n 3, 1), (258, .iconst 3, 1), (259, .iadd, 1), (260, .iaload, 1), (261, .aload_n 0, 1), (262, .iload_n 3, 1), (263, .iconst 4, 1), (264, .iadd, 1), (265, .iaload, 1), (266, .aload_n 0, 1), (267, .iload_n 3, 1), (268, .iconst 5, 1), (269, .iadd, 1), (270, .iaload, 1), (271, .invokevirtual 17, 3), (274, .if_icmp .eq 998, 3), (277, .iconst 0, 1), (278, .ireturn, 1), (279, .aload_n 1, 1)]
theorem D_cL_law_1 : dcs cL_law l_cL_law_1 := dcs_of (by decide +kernel)
def l_cL_law_2 : List (Nat × Instr × Nat) := [(280, .aload_n 0, 1), (281, .iload_n 3, 1), (282, .iconst 1, 1), (283, .iadd, 1), (284, .iaload, 1), (285, .aload_n 0, 1), (286, .iload_n 3, 1), (287, .iconst 2, 1), (288, .iadd, 1), (289, .iaload, 1), (290, .invokevirtual 18, 3), (293, .aload_n 2, 1), (294, .aload_n 0, 1), (295, .iload_n 3, 1), (296, .iconst 1, 1), (297, .iadd, 1), (298, .iaload, 1), (299, .aload_n 0, 1), (300, .iload_n 3, 1), (301, .iconst 2, 1), (302, .iadd, 1), (303, .iaload, 1), (304, .invokevirtual 22, 3), (307, .if_icmp .eq 965, 3), (310, .iconst 0, 1), (311, .ireturn, 1), (312, .aload_n 1, 1), (313, .aload_n 0, 1), (314, .iload_n 3, 1), (315, .iconst 1, 1), (316, .iadd, 1), (317, .iaload, 1), (318, .aload_n 0, 1), (319, .iload_n 3, 1), (320, .iconst 2, 1), (321, .iadd, 1), (322, .iaload, 1), (323, .invokevirtual 23, 3), (326, .aload_n 2, 1), (327, .aload_n 0, 1)]
theorem D_cL_law_2 : dcs cL_law l_cL_law_2 := dcs_of (by decide +kernel)
def l_cL_law_3 : List (Nat × Instr × Nat) := [(328, .iload_n 3, 1), (329, .iconst 1, 1), (330, .iadd, 1), (331, .iaload, 1), (332, .aload_n 0, 1), (333, .iload_n 3, 1), (334, .iconst 2, 1), (335, .iadd, 1), (336, .iaload, 1), (337, .invokevirtual 26, 3), (340, .if_icmp .eq 932, 3), (343, .iconst 0, 1), (344, .ireturn, 1), (345, .aload_n 1, 1), (346, .aload_n 0, 1), (347, .iload_n 3, 1), (348, .iconst 1, 1), (349, .iadd, 1), (350, .iaload, 1), (351, .aload_n 0, 1), (352, .iload_n 3, 1), (353, .iconst 2, 1), (354, .iadd, 1), (355, .iaload, 1), (356, .invokevirtual 27, 3), (359, .aload_n 2, 1), (360, .aload_n 0, 1), (361, .iload_n 3, 1), (362, .iconst 1, 1), (363, .iadd, 1), (364, .iaload, 1), (365, .aload_n 0, 1), (366, .iload_n 3, 1), (367, .iconst 2, 1), (368, .iadd, 1), (369, .iaload, 1), (370, .invokevirtual 30, 3), (373, .if_icmp .eq 899, 3), (376, .iconst 0, 1), (377, .ireturn, 1)]
theorem D_cL_law_3 : dcs cL_law l_cL_law_3 := dcs_of (by decide +kernel)
def l_cL_law_4 : List (Nat × Instr × Nat) := [(378, .aload_n 1, 1), (379, .aload_n 0, 1), (380, .iload_n 3, 1), (381, .iconst 1, 1), (382, .iadd, 1), (383, .iaload, 1), (384, .aload_n 0, 1), (385, .iload_n 3, 1), (386, .iconst 2, 1), (387, .iadd, 1), (388, .iaload, 1), (389, .invokevirtual 31, 3), (392, .aload_n 2, 1), (393, .aload_n 0, 1), (394, .iload_n 3, 1), (395, .iconst 1, 1), (396, .iadd, 1), (397, .iaload, 1), (398, .aload_n 0, 1), (399, .iload_n 3, 1), (400, .iconst 2, 1), (401, .iadd, 1), (402, .iaload, 1), (403, .invokevirtual 34, 3), (406, .if_icmp .eq 866, 3), (409, .iconst 0, 1), (410, .ireturn, 1), (411, .aload_n 1, 1), (412, .invokevirtual 35, 3), (415, .aload_n 2, 1), (416, .invokevirtual 39, 3), (419, .if_icmp .eq 853, 3), (422, .iconst 0, 1), (423, .ireturn, 1), (424, .aload_n 1, 1), (425, .aload_n 0, 1), (426, .iload_n 3, 1), (427, .iconst 1, 1), (428, .iadd, 1), (429, .iaload, 1)]
theorem D_cL_law_4 : dcs cL_law l_cL_law_4 := dcs_of (by decide +kernel)
def l_cL_law_5 : List (Nat × Instr × Nat) := [(430, .aload_n 0, 1), (431, .iload_n 3, 1), (432, .iconst 2, 1), (433, .iadd, 1), (434, .iaload, 1), (435, .invokevirtual 40, 3), (438, .aload_n 2, 1), (439, .aload_n 0, 1), (440, .iload_n 3, 1), (441, .iconst 1, 1), (442, .iadd, 1), (443, .iaload, 1), (444, .aload_n 0, 1), (445, .iload_n 3, 1), (446, .iconst 2, 1), (447, .iadd, 1), (448, .iaload, 1), (449, .invokevirtual 43, 3), (452, .if_icmp .eq 820, 3), (455, .iconst 0, 1), (456, .ireturn, 1), (457, .aload_n 1, 1), (458, .invokevirtual 44, 3), (461, .aload_n 2, 1), (462, .invokevirtual 47, 3), (465, .if_icmp .eq 807, 3), (468, .iconst 0, 1), (469, .ireturn, 1), (470, .aload_n 1, 1), (471, .aload_n 0, 1), (472, .iload_n 3, 1), (473, .iconst 1, 1), (474, .iadd, 1), (475, .iaload, 1), (476, .invokevirtual 48, 3), (479, .aload_n 2, 1), (480, .aload_n 0, 1), (481, .iload_n 3, 1), (482, .iconst 1, 1), (483, .iadd, 1)]
theorem D_cL_law_5 : dcs cL_law l_cL_law_5 := dcs_of (by decide +kernel)
def l_cL_law_6 : List (Nat × Instr × Nat) := [(484, .iaload, 1), (485, .invokevirtual 52, 3), (488, .if_icmp .eq 784, 3), (491, .iconst 0, 1), (492, .ireturn, 1), (493, .aload_n 1, 1), (494, .aload_n 0, 1), (495, .iload_n 3, 1), (496, .iconst 1, 1), (497, .iadd, 1), (498, .iaload, 1), (499, .aload_n 0, 1), (500, .iload_n 3, 1), (501, .iconst 2, 1), (502, .iadd, 1), (503, .iaload, 1), (504, .invokevirtual 53, 3), (507, .aload_n 2, 1), (508, .aload_n 0, 1), (509, .iload_n 3, 1), (510, .iconst 1, 1), (511, .iadd, 1), (512, .iaload, 1), (513, .aload_n 0, 1), (514, .iload_n 3, 1), (515, .iconst 2, 1), (516, .iadd, 1), (517, .iaload, 1), (518, .invokevirtual 56, 3), (521, .if_icmp .eq 751, 3), (524, .iconst 0, 1), (525, .ireturn, 1), (526, .aload_n 1, 1), (527, .aload_n 0, 1), (528, .iload_n 3, 1), (529, .iconst 1, 1), (530, .iadd, 1), (531, .iaload, 1), (532, .invokevirtual 57, 3), (535, .aload_n 2, 1)]
theorem D_cL_law_6 : dcs cL_law l_cL_law_6 := dcs_of (by decide +kernel)
def l_cL_law_7 : List (Nat × Instr × Nat) := [(536, .aload_n 0, 1), (537, .iload_n 3, 1), (538, .iconst 1, 1), (539, .iadd, 1), (540, .iaload, 1), (541, .invokevirtual 60, 3), (544, .if_icmp .eq 728, 3), (547, .iconst 0, 1), (548, .ireturn, 1), (549, .aload_n 1, 1), (550, .aload_n 0, 1), (551, .iload_n 3, 1), (552, .iconst 1, 1), (553, .iadd, 1), (554, .iaload, 1), (555, .aload_n 0, 1), (556, .iload_n 3, 1), (557, .iconst 2, 1), (558, .iadd, 1), (559, .iaload, 1), (560, .invokevirtual 61, 3), (563, .aload_n 2, 1), (564, .aload_n 0, 1), (565, .iload_n 3, 1), (566, .iconst 1, 1), (567, .iadd, 1), (568, .iaload, 1), (569, .aload_n 0, 1), (570, .iload_n 3, 1), (571, .iconst 2, 1), (572, .iadd, 1), (573, .iaload, 1), (574, .invokevirtual 64, 3), (577, .if_icmp .eq 695, 3), (580, .iconst 0, 1), (581, .ireturn, 1), (582, .aload_n 1, 1), (583, .invokevirtual 65, 3), (586, .aload_n 2, 1), (587, .invokevirtual 68, 3)]
theorem D_cL_law_7 : dcs cL_law l_cL_law_7 := dcs_of (by decide +kernel)
def l_cL_law_8 : List (Nat × Instr × Nat) := [(590, .if_icmp .eq 682, 3), (593, .iconst 0, 1), (594, .ireturn, 1), (595, .aload_n 1, 1), (596, .invokevirtual 69, 3), (599, .aload_n 2, 1), (600, .invokevirtual 72, 3), (603, .if_icmp .eq 669, 3), (606, .iconst 0, 1), (607, .ireturn, 1), (608, .aload_n 1, 1), (609, .aload_n 0, 1), (610, .iload_n 3, 1), (611, .iconst 1, 1), (612, .iadd, 1), (613, .iaload, 1), (614, .invokevirtual 73, 3), (617, .aload_n 2, 1), (618, .aload_n 0, 1), (619, .iload_n 3, 1), (620, .iconst 1, 1), (621, .iadd, 1), (622, .iaload, 1), (623, .invokevirtual 76, 3), (626, .if_icmp .eq 646, 3), (629, .iconst 0, 1), (630, .ireturn, 1), (631, .aload_n 1, 1), (632, .invokevirtual 77, 3), (635, .aload_n 2, 1), (636, .invokevirtual 80, 3), (639, .if_icmp .eq 633, 3), (642, .iconst 0, 1), (643, .ireturn, 1), (644, .aload_n 1, 1), (645, .invokevirtual 81, 3), (648, .aload_n 2, 1), (649, .invokevirtual 84, 3), (652, .if_icmp .eq 620, 3), (655, .iconst 0, 1)]
theorem D_cL_law_8 : dcs cL_law l_cL_law_8 := dcs_of (by decide +kernel)
def l_cL_law_9 : List (Nat × Instr × Nat) := [(656, .ireturn, 1), (657, .aload_n 1, 1), (658, .aload_n 0, 1), (659, .iload_n 3, 1), (660, .iconst 1, 1), (661, .iadd, 1), (662, .iaload, 1), (663, .aload_n 0, 1), (664, .iload_n 3, 1), (665, .iconst 2, 1), (666, .iadd, 1), (667, .iaload, 1), (668, .invokevirtual 85, 3), (671, .aload_n 2, 1), (672, .aload_n 0, 1), (673, .iload_n 3, 1), (674, .iconst 1, 1), (675, .iadd, 1), (676, .iaload, 1), (677, .aload_n 0, 1), (678, .iload_n 3, 1), (679, .iconst 2, 1), (680, .iadd, 1), (681, .iaload, 1), (682, .invokevirtual 88, 3), (685, .if_icmp .eq 587, 3), (688, .iconst 0, 1), (689, .ireturn, 1), (690, .aload_n 1, 1), (691, .aload_n 0, 1), (692, .iload_n 3, 1), (693, .iconst 1, 1), (694, .iadd, 1), (695, .iaload, 1), (696, .invokevirtual 89, 3), (699, .aload_n 2, 1), (700, .aload_n 0, 1), (701, .iload_n 3, 1), (702, .iconst 1, 1), (703, .iadd, 1)]
theorem D_cL_law_9 : dcs cL_law l_cL_law_9 := dcs_of (by decide +kernel)
def l_cL_law_10 : List (Nat × Instr × Nat) := [(704, .iaload, 1), (705, .invokevirtual 92, 3), (708, .if_icmp .eq 564, 3), (711, .iconst 0, 1), (712, .ireturn, 1), (713, .aload_n 1, 1), (714, .aload_n 0, 1), (715, .iload_n 3, 1), (716, .iconst 1, 1), (717, .iadd, 1), (718, .iaload, 1), (719, .invokevirtual 93, 3), (722, .aload_n 2, 1), (723, .aload_n 0, 1), (724, .iload_n 3, 1), (725, .iconst 1, 1), (726, .iadd, 1), (727, .iaload, 1), (728, .invokevirtual 96, 3), (731, .if_icmp .eq 541, 3), (734, .iconst 0, 1), (735, .ireturn, 1), (736, .aload_n 1, 1), (737, .aload_n 0, 1), (738, .iload_n 3, 1), (739, .iconst 1, 1), (740, .iadd, 1), (741, .iaload, 1), (742, .aload_n 0, 1), (743, .iload_n 3, 1), (744, .iconst 2, 1), (745, .iadd, 1), (746, .iaload, 1), (747, .invokevirtual 97, 3), (750, .aload_n 2, 1), (751, .aload_n 0, 1), (752, .iload_n 3, 1), (753, .iconst 1, 1), (754, .iadd, 1), (755, .iaload, 1)]
theorem D_cL_law_10 : dcs cL_law l_cL_law_10 := dcs_of (by decide +kernel)
def l_cL_law_11 : List (Nat × Instr × Nat) := [(756, .aload_n 0, 1), (757, .iload_n 3, 1), (758, .iconst 2, 1), (759, .iadd, 1), (760, .iaload, 1), (761, .invokevirtual 100, 3), (764, .if_icmp .eq 508, 3), (767, .iconst 0, 1), (768, .ireturn, 1), (769, .aload_n 1, 1), (770, .aload_n 0, 1), (771, .iload_n 3, 1), (772, .iconst 1, 1), (773, .iadd, 1), (774, .iaload, 1), (775, .invokevirtual 101, 3), (778, .aload_n 2, 1), (779, .aload_n 0, 1), (780, .iload_n 3, 1), (781, .iconst 1, 1), (782, .iadd, 1), (783, .iaload, 1), (784, .invokevirtual 104, 3), (787, .if_icmp .eq 485, 3), (790, .iconst 0, 1), (791, .ireturn, 1), (792, .aload_n 1, 1), (793, .aload_n 0, 1), (794, .iload_n 3, 1), (795, .iconst 1, 1), (796, .iadd, 1), (797, .iaload, 1), (798, .invokevirtual 105, 3), (801, .aload_n 2, 1), (802, .aload_n 0, 1), (803, .iload_n 3, 1), (804, .iconst 1, 1), (805, .iadd, 1), (806, .iaload, 1), (807, .invokevirtual 108, 3)]
theorem D_cL_law_11 : dcs cL_law l_cL_law_11 := dcs_of (by decide +kernel)
def l_cL_law_12 : List (Nat × Instr × Nat) := [(810, .if_icmp .eq 462, 3), (813, .iconst 0, 1), (814, .ireturn, 1), (815, .aload_n 1, 1), (816, .aload_n 0, 1), (817, .iload_n 3, 1), (818, .iconst 1, 1), (819, .iadd, 1), (820, .iaload, 1), (821, .invokevirtual 109, 3), (824, .aload_n 2, 1), (825, .aload_n 0, 1), (826, .iload_n 3, 1), (827, .iconst 1, 1), (828, .iadd, 1), (829, .iaload, 1), (830, .invokevirtual 112, 3), (833, .if_icmp .eq 439, 3), (836, .iconst 0, 1), (837, .ireturn, 1), (838, .aload_n 1, 1), (839, .aload_n 0, 1), (840, .iload_n 3, 1), (841, .iconst 1, 1), (842, .iadd, 1), (843, .iaload, 1), (844, .aload_n 0, 1), (845, .iload_n 3, 1), (846, .iconst 2, 1), (847, .iadd, 1), (848, .iaload, 1), (849, .invokevirtual 113, 3), (852, .aload_n 2, 1), (853, .aload_n 0, 1), (854, .iload_n 3, 1), (855, .iconst 1, 1), (856, .iadd, 1), (857, .iaload, 1), (858, .aload_n 0, 1), (859, .iload_n 3, 1)]
theorem D_cL_law_12 : dcs cL_law l_cL_law_12 := dcs_of (by decide +kernel)
def l_cL_law_13 : List (Nat × Instr × Nat) := [(860, .iconst 2, 1), (861, .iadd, 1), (862, .iaload, 1), (863, .invokevirtual 116, 3), (866, .if_icmp .eq 406, 3), (869, .iconst 0, 1), (870, .ireturn, 1), (871, .aload_n 1, 1), (872, .aload_n 0, 1), (873, .iload_n 3, 1), (874, .iconst 1, 1), (875, .iadd, 1), (876, .iaload, 1), (877, .aload_n 0, 1), (878, .iload_n 3, 1), (879, .iconst 2, 1), (880, .iadd, 1), (881, .iaload, 1), (882, .invokevirtual 117, 3), (885, .aload_n 2, 1), (886, .aload_n 0, 1), (887, .iload_n 3, 1), (888, .iconst 1, 1), (889, .iadd, 1), (890, .iaload, 1), (891, .aload_n 0, 1), (892, .iload_n 3, 1), (893, .iconst 2, 1), (894, .iadd, 1), (895, .iaload, 1), (896, .invokevirtual 120, 3), (899, .if_icmp .eq 373, 3), (902, .iconst 0, 1), (903, .ireturn, 1), (904, .aload_n 1, 1), (905, .aload_n 0, 1), (906, .iload_n 3, 1), (907, .iconst 1, 1), (908, .iadd, 1), (909, .iaload, 1)]
theorem D_cL_law_13 : dcs cL_law l_cL_law_13 := dcs_of (by decide +kernel)
def l_cL_law_14 : List (Nat × Instr × Nat) := [(910, .invokevirtual 121, 3), (913, .aload_n 2, 1), (914, .aload_n 0, 1), (915, .iload_n 3, 1), (916, .iconst 1, 1), (917, .iadd, 1), (918, .iaload, 1), (919, .invokevirtual 124, 3), (922, .if_icmp .eq 350, 3), (925, .iconst 0, 1), (926, .ireturn, 1), (927, .aload_n 1, 1), (928, .invokevirtual 125, 3), (931, .aload_n 2, 1), (932, .invokevirtual 128, 3), (935, .if_icmp .eq 337, 3), (938, .iconst 0, 1), (939, .ireturn, 1), (940, .aload_n 1, 1), (941, .invokevirtual 129, 3), (944, .aload_n 2, 1), (945, .invokevirtual 132, 3), (948, .if_icmp .eq 324, 3), (951, .iconst 0, 1), (952, .ireturn, 1), (953, .aload_n 1, 1), (954, .invokevirtual 133, 3), (957, .aload_n 2, 1), (958, .invokevirtual 136, 3), (961, .if_icmp .eq 311, 3), (964, .iconst 0, 1), (965, .ireturn, 1), (966, .aload_n 1, 1), (967, .invokevirtual 137, 3), (970, .aload_n 2, 1), (971, .invokevirtual 140, 3), (974, .if_icmp .eq 298, 3), (977, .iconst 0, 1), (978, .ireturn, 1), (979, .aload_n 1, 1)]
theorem D_cL_law_14 : dcs cL_law l_cL_law_14 := dcs_of (by decide +kernel)
def l_cL_law_15 : List (Nat × Instr × Nat) := [(980, .aload_n 0, 1), (981, .iload_n 3, 1), (982, .iconst 1, 1), (983, .iadd, 1), (984, .iaload, 1), (985, .invokevirtual 141, 3), (988, .aload_n 2, 1), (989, .aload_n 0, 1), (990, .iload_n 3, 1), (991, .iconst 1, 1), (992, .iadd, 1), (993, .iaload, 1), (994, .invokevirtual 144, 3), (997, .if_icmp .eq 275, 3), (1000, .iconst 0, 1), (1001, .ireturn, 1), (1002, .aload_n 1, 1), (1003, .invokevirtual 145, 3), (1006, .aload_n 2, 1), (1007, .invokevirtual 148, 3), (1010, .if_icmp .eq 262, 3), (1013, .iconst 0, 1), (1014, .ireturn, 1), (1015, .aload_n 1, 1), (1016, .aload_n 0, 1), (1017, .iload_n 3, 1), (1018, .iconst 1, 1), (1019, .iadd, 1), (1020, .iaload, 1), (1021, .invokevirtual 149, 3), (1024, .aload_n 2, 1), (1025, .aload_n 0, 1), (1026, .iload_n 3, 1), (1027, .iconst 1, 1), (1028, .iadd, 1), (1029, .iaload, 1), (1030, .invokevirtual 152, 3), (1033, .if_icmp .eq 239, 3), (1036, .iconst 0, 1), (1037, .ireturn, 1)]
theorem D_cL_law_15 : dcs cL_law l_cL_law_15 := dcs_of (by decide +kernel)
def l_cL_law_16 : List (Nat × Instr × Nat) := [(1038, .aload_n 1, 1), (1039, .aload_n 0, 1), (1040, .iload_n 3, 1), (1041, .iconst 1, 1), (1042, .iadd, 1), (1043, .iaload, 1), (1044, .invokevirtual 153, 3), (1047, .aload_n 2, 1), (1048, .aload_n 0, 1), (1049, .iload_n 3, 1), (1050, .iconst 1, 1), (1051, .iadd, 1), (1052, .iaload, 1), (1053, .invokevirtual 156, 3), (1056, .if_icmp .eq 216, 3), (1059, .iconst 0, 1), (1060, .ireturn, 1), (1061, .aload_n 1, 1), (1062, .aload_n 0, 1), (1063, .iload_n 3, 1), (1064, .iconst 1, 1), (1065, .iadd, 1), (1066, .iaload, 1), (1067, .aload_n 0, 1), (1068, .iload_n 3, 1), (1069, .iconst 2, 1), (1070, .iadd, 1), (1071, .iaload, 1), (1072, .invokevirtual 157, 3), (1075, .aload_n 2, 1), (1076, .aload_n 0, 1), (1077, .iload_n 3, 1), (1078, .iconst 1, 1), (1079, .iadd, 1), (1080, .iaload, 1), (1081, .aload_n 0, 1), (1082, .iload_n 3, 1), (1083, .iconst 2, 1), (1084, .iadd, 1), (1085, .iaload, 1)]
theorem D_cL_law_16 : dcs cL_law l_cL_law_16 := dcs_of (by decide +kernel)
def l_cL_law_17 : List (Nat × Instr × Nat) := [(1086, .invokevirtual 160, 3), (1089, .if_icmp .eq 183, 3), (1092, .iconst 0, 1), (1093, .ireturn, 1), (1094, .aload_n 1, 1), (1095, .aload_n 0, 1), (1096, .iload_n 3, 1), (1097, .iconst 1, 1), (1098, .iadd, 1), (1099, .iaload, 1), (1100, .aload_n 0, 1), (1101, .iload_n 3, 1), (1102, .iconst 2, 1), (1103, .iadd, 1), (1104, .iaload, 1), (1105, .aload_n 0, 1), (1106, .iload_n 3, 1), (1107, .iconst 3, 1), (1108, .iadd, 1), (1109, .iaload, 1), (1110, .invokevirtual 161, 3), (1113, .aload_n 2, 1), (1114, .aload_n 0, 1), (1115, .iload_n 3, 1), (1116, .iconst 1, 1), (1117, .iadd, 1), (1118, .iaload, 1), (1119, .aload_n 0, 1), (1120, .iload_n 3, 1), (1121, .iconst 2, 1), (1122, .iadd, 1), (1123, .iaload, 1), (1124, .aload_n 0, 1), (1125, .iload_n 3, 1), (1126, .iconst 3, 1), (1127, .iadd, 1), (1128, .iaload, 1), (1129, .invokevirtual 165, 3), (1132, .if_icmp .eq 140, 3), (1135, .iconst 0, 1)]
theorem D_cL_law_17 : dcs cL_law l_cL_law_17 := dcs_of (by decide +kernel)
def l_cL_law_18 : List (Nat × Instr × Nat) := [(1136, .ireturn, 1), (1137, .aload_n 1, 1), (1138, .aload_n 0, 1), (1139, .iload_n 3, 1), (1140, .iconst 1, 1), (1141, .iadd, 1), (1142, .iaload, 1), (1143, .aload_n 0, 1), (1144, .iload_n 3, 1), (1145, .iconst 2, 1), (1146, .iadd, 1), (1147, .iaload, 1), (1148, .invokevirtual 166, 3), (1151, .aload_n 2, 1), (1152, .aload_n 0, 1), (1153, .iload_n 3, 1), (1154, .iconst 1, 1), (1155, .iadd, 1), (1156, .iaload, 1), (1157, .aload_n 0, 1), (1158, .iload_n 3, 1), (1159, .iconst 2, 1), (1160, .iadd, 1), (1161, .iaload, 1), (1162, .invokevirtual 169, 3), (1165, .if_icmp .eq 107, 3), (1168, .iconst 0, 1), (1169, .ireturn, 1), (1170, .aload_n 1, 1), (1171, .aload_n 0, 1), (1172, .iload_n 3, 1), (1173, .iconst 1, 1), (1174, .iadd, 1), (1175, .iaload, 1), (1176, .aload_n 0, 1), (1177, .iload_n 3, 1), (1178, .iconst 2, 1), (1179, .iadd, 1), (1180, .iaload, 1), (1181, .aload_n 0, 1)]
theorem D_cL_law_18 : dcs cL_law l_cL_law_18 := dcs_of (by decide +kernel)
def l_cL_law_19 : List (Nat × Instr × Nat) := [(1182, .iload_n 3, 1), (1183, .iconst 3, 1), (1184, .iadd, 1), (1185, .iaload, 1), (1186, .invokevirtual 170, 3), (1189, .aload_n 2, 1), (1190, .aload_n 0, 1), (1191, .iload_n 3, 1), (1192, .iconst 1, 1), (1193, .iadd, 1), (1194, .iaload, 1), (1195, .aload_n 0, 1), (1196, .iload_n 3, 1), (1197, .iconst 2, 1), (1198, .iadd, 1), (1199, .iaload, 1), (1200, .aload_n 0, 1), (1201, .iload_n 3, 1), (1202, .iconst 3, 1), (1203, .iadd, 1), (1204, .iaload, 1), (1205, .invokevirtual 173, 3), (1208, .if_icmp .eq 64, 3), (1211, .iconst 0, 1), (1212, .ireturn, 1), (1213, .aload_n 1, 1), (1214, .aload_n 0, 1), (1215, .iload_n 3, 1), (1216, .iconst 1, 1), (1217, .iadd, 1), (1218, .iaload, 1), (1219, .aload_n 0, 1), (1220, .iload_n 3, 1), (1221, .iconst 2, 1), (1222, .iadd, 1), (1223, .iaload, 1), (1224, .invokevirtual 174, 3), (1227, .aload_n 2, 1), (1228, .aload_n 0, 1), (1229, .iload_n 3, 1)]
theorem D_cL_law_19 : dcs cL_law l_cL_law_19 := dcs_of (by decide +kernel)
def l_cL_law_20 : List (Nat × Instr × Nat) := [(1230, .iconst 1, 1), (1231, .iadd, 1), (1232, .iaload, 1), (1233, .aload_n 0, 1), (1234, .iload_n 3, 1), (1235, .iconst 2, 1), (1236, .iadd, 1), (1237, .iaload, 1), (1238, .invokevirtual 177, 3), (1241, .if_icmp .eq 31, 3), (1244, .iconst 0, 1), (1245, .ireturn, 1), (1246, .aload_n 1, 1), (1247, .invokevirtual 178, 3), (1250, .aload_n 2, 1), (1251, .invokevirtual 181, 3), (1254, .if_icmp .eq 18, 3), (1257, .iconst 0, 1), (1258, .ireturn, 1), (1259, .aload_n 1, 1), (1260, .invokevirtual 182, 3), (1263, .aload_n 2, 1), (1264, .invokevirtual 185, 3), (1267, .if_icmp .eq 5, 3), (1270, .iconst 0, 1), (1271, .ireturn, 1), (1272, .iinc 3 6, 3), (1275, .goto (-1257), 3), (1278, .iconst 1, 1), (1279, .ireturn, 1)]
theorem D_cL_law_20 : dcs cL_law l_cL_law_20 := dcs_of (by decide +kernel)
end
section
/-! THE PURE STATE: a number for each place of each cell; the machine holds iz of it. -/
abbrev PS : Type := Nat → Nat → Int
def iz (z : Int) : Int32 := Int32.ofInt z
abbrev Rg (z : Int) : Prop := -2147483648 ≤ z ∧ z ≤ 2147483647
def RS (σ : PS) : Prop := ∀ k i : Nat, Rg (σ k i)
def up2 (σ : PS) (k i : Nat) (v : Int) : PS := fun k' i' => if k' = k ∧ i' = i then v else σ k' i'
theorem RS.up {σ : PS} {v : Int} (h : RS σ) (hv : Rg v) (k i : Nat) : RS (up2 σ k i v) := by
  intro k' i'
  unfold up2
  split
  · exact hv
  · exact h k' i'
theorem iz_toInt {z : Int} (h : Rg z) : (iz z).toInt = z := by
  unfold iz
  have h2 : z.bmod (2 ^ 32) = z := Int.bmod_eq_of_le (by omega) (by omega)
  rw [Int32.toInt_ofInt]
  exact h2
theorem iz_of (x : Int32) : iz x.toInt = x := Int32.ofInt_toInt x
theorem Rg_of (x : Int32) : Rg x.toInt := by
  have h1 := Int32.le_toInt x
  have h2 := Int32.toInt_lt x
  exact ⟨by omega, by omega⟩
theorem iz_add (a b : Int) : iz a + iz b = iz (a + b) := (Int32.ofInt_add a b).symm
theorem iz_sub (a b : Int) : iz a - iz b = iz (a - b) := (Int32.ofInt_sub a b).symm
theorem iz_mul (a b : Int) : iz a * iz b = iz (a * b) := (Int32.ofInt_mul a b).symm
theorem iz_neg (a : Int) : -iz a = iz (-a) := (Int32.ofInt_neg a).symm
theorem iz_lt {a b : Int} (ha : Rg a) (hb : Rg b) : iz a < iz b ↔ a < b := by rw [Int32.lt_iff_toInt_lt, iz_toInt ha, iz_toInt hb]
theorem iz_le {a b : Int} (ha : Rg a) (hb : Rg b) : iz a ≤ iz b ↔ a ≤ b := by rw [Int32.le_iff_toInt_le, iz_toInt ha, iz_toInt hb]
theorem iz_eq {a b : Int} (ha : Rg a) (hb : Rg b) : iz a = iz b ↔ a = b := by rw [← Int32.toInt_inj, iz_toInt ha, iz_toInt hb]
theorem iz_0 : iz 0 = 0 := by decide +kernel
theorem iz_in {i N : Int} {n : Nat} (hN : (n : Int) = N) (hn : Nat.ble n 1000000 = true) (h : 0 ≤ i ∧ i < N) : vp_in (iz i) n ∧ (iz i).toNatClampNeg = i.toNat := by
  have h2 := Nat.le_of_ble_eq_true hn
  have hr : Rg i := ⟨by omega, by omega⟩
  refine ⟨vp_in_iff.mpr ?_, ?_⟩
  · rw [iz_toInt hr]; omega
  · show (iz i).toInt.toNat = i.toNat
    rw [iz_toInt hr]
/-! pure words for the operations that aren't sums -/
def iand (a b : Int) : Int := (iz a &&& iz b).toInt
def ior (a b : Int) : Int := (iz a ||| iz b).toInt
def ixor (a b : Int) : Int := (iz a ^^^ iz b).toInt
def ishl (a b : Int) : Int := (iz a <<< (iz b &&& 31)).toInt
def ishr (a b : Int) : Int := (iz a >>> (iz b &&& 31)).toInt
def iushr (a b : Int) : Int := ((iz a).toUInt32 >>> ((iz b).toUInt32 &&& Int32.toUInt32 31)).toInt32.toInt
def iwrap (a : Int) : Int := (iz a).toInt
theorem iwrap_id {a : Int} (h : Rg a) : iwrap a = a := iz_toInt h
/-! THE LAYOUT: every cell of a world is made once and for all -/
abbrev LE : Type := (Nat × Nat) ⊕ (Nat × List (Option Nat))
abbrev EV : Type := Launch × va_G × (Nat → Nat) × (Nat → ClassId) × (Nat → Nat) × (Nat → Nat)
abbrev eL (E : EV) : Launch := E.1
abbrev eG (E : EV) : va_G := E.2.1
abbrev eA (E : EV) : Nat → Nat := E.2.2.1
abbrev eC (E : EV) : Nat → ClassId := E.2.2.2.1
abbrev eS (E : EV) : Nat → Nat := E.2.2.2.2.1
abbrev eV (E : EV) : Nat → Nat := E.2.2.2.2.2
def fcell (E : EV) (row : Nat → Int) (j : Nat) (f : Option Nat) : Value := match f with
  | none => .int (iz (row j))
  | some r => .ref (eA E r)
def lcell (E : EV) (row : Nat → Int) (e : LE) : va_E := match e with
  | .inl a => .inl (eC E a.1, a.2, .inl (fun i => iz (row i)))
  | .inr o => .inr (o.1, o.2.mapIdx (fcell E row))
def wld (lay : List LE) (E : EV) (σ : PS) : va_W := lay.mapIdx (fun k e => (eA E k, lcell E (σ k) e))
def wA (lay : List LE) (E : EV) : Nat → Prop := fun q => ∃ k : Nat, k < lay.length ∧ eA E k = q
def tyE (E : EV) : List (ClassId × FieldType) := [(eC E 0, .int), (eC E 1, .byte), (eC E 2, .boolean)]
def eOK (lay : List LE) (E : EV) : Prop := ∀ i j : Nat, i < lay.length → j < lay.length → eA E i = eA E j → i = j
theorem wld_get {lay : List LE} {E : EV} {σ : PS} {k : Nat} {e : LE} (h : lay[k]? = some e) : (wld lay E σ)[k]? = some (eA E k, lcell E (σ k) e) := by
  simp [wld, List.getElem?_mapIdx, h]
theorem wld_len {lay : List LE} {E : EV} {σ : PS} : (wld lay E σ).length = lay.length := by simp [wld]
theorem lay_lt {lay : List LE} {k : Nat} {e : LE} (h : lay[k]? = some e) : k < lay.length := (List.getElem?_eq_some_iff.mp h).1
theorem wld_of {lay : List LE} {E : EV} {σ : PS} {k : Nat} {q : Nat × va_E} (h : (wld lay E σ)[k]? = some q) : k < lay.length ∧ q.1 = eA E k := by
  have hl : k < lay.length := by
    have := (List.getElem?_eq_some_iff.mp h).1
    rwa [wld_len] at this
  refine ⟨hl, ?_⟩
  rw [wld_get (List.getElem?_eq_getElem hl)] at h
  cases h
  rfl
theorem wld_D {lay : List LE} {E : EV} {σ : PS} (h : eOK lay E) : va_D (wA lay E) (wld lay E σ) := by
  refine ⟨fun i j p q hi hj hpq => ?_, fun k q hk => ?_⟩
  · obtain ⟨h1, e1⟩ := wld_of hi
    obtain ⟨h2, e2⟩ := wld_of hj
    exact h i j h1 h2 (by rw [← e1, ← e2, hpq])
  · obtain ⟨h1, e1⟩ := wld_of hk
    exact ⟨k, h1, e1.symm⟩
theorem wld_set {lay : List LE} {E : EV} {σ σ' : PS} {k : Nat} {e : LE} {v : va_E} (h : lay[k]? = some e) (he : v = lcell E (σ' k) e) (hσ : ∀ k' : Nat, k' ≠ k → σ' k' = σ k') : (wld lay E σ).set k (eA E k, v) = wld lay E σ' := by
  apply List.ext_getElem?
  intro i
  by_cases hi : i = k
  · subst hi
    rw [List.getElem?_set_self (by rw [wld_len]; exact lay_lt h), wld_get h, he]
  · rw [List.getElem?_set_ne (Ne.symm hi)]
    simp only [wld, List.getElem?_mapIdx]
    rw [hσ i hi]
theorem up2_row {σ : PS} {k i : Nat} {v : Int} {k' : Nat} (h : k' ≠ k) : up2 σ k i v k' = σ k' := by
  funext i'
  simp [up2, h]
theorem up2_self {σ : PS} {k i : Nat} {v : Int} : up2 σ k i v k = fun j => if j = i then v else σ k j := by
  funext i'
  simp [up2]
theorem wld_setA {lay : List LE} {E : EV} {σ : PS} {k t n i : Nat} {v : Int} (h : lay[k]? = some (.inl (t, n))) : (wld lay E σ).set k (eA E k, .inl (eC E t, n, .inl (upd (fun j => iz (σ k j)) i (iz v)))) = wld lay E (up2 σ k i v) := by
  refine wld_set h ?_ (fun k' hk => up2_row hk)
  rw [up2_self]
  show (Sum.inl _ : va_E) = Sum.inl _
  congr 4
  funext j
  by_cases hj : j = i <;> simp [upd, hj]
theorem wld_setF {lay : List LE} {E : EV} {σ : PS} {k ci j : Nat} {fs : List (Option Nat)} {v : Int} (h : lay[k]? = some (.inr (ci, fs))) (hf : fs[j]? = some none) : (wld lay E σ).set k (eA E k, .inr (ci, (fs.mapIdx (fcell E (σ k))).set j (.int (iz v)))) = wld lay E (up2 σ k j v) := by
  refine wld_set h ?_ (fun k' hk => up2_row hk)
  rw [up2_self]
  show (Sum.inr _ : va_E) = Sum.inr _
  congr 2
  have hl : j < fs.length := (List.getElem?_eq_some_iff.mp hf).1
  apply List.ext_getElem?
  intro i
  by_cases hi : i = j
  · subst hi
    rw [List.getElem?_set_self (by simpa using hl)]
    simp [List.getElem?_mapIdx, hf, fcell]
  · rw [List.getElem?_set_ne (Ne.symm hi)]
    simp only [List.getElem?_mapIdx]
    cases hq : fs[i]? with
    | none => rfl
    | some f => cases f <;> simp [fcell, hi]
/-! THE SURROUNDINGS: String constants, statics, nest links, that hold at every call -/
def kLen : List Nat := [4, 2, 3, 5, 5, 5, 4, 4, 56]
def kTxt : List String := ["from", "to", "cap", "least", "delay", "water", "room", "shut", "from   to     least  cap    delay  water  room   shut   "]
def kByt : List (List Int32) := kTxt.map fun t => t.toList.map fun c => Int32.ofNat c.toNat
def kRef : List (String × Nat × String × Nat) := [("GateFlow$Condition", 116, "from", 0), ("GateFlow$Condition", 118, "to", 1), ("GateFlow$Condition", 120, "cap", 2), ("GateFlow$Condition", 122, "least", 3), ("GateFlow$Condition", 124, "delay", 4), ("GateFlow$Condition", 126, "water", 5), ("GateFlow$Condition", 128, "room", 6), ("GateFlow$Condition", 130, "shut", 7), ("GateFlowModel", 303, "from   to     least  cap    delay  water  room   shut   ", 8)]
def kNest : List (String × Nat × MethodName) := [("GateFlow$ByWays", 107, yX11_hasBit), ("GateFlow$Models", 39, yX11_hasBit), ("GateFlow$Lists", 24, yX11_isList)]
def ENV (lay : List LE) (E : EV) (U : State) (H : Heap) : Prop :=
  vk_S 9 kLen kByt (eS E) (eV E) (wA lay E) U H ∧ (∀ q ∈ kRef, vk_R q.1 q.2.1 q.2.2.1 (eS E q.2.2.2) U) ∧ (∀ q ∈ kNest, va_Nw (.methodLinkNest q.1 q.2.1 q.2.2 "GateFlow") U) ∧
  va_Z "java/lang/String" "COMPACT_STRINGS" "Z" (.int 1) (wA lay E) U H ∧ va_Zq "jdk/internal/util/Preconditions" "SIOOBE_FORMATTER" "Ljava/util/function/BiFunction;" (wA lay E) U H
theorem ENV.warm {lay : List LE} {E : EV} {s U : State} {H : Heap} (hW : s.WarmedH U.vm) (h : ENV lay E s H) : ENV lay E U H :=
  ⟨vk_S.moved hW.alike h.1, fun q hq => vk_R.warm hW (h.2.1 q hq), fun q hq => va_Nw.warmM hW (h.2.2.1 q hq), va_Z.moved hW.alike h.2.2.2.1, va_Zq.moved hW.alike h.2.2.2.2⟩
theorem ENV.kept {lay : List LE} {E : EV} {U : State} {H H1 : Heap} (h : ENV lay E U H) (hq : ∀ a : Nat, a < H.size → ¬ wA lay E a → H1[a]? = H[a]?) : ENV lay E U H1 :=
  ⟨vk_S.kept h.1 hq, h.2.1, h.2.2.1, va_Z.kept h.2.2.2.1 hq, va_Zq.kept h.2.2.2.2 hq⟩
theorem ENV.same {lay : List LE} {E : EV} {u U : State} {H : Heap} (hv : U.vm = u.vm) (h : ENV lay E u H) : ENV lay E U H :=
  ⟨vk_S.moved (by rw [hv]; exact Vm.Alike.refl _) h.1, fun q hq => vk_R.same hv (h.2.1 q hq), fun q hq => va_Nw.same rfl hv.symm (h.2.2.1 q hq), va_Z.moved (by rw [hv]; exact Vm.Alike.refl _) h.2.2.2.1, va_Zq.moved (by rw [hv]; exact Vm.Alike.refl _) h.2.2.2.2⟩
/-! A METHOD'S CONTRACT -/
abbrev MI : Type := ByteArray × String × Nat × Nat × Option FieldType × Nat
def TB : List Cond := lw_tbl.filter goodWord
theorem TB_in {w : Cond} (h : w ∈ lw_tbl) (hg : goodWord w = true) : w ∈ TB := List.mem_filter.mpr ⟨h, hg⟩
theorem TB_good : GoodIn TB TB := fun w h => ⟨h, good_of_word (List.mem_filter.mp h).2⟩
def rvv (E : EV) (K : Nat) (z : Int) : Option Value := match K with
  | 0 => none
  | 1 => some (.int (iz z))
  | 2 => some (.ref (eA E z.toNat))
  | _ => some (.ref (eS E z.toNat))
def rml (n : Nat) : Room := { frames := n, cells := 0, slots := 0, locals := 64 * n }
def PU (lay : List LE) (E : EV) (σ : PS) (U : State) : Prop := va_P (eG E) vwCl (wld lay E σ) U.heap ∧ va_K (eG E) vwCl (tyE E) U ∧ ENV lay E U U.heap
def QF (lay : List LE) (E : EV) (K : Nat) (Φ : Int → PS → Prop) : Array Value → State → Outcome → State → Prop := fun _ st o t =>
  ∃ (z : Int) (σ : PS), o = .returned (rvv E K z) ∧ va_P (eG E) vwCl (wld lay E σ) t.heap ∧ RS σ ∧ Rg z ∧ Φ z σ ∧ va_F (wA lay E) st t
/-- y, of the code told, met with Φ from σ, at these arguments -/
def CT (lay : List LE) (E : EV) (y : MethodName) (M : MI) (av : List Value) (σ : PS) (Φ : Int → PS → Prop) : Prop :=
  Met (eL E) y (.code y M.1 M.2.2.1 M.2.2.2.2.1 :: TB) (rml M.2.2.2.1) (va_Pc av (PU lay E σ)) (QF lay E M.2.2.2.2.2 Φ) 0 0 (wA lay E)
/-! THE RUNNING METHOD -/
abbrev CX : Type := Program × Env × Room × State × MethodId × Array Value × List Frame × Method × Code
def LH (ls : Array Slot) (n : Nat) (lv : List (Option Value)) : Prop := ls.size = n ∧ lv_wf ls ∧ lv.length = n ∧ ∀ (i : Nat) (v : Value), lv[i]? = some (some v) → ls[i]? = some (.val v) ∧ v.category = 1
def COK (lay : List LE) (E : EV) (M : MI) : CX → Prop := fun (p, e, R, s, m, args, below, meth, c) =>
  p.tables.exec = Jvm.exec ∧ c.code = M.1 ∧ c.maxLocals = M.2.2.1 ∧ s.vm.findClass M.2.1 = some m.cls ∧ (∀ w ∈ TB, w.before args s = true) ∧ va_K (eG E) vwCl (tyE E) s ∧ eOK lay E ∧ ENV lay E s s.heap ∧ meth.locks = false ∧ meth.sig.returnType = M.2.2.2.2.1 ∧ M.2.2.2.1 ≤ R.frames ∧ 64 * M.2.2.2.1 ≤ R.locals
def RW (lay : List LE) (E : EV) (M : MI) (Φ : Int → PS → Prop) (pc : Nat) (lv : List (Option Value)) (st : List Value) (σ : PS) : CX → Prop := fun (p, e, R, s, m, args, below, meth, c) =>
  COK lay E M (p, e, R, s, m, args, below, meth, c) → RS σ → ∀ (H : Heap) (locs : List Loc) (ls : Array Slot), va_P (eG E) vwCl (wld lay E σ) H → va_S (wA lay E) s.heap H locs → LH ls M.2.2.1 lv →
    W p (eL E) e R s m args below meth c H locs 0 0 (MQ below (QF lay E M.2.2.2.2.2 Φ) args s 0 0 (wA lay E)) (F0 m pc ls st)
theorem LH.get {ls : Array Slot} {n : Nat} {lv : List (Option Value)} (h : LH ls n lv) {i : Nat} {v : Value} (hi : lv[i]? = some (some v)) : ls[i]? = some (.val v) := (h.2.2.2 i v hi).1
def lvL (lv : List (Option Value)) : List (Nat × Value) := (List.range lv.length).filterMap fun j => (lv[j]?.join).map fun w => (j, w)
theorem lvL_mem {lv : List (Option Value)} {q : Nat × Value} (h : q ∈ lvL lv) : lv[q.1]? = some (some q.2) := by
  obtain ⟨j, hj, hq⟩ := List.mem_filterMap.mp h
  cases hh : lv[j]? with
  | none => simp [hh] at hq
  | some o =>
    cases o with
    | none => simp [hh] at hq
    | some w =>
      simp [hh] at hq
      subst hq
      exact hh
theorem lvL_in {lv : List (Option Value)} {j : Nat} {w : Value} (h : lv[j]? = some (some w)) : (j, w) ∈ lvL lv := by
  refine List.mem_filterMap.mpr ⟨j, List.mem_range.mpr (List.getElem?_eq_some_iff.mp h).1, ?_⟩
  simp [h]
theorem LH.has {ls : Array Slot} {n : Nat} {lv : List (Option Value)} (h : LH ls n lv) : lv_has ls n (lvL lv) := ⟨h.1, h.2.1, fun q hq => h.get (lvL_mem hq)⟩
theorem LH.set {ls ls' : Array Slot} {n i : Nat} {v : Value} {lv : List (Option Value)} (h : LH ls n lv) (hv : v.category = 1) (hi : i < lv.length) (h' : lv_has ls' n ((i, v) :: (lvL lv).filter (fun q => !(q.1 == i) && !(q.1 + 1 == i && q.2.category == 2)))) : LH ls' n (lv.set i (some v)) := by
  refine ⟨h'.1, h'.2.1, by rw [List.length_set]; exact h.2.2.1, fun j w hj => ?_⟩
  by_cases e : j = i
  · subst e
    rw [List.getElem?_set_self hi] at hj
    have e2 : v = w := Option.some.inj (Option.some.inj hj)
    subst e2
    exact ⟨h'.2.2 (j, v) List.mem_cons_self, hv⟩
  · rw [List.getElem?_set_ne (Ne.symm e)] at hj
    have h1 := h.2.2.2 j w hj
    refine ⟨h'.2.2 (j, w) (List.mem_cons_of_mem _ (List.mem_filter.mpr ⟨lvL_in hj, ?_⟩)), h1.2⟩
    simp [e, h1.2]
/-- fewer locals -/
def subL : List (Option Value) → List (Option Value) → Prop
  | [], [] => True
  | _ :: l, none :: l' => subL l l'
  | o :: l, some v :: l' => o = some v ∧ subL l l'
  | _, _ => False
theorem subL_n {o : Option Value} {l l' : List (Option Value)} (h : subL l l') : subL (o :: l) (none :: l') := by cases o <;> exact h
theorem subL_s {v : Value} {l l' : List (Option Value)} (h : subL l l') : subL (some v :: l) (some v :: l') := ⟨rfl, h⟩
theorem subL_e : subL [] [] := trivial
theorem subL.at {l l' : List (Option Value)} (h : subL l l') : l.length = l'.length ∧ ∀ (i : Nat) (v : Value), l'[i]? = some (some v) → l[i]? = some (some v) := by
  induction l generalizing l' with
  | nil =>
    cases l' with
    | nil => exact ⟨rfl, fun i v h => by simp at h⟩
    | cons a l' => cases a <;> exact h.elim
  | cons o l ih =>
    cases l' with
    | nil => exact h.elim
    | cons a l' =>
      cases a with
      | none =>
        have h : subL l l' := by cases o <;> exact h
        obtain ⟨h1, h2⟩ := ih h
        refine ⟨by simp [h1], fun i v hi => ?_⟩
        cases i with
        | zero => simp at hi
        | succ i => simpa using h2 i v (by simpa using hi)
      | some w =>
        have h : o = some w ∧ subL l l' := by cases o <;> exact h
        obtain ⟨rfl, h3⟩ := h
        obtain ⟨h1, h2⟩ := ih h3
        refine ⟨by simp [h1], fun i v hi => ?_⟩
        cases i with
        | zero => simpa using hi
        | succ i => simpa using h2 i v (by simpa using hi)
end
section
section Rows
variable {lay : List LE} {E : EV} {M : MI} {Φ : Int → PS → Prop} {pc : Nat} {lv lv' : List (Option Value)} {st : List Value} {σ : PS} {x : CX}
theorem r_rs (k : RS σ → RW lay E M Φ pc lv st σ x) : RW lay E M Φ pc lv st σ x := by
  obtain ⟨p, e, R, s, m, args, below, meth, c⟩ := x
  intro ok hσ
  exact k hσ ok hσ
theorem r_eq {a b : Int} (h : a = b) (k : RW lay E M Φ pc lv (.int (iz b) :: st) σ x) : RW lay E M Φ pc lv (.int (iz a) :: st) σ x := h ▸ k
theorem r_sub (h : subL lv lv') (k : RW lay E M Φ pc lv' st σ x) : RW lay E M Φ pc lv st σ x := by
  obtain ⟨p, e, R, s, m, args, below, meth, c⟩ := x
  obtain ⟨h1, h2⟩ := h.at
  intro ok hσ H locs ls hP hS hl
  exact k ok hσ H locs ls hP hS ⟨hl.1, hl.2.1, h1.symm.trans hl.2.2.1, fun i v hi => hl.2.2.2 i v (h2 i v hi)⟩
theorem r_iconst {n : Int} (d : decode M.1 pc = .ok (.iconst n, 1)) (k : RW lay E M Φ (pc + 1) lv (.int (iz n) :: st) σ x) : RW lay E M Φ pc lv st σ x := by
  obtain ⟨p, e, R, s, m, args, below, meth, c⟩ := x
  intro ok hσ H locs ls hP hS hl
  obtain ⟨hx, hb, -⟩ := id ok
  exact lv_iconst hx hb d rfl (k ok hσ H locs ls hP hS hl)
theorem r_bipush {n : Int} (d : decode M.1 pc = .ok (.bipush n, 2)) (hn : (Int8.ofInt n).toInt32 = iz n) (k : RW lay E M Φ (pc + 2) lv (.int (iz n) :: st) σ x) : RW lay E M Φ pc lv st σ x := by
  obtain ⟨p, e, R, s, m, args, below, meth, c⟩ := x
  intro ok hσ H locs ls hP hS hl
  obtain ⟨hx, hb, -⟩ := id ok
  exact lv_bipush hx hb d hn (k ok hσ H locs ls hP hS hl)
theorem r_sipush {n : Int} (d : decode M.1 pc = .ok (.sipush n, 3)) (hn : (Int16.ofInt n).toInt32 = iz n) (k : RW lay E M Φ (pc + 3) lv (.int (iz n) :: st) σ x) : RW lay E M Φ pc lv st σ x := by
  obtain ⟨p, e, R, s, m, args, below, meth, c⟩ := x
  intro ok hσ H locs ls hP hS hl
  obtain ⟨hx, hb, -⟩ := id ok
  exact lv_sipush hx hb d hn (k ok hσ H locs ls hP hS hl)
theorem r_ldc {i : Nat} {n : Int} (d : decode M.1 pc = .ok (.ldc i, 2)) (hw : Cond.constant M.2.1 i (iz n) ∈ TB) (k : RW lay E M Φ (pc + 2) lv (.int (iz n) :: st) σ x) : RW lay E M Φ pc lv st σ x := by
  obtain ⟨p, e, R, s, m, args, below, meth, c⟩ := x
  intro ok hσ H locs ls hP hS hl
  obtain ⟨hx, hb, -, hown, hts, -⟩ := id ok
  exact lv_ldc hx hb hown (hts _ hw) d (k ok hσ H locs ls hP hS hl)
theorem r_ldcw {i : Nat} {n : Int} (d : decode M.1 pc = .ok (.ldc_w i, 3)) (hw : Cond.constant M.2.1 i (iz n) ∈ TB) (k : RW lay E M Φ (pc + 3) lv (.int (iz n) :: st) σ x) : RW lay E M Φ pc lv st σ x := by
  obtain ⟨p, e, R, s, m, args, below, meth, c⟩ := x
  intro ok hσ H locs ls hP hS hl
  obtain ⟨hx, hb, -, hown, hts, -⟩ := id ok
  exact lv_ldcw hx hb hown (hts _ hw) d (k ok hσ H locs ls hP hS hl)
theorem r_ldcS {i q : Nat} {tx : String} (d : decode M.1 pc = .ok (.ldc i, 2)) (hw : (M.2.1, i, tx, q) ∈ kRef) (k : RW lay E M Φ (pc + 2) lv (.ref (eS E q) :: st) σ x) : RW lay E M Φ pc lv st σ x := by
  obtain ⟨p, e, R, s, m, args, below, meth, c⟩ := x
  intro ok hσ H locs ls hP hS hl
  obtain ⟨hx, hb, -, hown, -, -, -, hE, -⟩ := id ok
  exact va_ldcS hx hb hown (hE.2.1 _ hw) d (k ok hσ H locs ls hP hS hl)
theorem r_iloadn {k4 : Fin 4} {i : Nat} {a : Int} (d : decode M.1 pc = .ok (.iload_n k4, 1)) (hi : (k4 : Nat) = i) (hl0 : lv[i]? = some (some (.int (iz a)))) (k : RW lay E M Φ (pc + 1) lv (.int (iz a) :: st) σ x) : RW lay E M Φ pc lv st σ x := by
  obtain ⟨p, e, R, s, m, args, below, meth, c⟩ := x
  intro ok hσ H locs ls hP hS hl
  obtain ⟨hx, hb, -⟩ := id ok
  exact lv_iload_n hx hb d hi (hl.get hl0) (k ok hσ H locs ls hP hS hl)
theorem r_iload {i : Nat} {a : Int} (d : decode M.1 pc = .ok (.iload i, 2)) (hl0 : lv[i]? = some (some (.int (iz a)))) (k : RW lay E M Φ (pc + 2) lv (.int (iz a) :: st) σ x) : RW lay E M Φ pc lv st σ x := by
  obtain ⟨p, e, R, s, m, args, below, meth, c⟩ := x
  intro ok hσ H locs ls hP hS hl
  obtain ⟨hx, hb, -⟩ := id ok
  exact lv_iload hx hb d (hl.get hl0) (k ok hσ H locs ls hP hS hl)
theorem r_aloadn {k4 : Fin 4} {i q : Nat} (d : decode M.1 pc = .ok (.aload_n k4, 1)) (hi : (k4 : Nat) = i) (hl0 : lv[i]? = some (some (.ref q))) (k : RW lay E M Φ (pc + 1) lv (.ref q :: st) σ x) : RW lay E M Φ pc lv st σ x := by
  obtain ⟨p, e, R, s, m, args, below, meth, c⟩ := x
  intro ok hσ H locs ls hP hS hl
  obtain ⟨hx, hb, -⟩ := id ok
  exact lv_aload_n hx hb d hi (hl.get hl0) (k ok hσ H locs ls hP hS hl)
theorem r_aload {i q : Nat} (d : decode M.1 pc = .ok (.aload i, 2)) (hl0 : lv[i]? = some (some (.ref q))) (k : RW lay E M Φ (pc + 2) lv (.ref q :: st) σ x) : RW lay E M Φ pc lv st σ x := by
  obtain ⟨p, e, R, s, m, args, below, meth, c⟩ := x
  intro ok hσ H locs ls hP hS hl
  obtain ⟨hx, hb, -⟩ := id ok
  exact lv_aload hx hb d (hl.get hl0) (k ok hσ H locs ls hP hS hl)
theorem LH.lt {ls : Array Slot} {n i : Nat} (h : LH ls n lv) (hi : Nat.ble (i + 1) lv.length = true) : i < n ∧ i < lv.length := by
  have h1 := Nat.le_of_ble_eq_true hi
  have h2 := h.2.2.1
  omega
theorem r_istoren {k4 : Fin 4} {i : Nat} {a : Int} (d : decode M.1 pc = .ok (.istore_n k4, 1)) (hi : (k4 : Nat) = i) (hn : Nat.ble (i + 1) lv.length = true) (hv : lv.set i (some (.int (iz a))) = lv') (k : RW lay E M Φ (pc + 1) lv' st σ x) : RW lay E M Φ pc lv (.int (iz a) :: st) σ x := by
  obtain ⟨p, e, R, s, m, args, below, meth, c⟩ := x
  intro ok hσ H locs ls hP hS hl
  obtain ⟨hx, hb, -⟩ := id ok
  obtain ⟨h1, h2⟩ := hl.lt hn
  exact lv_istore_n hx hb d hi hl.has h1 rfl (fun ls' h' => k ok hσ H locs ls' hP hS (hv ▸ hl.set rfl h2 h'))
theorem r_istore {i : Nat} {a : Int} (d : decode M.1 pc = .ok (.istore i, 2)) (hn : Nat.ble (i + 1) lv.length = true) (hv : lv.set i (some (.int (iz a))) = lv') (k : RW lay E M Φ (pc + 2) lv' st σ x) : RW lay E M Φ pc lv (.int (iz a) :: st) σ x := by
  obtain ⟨p, e, R, s, m, args, below, meth, c⟩ := x
  intro ok hσ H locs ls hP hS hl
  obtain ⟨hx, hb, -⟩ := id ok
  obtain ⟨h1, h2⟩ := hl.lt hn
  exact lv_istore hx hb d hl.has h1 rfl (fun ls' h' => k ok hσ H locs ls' hP hS (hv ▸ hl.set rfl h2 h'))
theorem r_astoren {k4 : Fin 4} {i q : Nat} (d : decode M.1 pc = .ok (.astore_n k4, 1)) (hi : (k4 : Nat) = i) (hn : Nat.ble (i + 1) lv.length = true) (hv : lv.set i (some (.ref q)) = lv') (k : RW lay E M Φ (pc + 1) lv' st σ x) : RW lay E M Φ pc lv (.ref q :: st) σ x := by
  obtain ⟨p, e, R, s, m, args, below, meth, c⟩ := x
  intro ok hσ H locs ls hP hS hl
  obtain ⟨hx, hb, -⟩ := id ok
  obtain ⟨h1, h2⟩ := hl.lt hn
  exact lv_astore_n hx hb d hi hl.has h1 rfl (fun ls' h' => k ok hσ H locs ls' hP hS (hv ▸ hl.set rfl h2 h'))
theorem r_astore {i q : Nat} (d : decode M.1 pc = .ok (.astore i, 2)) (hn : Nat.ble (i + 1) lv.length = true) (hv : lv.set i (some (.ref q)) = lv') (k : RW lay E M Φ (pc + 2) lv' st σ x) : RW lay E M Φ pc lv (.ref q :: st) σ x := by
  obtain ⟨p, e, R, s, m, args, below, meth, c⟩ := x
  intro ok hσ H locs ls hP hS hl
  obtain ⟨hx, hb, -⟩ := id ok
  obtain ⟨h1, h2⟩ := hl.lt hn
  exact lv_astore hx hb d hl.has h1 rfl (fun ls' h' => k ok hσ H locs ls' hP hS (hv ▸ hl.set rfl h2 h'))
theorem r_iinc {i : Nat} {n a : Int} (d : decode M.1 pc = .ok (.iinc i n, 3)) (hl0 : lv[i]? = some (some (.int (iz a)))) (hn : Nat.ble (i + 1) lv.length = true) (hv : lv.set i (some (.int (iz (a + n)))) = lv') (k : RW lay E M Φ (pc + 3) lv' st σ x) : RW lay E M Φ pc lv st σ x := by
  obtain ⟨p, e, R, s, m, args, below, meth, c⟩ := x
  intro ok hσ H locs ls hP hS hl
  obtain ⟨hx, hb, -⟩ := id ok
  obtain ⟨h1, h2⟩ := hl.lt hn
  obtain ⟨j, hj⟩ := List.getElem?_of_mem (lvL_in hl0)
  exact lv_iinc hx hb d hl.has hj (iz_add a n) h1 rfl (fun ls' h' => k ok hσ H locs ls' hP hS (hv ▸ hl.set rfl h2 h'))
theorem r_iadd {a b : Int} (d : decode M.1 pc = .ok (.iadd, 1)) (k : RW lay E M Φ (pc + 1) lv (.int (iz (a + b)) :: st) σ x) : RW lay E M Φ pc lv (.int (iz b) :: .int (iz a) :: st) σ x := by
  obtain ⟨p, e, R, s, m, args, below, meth, c⟩ := x
  intro ok hσ H locs ls hP hS hl
  obtain ⟨hx, hb, -⟩ := id ok
  refine lv_iadd hx hb d ?_
  rw [iz_add]
  exact k ok hσ H locs ls hP hS hl
theorem r_isub {a b : Int} (d : decode M.1 pc = .ok (.isub, 1)) (k : RW lay E M Φ (pc + 1) lv (.int (iz (a - b)) :: st) σ x) : RW lay E M Φ pc lv (.int (iz b) :: .int (iz a) :: st) σ x := by
  obtain ⟨p, e, R, s, m, args, below, meth, c⟩ := x
  intro ok hσ H locs ls hP hS hl
  obtain ⟨hx, hb, -⟩ := id ok
  refine lv_isub hx hb d ?_
  rw [iz_sub]
  exact k ok hσ H locs ls hP hS hl
theorem r_imul {a b : Int} (d : decode M.1 pc = .ok (.imul, 1)) (k : RW lay E M Φ (pc + 1) lv (.int (iz (a * b)) :: st) σ x) : RW lay E M Φ pc lv (.int (iz b) :: .int (iz a) :: st) σ x := by
  obtain ⟨p, e, R, s, m, args, below, meth, c⟩ := x
  intro ok hσ H locs ls hP hS hl
  obtain ⟨hx, hb, -⟩ := id ok
  refine lv_imul hx hb d ?_
  rw [iz_mul]
  exact k ok hσ H locs ls hP hS hl
theorem r_ineg {a : Int} (d : decode M.1 pc = .ok (.ineg, 1)) (k : RW lay E M Φ (pc + 1) lv (.int (iz (-a)) :: st) σ x) : RW lay E M Φ pc lv (.int (iz a) :: st) σ x := by
  obtain ⟨p, e, R, s, m, args, below, meth, c⟩ := x
  intro ok hσ H locs ls hP hS hl
  obtain ⟨hx, hb, -⟩ := id ok
  have k' := k ok hσ H locs ls hP hS hl
  rw [← iz_neg] at k'
  refine lv_ineg hx hb d ?_
  first
    | exact k'
    | (rw [Int32.zero_sub]; exact k')
theorem r_iand {a b : Int} (d : decode M.1 pc = .ok (.iand, 1)) (k : RW lay E M Φ (pc + 1) lv (.int (iz (iand a b)) :: st) σ x) : RW lay E M Φ pc lv (.int (iz b) :: .int (iz a) :: st) σ x := by
  obtain ⟨p, e, R, s, m, args, below, meth, c⟩ := x
  intro ok hσ H locs ls hP hS hl
  obtain ⟨hx, hb, -⟩ := id ok
  have k' := k ok hσ H locs ls hP hS hl
  rw [iand, iz_of] at k'
  exact lv_iand hx hb d k'
theorem r_ior {a b : Int} (d : decode M.1 pc = .ok (.ior, 1)) (k : RW lay E M Φ (pc + 1) lv (.int (iz (ior a b)) :: st) σ x) : RW lay E M Φ pc lv (.int (iz b) :: .int (iz a) :: st) σ x := by
  obtain ⟨p, e, R, s, m, args, below, meth, c⟩ := x
  intro ok hσ H locs ls hP hS hl
  obtain ⟨hx, hb, -⟩ := id ok
  have k' := k ok hσ H locs ls hP hS hl
  rw [ior, iz_of] at k'
  exact lv_ior hx hb d k'
theorem r_ixor {a b : Int} (d : decode M.1 pc = .ok (.ixor, 1)) (k : RW lay E M Φ (pc + 1) lv (.int (iz (ixor a b)) :: st) σ x) : RW lay E M Φ pc lv (.int (iz b) :: .int (iz a) :: st) σ x := by
  obtain ⟨p, e, R, s, m, args, below, meth, c⟩ := x
  intro ok hσ H locs ls hP hS hl
  obtain ⟨hx, hb, -⟩ := id ok
  have k' := k ok hσ H locs ls hP hS hl
  rw [ixor, iz_of] at k'
  exact lv_ixor hx hb d k'
theorem r_ishl {a b : Int} (d : decode M.1 pc = .ok (.ishl, 1)) (k : RW lay E M Φ (pc + 1) lv (.int (iz (ishl a b)) :: st) σ x) : RW lay E M Φ pc lv (.int (iz b) :: .int (iz a) :: st) σ x := by
  obtain ⟨p, e, R, s, m, args, below, meth, c⟩ := x
  intro ok hσ H locs ls hP hS hl
  obtain ⟨hx, hb, -⟩ := id ok
  have k' := k ok hσ H locs ls hP hS hl
  rw [ishl, iz_of] at k'
  exact lv_ishl hx hb d k'
theorem r_ishr {a b : Int} (d : decode M.1 pc = .ok (.ishr, 1)) (k : RW lay E M Φ (pc + 1) lv (.int (iz (ishr a b)) :: st) σ x) : RW lay E M Φ pc lv (.int (iz b) :: .int (iz a) :: st) σ x := by
  obtain ⟨p, e, R, s, m, args, below, meth, c⟩ := x
  intro ok hσ H locs ls hP hS hl
  obtain ⟨hx, hb, -⟩ := id ok
  have k' := k ok hσ H locs ls hP hS hl
  rw [ishr, iz_of] at k'
  exact lv_ishr hx hb d k'
theorem r_iushr {a b : Int} (d : decode M.1 pc = .ok (.iushr, 1)) (k : RW lay E M Φ (pc + 1) lv (.int (iz (iushr a b)) :: st) σ x) : RW lay E M Φ pc lv (.int (iz b) :: .int (iz a) :: st) σ x := by
  obtain ⟨p, e, R, s, m, args, below, meth, c⟩ := x
  intro ok hσ H locs ls hP hS hl
  obtain ⟨hx, hb, -⟩ := id ok
  have k' := k ok hσ H locs ls hP hS hl
  rw [iushr, iz_of] at k'
  exact lv_iushr hx hb d rfl k'
theorem r_wrap {a : Int} (k : RW lay E M Φ pc lv (.int (iz (iwrap a)) :: st) σ x) : RW lay E M Φ pc lv (.int (iz a) :: st) σ x := by
  have e : iz (iwrap a) = iz a := iz_of _
  rw [e] at k
  exact k
theorem iz_div {a b : Int} (ha : Rg a) (hb : Rg b) (h0 : 0 ≤ a) (h1 : 0 < b) : iz a / iz b = iz (a / b) := by
  have q0 : 0 ≤ a / b := Int.ediv_nonneg h0 (by omega)
  have q1 : a / b ≤ a := Int.ediv_le_self b h0
  apply Int32.toInt_inj.mp
  rw [Int32.toInt_div, iz_toInt ha, iz_toInt hb, iz_toInt ⟨by omega, by omega⟩, Int.tdiv_eq_ediv_of_nonneg h0, Int.bmod_eq_of_le (by omega) (by omega)]
theorem r_idiv {a b : Int} (d : decode M.1 pc = .ok (.idiv, 1)) (ha : Rg a) (hb : Rg b) (h0 : 0 ≤ a) (h1 : 0 < b) (k : RW lay E M Φ (pc + 1) lv (.int (iz (a / b)) :: st) σ x) : RW lay E M Φ pc lv (.int (iz b) :: .int (iz a) :: st) σ x := by
  obtain ⟨p, e, R, s, m, args, below, meth, c⟩ := x
  intro ok hσ H locs ls hP hS hl
  obtain ⟨hx, hb', -⟩ := id ok
  refine lv_idiv hx hb' d (fun h => ?_) ?_
  · rw [← iz_0] at h
    have := (iz_eq hb ⟨by omega, by omega⟩).mp h
    omega
  · rw [iz_div ha hb h0 h1]
    exact k ok hσ H locs ls hP hS hl
theorem r_irem {a b : Int} (d : decode M.1 pc = .ok (.irem, 1)) (ha : Rg a) (hb : Rg b) (h0 : 0 ≤ a) (h1 : 0 < b) (k : RW lay E M Φ (pc + 1) lv (.int (iz (a % b)) :: st) σ x) : RW lay E M Φ pc lv (.int (iz b) :: .int (iz a) :: st) σ x := by
  obtain ⟨p, e, R, s, m, args, below, meth, c⟩ := x
  intro ok hσ H locs ls hP hS hl
  obtain ⟨hx, hb', -⟩ := id ok
  refine lv_irem hx hb' d (fun h => ?_) ?_
  · rw [← iz_0] at h
    have := (iz_eq hb ⟨by omega, by omega⟩).mp h
    omega
  · have e : iz a - iz a / iz b * iz b = iz (a % b) := by
      rw [iz_div ha hb h0 h1, iz_mul, iz_sub, Int.emod_def, Int.mul_comm]
    rw [e]
    exact k ok hσ H locs ls hP hS hl
theorem iz_i2b {a : Int} (h : -128 ≤ a ∧ a ≤ 127) : (iz a).toInt8.toInt32 = iz a := by
  have hr : Rg a := ⟨by omega, by omega⟩
  apply Int32.toInt_inj.1
  rw [Int8.toInt_toInt32, Int32.toInt_toInt8, iz_toInt hr, Int.bmod_eq_of_le (by omega) (by omega)]
theorem r_i2b {a : Int} (d : decode M.1 pc = .ok (.i2b, 1)) (h : -128 ≤ a ∧ a ≤ 127) (k : RW lay E M Φ (pc + 1) lv (.int (iz a) :: st) σ x) : RW lay E M Φ pc lv (.int (iz a) :: st) σ x := by
  obtain ⟨p, e, R, s, m, args, below, meth, c⟩ := x
  intro ok hσ H locs ls hP hS hl
  obtain ⟨hx, hb, -⟩ := id ok
  exact lv_i2b hx hb d (iz_i2b h) (k ok hσ H locs ls hP hS hl)
theorem r_dup {v : Value} (d : decode M.1 pc = .ok (.dup, 1)) (hv : v.category = 1) (k : RW lay E M Φ (pc + 1) lv (v :: v :: st) σ x) : RW lay E M Φ pc lv (v :: st) σ x := by
  obtain ⟨p, e, R, s, m, args, below, meth, c⟩ := x
  intro ok hσ H locs ls hP hS hl
  obtain ⟨hx, hb, -⟩ := id ok
  exact lv_dup hx hb d hv (k ok hσ H locs ls hP hS hl)
theorem r_dup2 {v w : Value} (d : decode M.1 pc = .ok (.dup2, 1)) (hv : v.category = 1) (hw : w.category = 1) (k : RW lay E M Φ (pc + 1) lv (v :: w :: v :: w :: st) σ x) : RW lay E M Φ pc lv (v :: w :: st) σ x := by
  obtain ⟨p, e, R, s, m, args, below, meth, c⟩ := x
  intro ok hσ H locs ls hP hS hl
  obtain ⟨hx, hb, -⟩ := id ok
  exact lv_dup2_11 hx hb d hv hw (k ok hσ H locs ls hP hS hl)
theorem r_pop {v : Value} (d : decode M.1 pc = .ok (.pop, 1)) (hv : v.category = 1) (k : RW lay E M Φ (pc + 1) lv st σ x) : RW lay E M Φ pc lv (v :: st) σ x := by
  obtain ⟨p, e, R, s, m, args, below, meth, c⟩ := x
  intro ok hσ H locs ls hP hS hl
  obtain ⟨hx, hb, -⟩ := id ok
  exact lv_pop hx hb d hv (k ok hσ H locs ls hP hS hl)
theorem r_goto {off : Int} {tgt : Nat} (d : decode M.1 pc = .ok (.goto off, 3)) (ht : (pc : Int) + off = (tgt : Int)) (k : RW lay E M Φ tgt lv st σ x) : RW lay E M Φ pc lv st σ x := by
  obtain ⟨p, e, R, s, m, args, below, meth, c⟩ := x
  intro ok hσ H locs ls hP hS hl
  obtain ⟨hx, hb, -⟩ := id ok
  exact lv_goto hx hb d ht (k ok hσ H locs ls hP hS hl)
theorem Rg_0 : Rg 0 := ⟨by decide, by decide⟩
theorem r_if_eq {a : Int} {off : Int} {tgt : Nat} (d : decode M.1 pc = .ok (.ifCond .eq off, 3)) (ht : (pc : Int) + off = (tgt : Int)) (ha : Rg a) (kt : a = 0 → RW lay E M Φ tgt lv st σ x) (kf : ¬ a = 0 → RW lay E M Φ (pc + 3) lv st σ x) : RW lay E M Φ pc lv (.int (iz a) :: st) σ x := by
  obtain ⟨p, e, R, s, m, args, below, meth, c⟩ := x
  intro ok hσ H locs ls hP hS hl
  obtain ⟨hx, hb, -⟩ := id ok
  have q := iz_eq ha Rg_0
  rw [iz_0] at q
  exact lv_if_eq hx hb d ht (fun h => kt (q.mp h) ok hσ H locs ls hP hS hl) (fun h => kf (fun z => h (q.mpr z)) ok hσ H locs ls hP hS hl)
theorem r_icmp_eq {a b : Int} {off : Int} {tgt : Nat} (d : decode M.1 pc = .ok (.if_icmp .eq off, 3)) (ht : (pc : Int) + off = (tgt : Int)) (ha : Rg a) (hb0 : Rg b) (kt : a = b → RW lay E M Φ tgt lv st σ x) (kf : ¬ a = b → RW lay E M Φ (pc + 3) lv st σ x) : RW lay E M Φ pc lv (.int (iz b) :: .int (iz a) :: st) σ x := by
  obtain ⟨p, e, R, s, m, args, below, meth, c⟩ := x
  intro ok hσ H locs ls hP hS hl
  obtain ⟨hx, hb, -⟩ := id ok
  have q := iz_eq ha hb0
  exact lv_icmp_eq hx hb d ht (fun h => kt (q.mp h) ok hσ H locs ls hP hS hl) (fun h => kf (fun z => h (q.mpr z)) ok hσ H locs ls hP hS hl)
theorem r_if_ne {a : Int} {off : Int} {tgt : Nat} (d : decode M.1 pc = .ok (.ifCond .ne off, 3)) (ht : (pc : Int) + off = (tgt : Int)) (ha : Rg a) (kt : ¬ a = 0 → RW lay E M Φ tgt lv st σ x) (kf : a = 0 → RW lay E M Φ (pc + 3) lv st σ x) : RW lay E M Φ pc lv (.int (iz a) :: st) σ x := by
  obtain ⟨p, e, R, s, m, args, below, meth, c⟩ := x
  intro ok hσ H locs ls hP hS hl
  obtain ⟨hx, hb, -⟩ := id ok
  have q := iz_eq ha Rg_0
  rw [iz_0] at q
  exact lv_if_ne hx hb d ht (fun h => kt (fun z => h (q.mpr z)) ok hσ H locs ls hP hS hl) (fun h => kf (q.mp h) ok hσ H locs ls hP hS hl)
theorem r_icmp_ne {a b : Int} {off : Int} {tgt : Nat} (d : decode M.1 pc = .ok (.if_icmp .ne off, 3)) (ht : (pc : Int) + off = (tgt : Int)) (ha : Rg a) (hb0 : Rg b) (kt : ¬ a = b → RW lay E M Φ tgt lv st σ x) (kf : a = b → RW lay E M Φ (pc + 3) lv st σ x) : RW lay E M Φ pc lv (.int (iz b) :: .int (iz a) :: st) σ x := by
  obtain ⟨p, e, R, s, m, args, below, meth, c⟩ := x
  intro ok hσ H locs ls hP hS hl
  obtain ⟨hx, hb, -⟩ := id ok
  have q := iz_eq ha hb0
  exact lv_icmp_ne hx hb d ht (fun h => kt (fun z => h (q.mpr z)) ok hσ H locs ls hP hS hl) (fun h => kf (q.mp h) ok hσ H locs ls hP hS hl)
theorem r_if_lt {a : Int} {off : Int} {tgt : Nat} (d : decode M.1 pc = .ok (.ifCond .lt off, 3)) (ht : (pc : Int) + off = (tgt : Int)) (ha : Rg a) (kt : a < 0 → RW lay E M Φ tgt lv st σ x) (kf : ¬ a < 0 → RW lay E M Φ (pc + 3) lv st σ x) : RW lay E M Φ pc lv (.int (iz a) :: st) σ x := by
  obtain ⟨p, e, R, s, m, args, below, meth, c⟩ := x
  intro ok hσ H locs ls hP hS hl
  obtain ⟨hx, hb, -⟩ := id ok
  have q := iz_lt ha Rg_0
  rw [iz_0] at q
  exact lv_if_lt hx hb d ht (fun h => kt (q.mp h) ok hσ H locs ls hP hS hl) (fun h => kf (fun z => h (q.mpr z)) ok hσ H locs ls hP hS hl)
theorem r_icmp_lt {a b : Int} {off : Int} {tgt : Nat} (d : decode M.1 pc = .ok (.if_icmp .lt off, 3)) (ht : (pc : Int) + off = (tgt : Int)) (ha : Rg a) (hb0 : Rg b) (kt : a < b → RW lay E M Φ tgt lv st σ x) (kf : ¬ a < b → RW lay E M Φ (pc + 3) lv st σ x) : RW lay E M Φ pc lv (.int (iz b) :: .int (iz a) :: st) σ x := by
  obtain ⟨p, e, R, s, m, args, below, meth, c⟩ := x
  intro ok hσ H locs ls hP hS hl
  obtain ⟨hx, hb, -⟩ := id ok
  have q := iz_lt ha hb0
  exact lv_icmp_lt hx hb d ht (fun h => kt (q.mp h) ok hσ H locs ls hP hS hl) (fun h => kf (fun z => h (q.mpr z)) ok hσ H locs ls hP hS hl)
theorem r_if_ge {a : Int} {off : Int} {tgt : Nat} (d : decode M.1 pc = .ok (.ifCond .ge off, 3)) (ht : (pc : Int) + off = (tgt : Int)) (ha : Rg a) (kt : 0 ≤ a → RW lay E M Φ tgt lv st σ x) (kf : ¬ 0 ≤ a → RW lay E M Φ (pc + 3) lv st σ x) : RW lay E M Φ pc lv (.int (iz a) :: st) σ x := by
  obtain ⟨p, e, R, s, m, args, below, meth, c⟩ := x
  intro ok hσ H locs ls hP hS hl
  obtain ⟨hx, hb, -⟩ := id ok
  have q := iz_le Rg_0 ha
  rw [iz_0] at q
  exact lv_if_ge hx hb d ht (fun h => kt (q.mp h) ok hσ H locs ls hP hS hl) (fun h => kf (fun z => h (q.mpr z)) ok hσ H locs ls hP hS hl)
theorem r_icmp_ge {a b : Int} {off : Int} {tgt : Nat} (d : decode M.1 pc = .ok (.if_icmp .ge off, 3)) (ht : (pc : Int) + off = (tgt : Int)) (ha : Rg a) (hb0 : Rg b) (kt : b ≤ a → RW lay E M Φ tgt lv st σ x) (kf : ¬ b ≤ a → RW lay E M Φ (pc + 3) lv st σ x) : RW lay E M Φ pc lv (.int (iz b) :: .int (iz a) :: st) σ x := by
  obtain ⟨p, e, R, s, m, args, below, meth, c⟩ := x
  intro ok hσ H locs ls hP hS hl
  obtain ⟨hx, hb, -⟩ := id ok
  have q := iz_le hb0 ha
  exact lv_icmp_ge hx hb d ht (fun h => kt (q.mp h) ok hσ H locs ls hP hS hl) (fun h => kf (fun z => h (q.mpr z)) ok hσ H locs ls hP hS hl)
theorem r_if_gt {a : Int} {off : Int} {tgt : Nat} (d : decode M.1 pc = .ok (.ifCond .gt off, 3)) (ht : (pc : Int) + off = (tgt : Int)) (ha : Rg a) (kt : 0 < a → RW lay E M Φ tgt lv st σ x) (kf : ¬ 0 < a → RW lay E M Φ (pc + 3) lv st σ x) : RW lay E M Φ pc lv (.int (iz a) :: st) σ x := by
  obtain ⟨p, e, R, s, m, args, below, meth, c⟩ := x
  intro ok hσ H locs ls hP hS hl
  obtain ⟨hx, hb, -⟩ := id ok
  have q := iz_lt Rg_0 ha
  rw [iz_0] at q
  exact lv_if_gt hx hb d ht (fun h => kt (q.mp h) ok hσ H locs ls hP hS hl) (fun h => kf (fun z => h (q.mpr z)) ok hσ H locs ls hP hS hl)
theorem r_icmp_gt {a b : Int} {off : Int} {tgt : Nat} (d : decode M.1 pc = .ok (.if_icmp .gt off, 3)) (ht : (pc : Int) + off = (tgt : Int)) (ha : Rg a) (hb0 : Rg b) (kt : b < a → RW lay E M Φ tgt lv st σ x) (kf : ¬ b < a → RW lay E M Φ (pc + 3) lv st σ x) : RW lay E M Φ pc lv (.int (iz b) :: .int (iz a) :: st) σ x := by
  obtain ⟨p, e, R, s, m, args, below, meth, c⟩ := x
  intro ok hσ H locs ls hP hS hl
  obtain ⟨hx, hb, -⟩ := id ok
  have q := iz_lt hb0 ha
  exact lv_icmp_gt hx hb d ht (fun h => kt (q.mp h) ok hσ H locs ls hP hS hl) (fun h => kf (fun z => h (q.mpr z)) ok hσ H locs ls hP hS hl)
theorem r_if_le {a : Int} {off : Int} {tgt : Nat} (d : decode M.1 pc = .ok (.ifCond .le off, 3)) (ht : (pc : Int) + off = (tgt : Int)) (ha : Rg a) (kt : a ≤ 0 → RW lay E M Φ tgt lv st σ x) (kf : ¬ a ≤ 0 → RW lay E M Φ (pc + 3) lv st σ x) : RW lay E M Φ pc lv (.int (iz a) :: st) σ x := by
  obtain ⟨p, e, R, s, m, args, below, meth, c⟩ := x
  intro ok hσ H locs ls hP hS hl
  obtain ⟨hx, hb, -⟩ := id ok
  have q := iz_le ha Rg_0
  rw [iz_0] at q
  exact lv_if_le hx hb d ht (fun h => kt (q.mp h) ok hσ H locs ls hP hS hl) (fun h => kf (fun z => h (q.mpr z)) ok hσ H locs ls hP hS hl)
theorem r_icmp_le {a b : Int} {off : Int} {tgt : Nat} (d : decode M.1 pc = .ok (.if_icmp .le off, 3)) (ht : (pc : Int) + off = (tgt : Int)) (ha : Rg a) (hb0 : Rg b) (kt : a ≤ b → RW lay E M Φ tgt lv st σ x) (kf : ¬ a ≤ b → RW lay E M Φ (pc + 3) lv st σ x) : RW lay E M Φ pc lv (.int (iz b) :: .int (iz a) :: st) σ x := by
  obtain ⟨p, e, R, s, m, args, below, meth, c⟩ := x
  intro ok hσ H locs ls hP hS hl
  obtain ⟨hx, hb, -⟩ := id ok
  have q := iz_le ha hb0
  exact lv_icmp_le hx hb d ht (fun h => kt (q.mp h) ok hσ H locs ls hP hS hl) (fun h => kf (fun z => h (q.mpr z)) ok hσ H locs ls hP hS hl)
theorem r_by {c : Prop} (kt : c → RW lay E M Φ pc lv st σ x) (kf : ¬ c → RW lay E M Φ pc lv st σ x) : RW lay E M Φ pc lv st σ x := by
  by_cases h : c
  · exact kt h
  · exact kf h
theorem r_swOut {a dflt lo hi : Int} {offs : Array Int} {len tgt : Nat} (d : decode M.1 pc = .ok (.tableswitch dflt lo hi offs, len)) (ht : (pc : Int) + dflt = (tgt : Int)) (ha : Rg a) (h : a < lo ∨ hi < a) (k : RW lay E M Φ tgt lv st σ x) : RW lay E M Φ pc lv (.int (iz a) :: st) σ x := by
  obtain ⟨p, e, R, s, m, args, below, meth, c⟩ := x
  intro ok hσ H locs ls hP hS hl
  obtain ⟨hx, hb, -⟩ := id ok
  exact lv_tableOut hx hb d (by rw [iz_toInt ha]; exact h) ht (k ok hσ H locs ls hP hS hl)
theorem r_swIn {a v dflt lo hi off : Int} {offs : Array Int} {len tgt : Nat} (d : decode M.1 pc = .ok (.tableswitch dflt lo hi offs, len)) (h : a = v) (hv : Rg v ∧ ¬ v < lo ∧ ¬ hi < v ∧ offs[(v - lo).toNat]? = some off) (ht : (pc : Int) + off = (tgt : Int)) (k : RW lay E M Φ tgt lv st σ x) : RW lay E M Φ pc lv (.int (iz a) :: st) σ x := by
  obtain ⟨p, e, R, s, m, args, below, meth, c⟩ := x
  intro ok hσ H locs ls hP hS hl
  obtain ⟨hx, hb, -⟩ := id ok
  subst h
  obtain ⟨h0, h1, h2, h3⟩ := hv
  exact lv_tableIn hx hb d (by rw [iz_toInt h0]; exact h1) (by rw [iz_toInt h0]; exact h2) (by rw [iz_toInt h0]; exact h3) ht (k ok hσ H locs ls hP hS hl)
/-! fields -/
def FW (own : String) (idx ci j : Nat) : Prop := ∃ (C : String) (T : u_T) (N : Nat), vwCl[ci]? = some (C, T, N) ∧ j < N ∧ (T j).1 = C ∧ Cond.fieldLink own idx C (T j).2.1 (T j).2.2.1 ∈ TB ∧ ∀ w ∈ u_ws C T N, w ∈ TB
def FP (ci j : Nat) (ty : FieldType) : Prop := ∃ (C : String) (T : u_T) (N : Nat) (ty0 : Nat → FieldType), vwCl[ci]? = some (C, T, N) ∧ (∀ k, k < N → parseFieldDescriptor (T k).2.2.1 = some (ty0 k)) ∧ (∀ a, a < N → ∀ b, b < N → a ≠ b → (T a).2.1 ≠ (T b).2.1) ∧ (T j).2.2.2 = false ∧ parseFieldDescriptor (T j).2.2.1 = some ty
theorem r_getI {idx k ci j : Nat} {fs : List (Option Nat)} (d : decode M.1 pc = .ok (.getfield idx, 3)) (w : FW M.2.1 idx ci j) (hk : lay[k]? = some (.inr (ci, fs))) (hf : fs[j]? = some none) (kk : RW lay E M Φ (pc + 3) lv (.int (iz (σ k j)) :: st) σ x) : RW lay E M Φ pc lv (.ref (eA E k) :: st) σ x := by
  obtain ⟨p, e, R, s, m, args, below, meth, c⟩ := x
  intro ok hσ H locs ls hP hS hl
  obtain ⟨hx, hb, hml, hown, hts, hK, -⟩ := id ok
  obtain ⟨C, T, N, hc, hj, hC, hlk, hin⟩ := w
  exact va_get (ref := C) hx hb hts hin hown hK hP k (wld_get hk) hc j hj (hts _ hlk) (by rw [hC]; exact fun _ h => h) (v := .int (iz (σ k j))) (by simp [List.getElem?_mapIdx, hf, fcell]) d (kk ok hσ H locs ls hP hS hl)
theorem r_getR {idx k ci j r : Nat} {fs : List (Option Nat)} (d : decode M.1 pc = .ok (.getfield idx, 3)) (w : FW M.2.1 idx ci j) (hk : lay[k]? = some (.inr (ci, fs))) (hf : fs[j]? = some (some r)) (kk : RW lay E M Φ (pc + 3) lv (.ref (eA E r) :: st) σ x) : RW lay E M Φ pc lv (.ref (eA E k) :: st) σ x := by
  obtain ⟨p, e, R, s, m, args, below, meth, c⟩ := x
  intro ok hσ H locs ls hP hS hl
  obtain ⟨hx, hb, hml, hown, hts, hK, -⟩ := id ok
  obtain ⟨C, T, N, hc, hj, hC, hlk, hin⟩ := w
  exact va_get (ref := C) hx hb hts hin hown hK hP k (wld_get hk) hc j hj (hts _ hlk) (by rw [hC]; exact fun _ h => h) (v := .ref (eA E r)) (by simp [List.getElem?_mapIdx, hf, fcell]) d (kk ok hσ H locs ls hP hS hl)
theorem r_put {idx k ci j : Nat} {fs : List (Option Nat)} {a : Int} {ty : FieldType} (d : decode M.1 pc = .ok (.putfield idx, 3)) (w : FW M.2.1 idx ci j) (wp : FP ci j ty) (hk : lay[k]? = some (.inr (ci, fs))) (hf : fs[j]? = some none) (hn : narrow ty (.int (iz a)) = .int (iz a) ∧ fits ty (.int (iz a)) = true) (ha : Rg a) (kk : RW lay E M Φ (pc + 3) lv st (up2 σ k j a) x) : RW lay E M Φ pc lv (.int (iz a) :: .ref (eA E k) :: st) σ x := by
  obtain ⟨p, e, R, s, m, args, below, meth, c⟩ := x
  intro ok hσ H locs ls hP hS hl
  obtain ⟨hx, hb, hml, hown, hts, hK, hE, -⟩ := id ok
  obtain ⟨C, T, N, hc, hj, hC, hlk, hin⟩ := w
  obtain ⟨C2, T2, N2, ty0, hc2, hty, hnm, hfin, hd⟩ := wp
  cases hc.symm.trans hc2
  have hl2 : j < fs.length := (List.getElem?_eq_some_iff.mp hf).1
  refine va_put (ref := C) hx hb hts hin ty0 hty hnm hown hK hP (wld_D hE) hS k (wld_get hk) hc j hj (hts _ hlk) (by rw [hC]; exact fun _ h => h) hfin hd hn.1 hn.2 (by simpa using hl2) d (fun H1 locs1 hP1 _ hS1 => ?_)
  exact kk ok (hσ.up ha k j) H1 locs1 ls (by rw [← wld_setF hk hf]; exact hP1) hS1 hl
theorem nar_int (a : Int) : narrow .int (.int (iz a)) = .int (iz a) ∧ fits .int (.int (iz a)) = true := ⟨rfl, rfl⟩
theorem nar_bool {a : Int} (h : a = 0 ∨ a = 1) : narrow .boolean (.int (iz a)) = .int (iz a) ∧ fits .boolean (.int (iz a)) = true := by
  rcases h with rfl | rfl <;> exact ⟨by decide +kernel, by decide +kernel⟩
/-! arrays -/
theorem r_iald {k n : Nat} {i N : Int} (d : decode M.1 pc = .ok (.iaload, 1)) (hk : lay[k]? = some (.inl (0, n))) (hN : (n : Int) = N) (hn : Nat.ble n 1000000 = true) (hi : 0 ≤ i ∧ i < N) (kk : RW lay E M Φ (pc + 1) lv (.int (iz (σ k i.toNat)) :: st) σ x) : RW lay E M Φ pc lv (.int (iz i) :: .ref (eA E k) :: st) σ x := by
  obtain ⟨p, e, R, s, m, args, below, meth, c⟩ := x
  intro ok hσ H locs ls hP hS hl
  obtain ⟨hx, hb, hml, hown, hts, hK, -⟩ := id ok
  obtain ⟨h1, h2⟩ := iz_in hN hn hi
  refine va_iald hx hb hK hP k 0 (wld_get hk) rfl h1 d ?_
  rw [h2]
  exact kk ok hσ H locs ls hP hS hl
theorem r_bald {k n : Nat} {i N : Int} (d : decode M.1 pc = .ok (.baload, 1)) (hk : lay[k]? = some (.inl (1, n))) (hN : (n : Int) = N) (hn : Nat.ble n 1000000 = true) (hi : 0 ≤ i ∧ i < N) (kk : RW lay E M Φ (pc + 1) lv (.int (iz (σ k i.toNat)) :: st) σ x) : RW lay E M Φ pc lv (.int (iz i) :: .ref (eA E k) :: st) σ x := by
  obtain ⟨p, e, R, s, m, args, below, meth, c⟩ := x
  intro ok hσ H locs ls hP hS hl
  obtain ⟨hx, hb, hml, hown, hts, hK, -⟩ := id ok
  obtain ⟨h1, h2⟩ := iz_in hN hn hi
  refine va_bald hx hb hK hP k 1 (wld_get hk) rfl h1 d ?_
  rw [h2]
  exact kk ok hσ H locs ls hP hS hl
theorem r_zald {k n : Nat} {i N : Int} (d : decode M.1 pc = .ok (.baload, 1)) (hk : lay[k]? = some (.inl (2, n))) (hN : (n : Int) = N) (hn : Nat.ble n 1000000 = true) (hi : 0 ≤ i ∧ i < N) (kk : RW lay E M Φ (pc + 1) lv (.int (iz (σ k i.toNat)) :: st) σ x) : RW lay E M Φ pc lv (.int (iz i) :: .ref (eA E k) :: st) σ x := by
  obtain ⟨p, e, R, s, m, args, below, meth, c⟩ := x
  intro ok hσ H locs ls hP hS hl
  obtain ⟨hx, hb, hml, hown, hts, hK, -⟩ := id ok
  obtain ⟨h1, h2⟩ := iz_in hN hn hi
  refine va_zald hx hb hK hP k 2 (wld_get hk) rfl h1 d ?_
  rw [h2]
  exact kk ok hσ H locs ls hP hS hl
theorem r_iast {k n : Nat} {i N a : Int} (d : decode M.1 pc = .ok (.iastore, 1)) (hk : lay[k]? = some (.inl (0, n))) (hN : (n : Int) = N) (hn : Nat.ble n 1000000 = true) (hi : 0 ≤ i ∧ i < N) (ha : Rg a) (kk : RW lay E M Φ (pc + 1) lv st (up2 σ k i.toNat a) x) : RW lay E M Φ pc lv (.int (iz a) :: .int (iz i) :: .ref (eA E k) :: st) σ x := by
  obtain ⟨p, e, R, s, m, args, below, meth, c⟩ := x
  intro ok hσ H locs ls hP hS hl
  obtain ⟨hx, hb, hml, hown, hts, hK, hE, -⟩ := id ok
  obtain ⟨h1, h2⟩ := iz_in hN hn hi
  refine va_iast hx hb hK hP (wld_D hE) hS k 0 (wld_get hk) rfl h1 d (fun H1 locs1 hP1 _ hS1 => ?_)
  rw [h2] at hP1
  exact kk ok (hσ.up ha k i.toNat) H1 locs1 ls (by rw [← wld_setA hk]; exact hP1) hS1 hl
theorem nar_byte {a : Int} (h : -128 ≤ a ∧ a ≤ 127) : vp_nar .byte (iz a) = iz a := by rw [vp_nar_byte, iz_i2b h]
theorem r_bast {k n : Nat} {i N a : Int} (d : decode M.1 pc = .ok (.bastore, 1)) (hk : lay[k]? = some (.inl (1, n))) (hN : (n : Int) = N) (hn : Nat.ble n 1000000 = true) (hi : 0 ≤ i ∧ i < N) (ha : -128 ≤ a ∧ a ≤ 127) (kk : RW lay E M Φ (pc + 1) lv st (up2 σ k i.toNat a) x) : RW lay E M Φ pc lv (.int (iz a) :: .int (iz i) :: .ref (eA E k) :: st) σ x := by
  obtain ⟨p, e, R, s, m, args, below, meth, c⟩ := x
  intro ok hσ H locs ls hP hS hl
  obtain ⟨hx, hb, hml, hown, hts, hK, hE, -⟩ := id ok
  obtain ⟨h1, h2⟩ := iz_in hN hn hi
  refine va_bast hx hb hK hP (wld_D hE) hS k 1 (wld_get hk) rfl h1 d (fun H1 locs1 hP1 _ hS1 => ?_)
  rw [h2, nar_byte ha] at hP1
  exact kk ok (hσ.up ⟨by omega, by omega⟩ k i.toNat) H1 locs1 ls (by rw [← wld_setA hk]; exact hP1) hS1 hl
theorem nar_zz {a : Int} (h : a = 0 ∨ a = 1) : vp_nar .boolean (iz a) = iz a := by
  rcases h with rfl | rfl <;> decide +kernel
theorem r_zast {k n : Nat} {i N a : Int} (d : decode M.1 pc = .ok (.bastore, 1)) (hk : lay[k]? = some (.inl (2, n))) (hN : (n : Int) = N) (hn : Nat.ble n 1000000 = true) (hi : 0 ≤ i ∧ i < N) (ha : a = 0 ∨ a = 1) (kk : RW lay E M Φ (pc + 1) lv st (up2 σ k i.toNat a) x) : RW lay E M Φ pc lv (.int (iz a) :: .int (iz i) :: .ref (eA E k) :: st) σ x := by
  obtain ⟨p, e, R, s, m, args, below, meth, c⟩ := x
  intro ok hσ H locs ls hP hS hl
  obtain ⟨hx, hb, hml, hown, hts, hK, hE, -⟩ := id ok
  obtain ⟨h1, h2⟩ := iz_in hN hn hi
  refine va_zast hx hb hK hP (wld_D hE) hS k 2 (wld_get hk) rfl h1 d (fun H1 locs1 hP1 _ hS1 => ?_)
  rw [h2, nar_zz ha] at hP1
  exact kk ok (hσ.up ⟨by omega, by omega⟩ k i.toNat) H1 locs1 ls (by rw [← wld_setA hk]; exact hP1) hS1 hl
theorem r_alen {k t n : Nat} {N : Int} {ty : FieldType} (d : decode M.1 pc = .ok (.arraylength, 1)) (hk : lay[k]? = some (.inl (t, n))) (ht : (tyE E)[t]? = some (eC E t, ty)) (hN : (n : Int) = N) (kk : RW lay E M Φ (pc + 1) lv (.int (iz N) :: st) σ x) : RW lay E M Φ pc lv (.ref (eA E k) :: st) σ x := by
  obtain ⟨p, e, R, s, m, args, below, meth, c⟩ := x
  intro ok hσ H locs ls hP hS hl
  obtain ⟨hx, hb, hml, hown, hts, hK, hE, -⟩ := id ok
  subst hN
  exact va_alen hx hb hK hP k t (wld_get hk) ht (v := iz (n : Int)) rfl d (kk ok hσ H locs ls hP hS hl)
/-! ends -/
theorem r_iret {a : Int} (d : decode M.1 pc = .ok (.ireturn, 1)) (hM : M.2.2.2.2 = (some .int, 1)) (ha : Rg a) (h : Φ a σ) : RW lay E M Φ pc lv [.int (iz a)] σ x := by
  obtain ⟨p, e, R, s, m, args, below, meth, c⟩ := x
  intro ok hσ H locs ls hP hS hl
  obtain ⟨hx, hb, hml, hown, hts, hK, hE, hV, hlk, hr, -⟩ := id ok
  rw [hM] at hr ⊢
  exact W.iret hx hb hr (fun t ht _ => ⟨a, σ, rfl, by rw [ht]; exact hP, hσ, ha, h, hS.F ht⟩) (fun q hq => hS.2.2 q hq) d hlk
theorem r_zret {a : Int} (d : decode M.1 pc = .ok (.ireturn, 1)) (hM : M.2.2.2.2 = (some .boolean, 1)) (ha : a = 0 ∨ a = 1) (h : Φ a σ) : RW lay E M Φ pc lv [.int (iz a)] σ x := by
  obtain ⟨p, e, R, s, m, args, below, meth, c⟩ := x
  intro ok hσ H locs ls hP hS hl
  obtain ⟨hx, hb, hml, hown, hts, hK, hE, hV, hlk, hr, -⟩ := id ok
  rw [hM] at hr ⊢
  exact W.zret hx hb hr (nar_bool ha).1 (fun t ht _ => ⟨a, σ, rfl, by rw [ht]; exact hP, hσ, ⟨by omega, by omega⟩, h, hS.F ht⟩) (fun q hq => hS.2.2 q hq) d hlk
theorem r_vret (d : decode M.1 pc = .ok (.return_, 1)) (hM : M.2.2.2.2 = (none, 0)) (h : Φ 0 σ) : RW lay E M Φ pc lv [] σ x := by
  obtain ⟨p, e, R, s, m, args, below, meth, c⟩ := x
  intro ok hσ H locs ls hP hS hl
  obtain ⟨hx, hb, hml, hown, hts, hK, hE, hV, hlk, hr, -⟩ := id ok
  rw [hM] at hr ⊢
  exact W.vret hx hb hr (fun t ht _ => ⟨0, σ, rfl, by rw [ht]; exact hP, hσ, Rg_0, h, hS.F ht⟩) (fun q hq => hS.2.2 q hq) d hlk
theorem r_aret {C : String} {k : Nat} {z : Int} (d : decode M.1 pc = .ok (.areturn, 1)) (hM : M.2.2.2.2 = (some (.object C), 2)) (hz : z.toNat = k) (hr0 : Rg z) (h : Φ z σ) : RW lay E M Φ pc lv [.ref (eA E k)] σ x := by
  obtain ⟨p, e, R, s, m, args, below, meth, c⟩ := x
  intro ok hσ H locs ls hP hS hl
  obtain ⟨hx, hb, hml, hown, hts, hK, hE, hV, hlk, hr, -⟩ := id ok
  rw [hM] at hr ⊢
  subst hz
  exact W.aret hx hb hr (Or.inl ⟨_, rfl⟩) (Or.inr ⟨_, rfl⟩) (fun t ht _ => ⟨z, σ, rfl, by rw [ht]; exact hP, hσ, hr0, h, hS.F ht⟩) (fun q hq => hS.2.2 q hq) d hlk
theorem r_sret {C : String} {k : Nat} {z : Int} (d : decode M.1 pc = .ok (.areturn, 1)) (hM : M.2.2.2.2 = (some (.object C), 3)) (hz : z.toNat = k) (hr0 : Rg z) (h : Φ z σ) : RW lay E M Φ pc lv [.ref (eS E k)] σ x := by
  obtain ⟨p, e, R, s, m, args, below, meth, c⟩ := x
  intro ok hσ H locs ls hP hS hl
  obtain ⟨hx, hb, hml, hown, hts, hK, hE, hV, hlk, hr, -⟩ := id ok
  rw [hM] at hr ⊢
  subst hz
  exact W.aret hx hb hr (Or.inl ⟨_, rfl⟩) (Or.inr ⟨_, rfl⟩) (fun t ht _ => ⟨z, σ, rfl, by rw [ht]; exact hP, hσ, hr0, h, hS.F ht⟩) (fun q hq => hS.2.2 q hq) d hlk
end Rows
end
section
section Calls
variable {lay : List LE} {E : EV} {M M2 : MI} {Φ : Int → PS → Prop} {pc : Nat} {lv lv' : List (Option Value)} {st st0 : List Value} {σ : PS} {x : CX}
theorem PU_blind {av : List Value} : FrameBlind (va_Pc av (PU lay E σ)) := fun a U g mk ⟨h, hP, hK, hE⟩ => ⟨h, hP, va_K.moved (u := U) (U := U.calling g mk a) (Vm.Alike.refl U.vm) hK, ENV.same (u := U) (U := U.calling g mk a) rfl hE⟩
theorem PU_at {s : State} {H : Heap} {locs : List Loc} (hK : va_K (eG E) vwCl (tyE E) s) (hV : ENV lay E s s.heap) (hP : va_P (eG E) vwCl (wld lay E σ) H) (hS : va_S (wA lay E) s.heap H locs) (U : State) (hU : U.heap = H) (hW : s.WarmedH U.vm) : PU lay E σ U :=
  ⟨by rw [hU]; exact hP, va_K.moved hW.alike hK, by rw [hU]; exact ENV.warm hW (ENV.kept hV hS.2.1)⟩
def allOne (av : List Value) : Bool := av.all fun v => v.category == 1
theorem allOne_at {av : List Value} (h : allOne av = true) : ∀ v ∈ av, v.category = 1 := fun v hv => by simpa using List.all_eq_true.mp h v hv
theorem lgsl_one {av : List Value} (h : ∀ v ∈ av, v.category = 1) : (lg_sl av).length = av.length := by
  induction av with
  | nil => rfl
  | cons a l ih =>
    have h1 := h a List.mem_cons_self
    have h2 := ih fun v hv => h v (List.mem_cons_of_mem _ hv)
    simp only [lg_sl, List.flatMap_cons] at h2 ⊢
    rw [if_neg (by omega), List.length_append, h2]
    simp only [List.length_cons, List.length_nil]
    omega
theorem lvargs_one {av : List Value} (h : ∀ v ∈ av, v.category = 1) : ∀ (k i : Nat) (v : Value), av[i]? = some v → (k + i, v) ∈ lv_args k av := by
  induction av with
  | nil => intro k i v hi; simp at hi
  | cons a l ih =>
    intro k i v hi
    have h1 := h a List.mem_cons_self
    have h2 := ih (fun v hv => h v (List.mem_cons_of_mem _ hv))
    unfold lv_args
    rw [if_neg (by omega)]
    cases i with
    | zero =>
      simp at hi
      subst hi
      exact List.mem_cons_self
    | succ i =>
      refine List.mem_cons_of_mem _ ?_
      have h3 := h2 (k + 1) i v (by simpa using hi)
      rw [show k + (i + 1) = k + 1 + i by omega]
      exact h3
theorem LH_entry {av : List Value} {n : Nat} (h : ∀ v ∈ av, v.category = 1) (hn : av.length ≤ n) : LH ((lg_sl av ++ List.replicate (n - (lg_sl av).length) Slot.unset).toArray) n (av.map some ++ List.replicate (n - av.length) none) := by
  have h1 := lv_entry av (n := n) (by rw [lgsl_one h]; exact hn)
  refine ⟨h1.1, h1.2.1, by simp; omega, fun i v hi => ?_⟩
  by_cases hl : i < av.length
  · rw [List.getElem?_append_left (by simpa using hl), List.getElem?_map] at hi
    cases hq : av[i]? with
    | none => rw [hq] at hi; cases hi
    | some v2 =>
      rw [hq] at hi
      have e2 : v2 = v := Option.some.inj (Option.some.inj hi)
      subst e2
      have h2 := lvargs_one h 0 i v2 hq
      rw [Nat.zero_add] at h2
      exact ⟨h1.2.2 _ h2, h v2 (List.mem_of_getElem? hq)⟩
  · rw [List.getElem?_append_right (by simpa using hl)] at hi
    have := List.eq_of_mem_replicate (List.mem_of_getElem? hi)
    cases this
theorem ct_of {y : MethodName} {av : List Value} (hy : plainName y.cls = true) (ho : y.cls = M.2.1) (hE : eOK lay E) (hn : Nat.ble av.length M.2.2.1 = true) (hcat : allOne av = true) (hσ : RS σ) (k : ∀ x, RW lay E M Φ 0 (av.map some ++ List.replicate (M.2.2.1 - av.length) none) [] σ x) : CT lay E y M av σ Φ := by
  refine Met.ofW (cc := M.1) (maxL := M.2.2.1) (ret := M.2.2.2.2.1) hy rfl ?_
  intro p e s m args below meth c s₁ B hml hPc
  obtain ⟨rfl, hP, hK, hV⟩ := hPc
  have hts := atoms_spec (ws := .code y M.1 M.2.2.1 M.2.2.2.2.1 :: TB) B.pre
  have hown : s.vm.findClass M.2.1 = some m.cls := ho ▸ findClass_of_methodNamed B.named
  rw [lg_entry_eq]
  exact k (p, e, _, s, m, av.toArray, below, meth, c) ⟨B.exec, B.bytes, hml, hown, fun w hw => hts w (List.mem_cons_of_mem _ hw), hK, hE, hV, B.notSynchronized, B.returns, Nat.le_refl _, Nat.le_refl _⟩ hσ s.heap [] _ hP va_S.rf (LH_entry (allOne_at hcat) (Nat.le_of_ble_eq_true hn))
theorem r_ofRun {p : Program} {l : Launch} {e : Env} {R : Room} {s : State} {m : MethodId} {args a : Array Value} {below : List Frame} {meth : Method} {c : Code} {H : Heap} {locs : List Loc} {K : Nat} {Ψ : Int → PS → Prop} {Q : State → Prop} {ls : Array Slot}
    (hr : va_Run p l e R s m args below meth c H locs 0 0 0 0 (F0 m pc ls st0) st (QF lay E K Ψ a) (wA lay E)) (hS : va_S (wA lay E) s.heap H locs)
    (kk : ∀ (z : Int) (σ' : PS), Rg z → RS σ' → Ψ z σ' → ∀ (H1 : Heap) (locs1 : List Loc), va_P (eG E) vwCl (wld lay E σ') H1 → va_S (wA lay E) s.heap H1 locs1 → W p l e R s m args below meth c H1 locs1 0 0 Q (F0 m (pc + 3) ls ((rvv E K z).toList ++ st))) : W p l e R s m args below meth c H locs 0 0 Q (F0 m pc ls st0) := by
  intro T hT X
  obtain ⟨v, st₀, t, T', L, h0, X', hL, e1, e2, ⟨z, σ', hv, hP, hσ, hz, hΨ, hF⟩, go⟩ := hr T hT X
  cases hv
  rw [va_F, h0] at hF
  obtain ⟨t2, a1, b1⟩ := kk z σ' hz hσ hΨ T'.heap (locs ++ L) (by rw [e1]; exact hP)
    ⟨Nat.le_trans hS.1 (by rw [e1]; exact hF.1), fun q h1 h2 => by rw [e1, hF.2 q (Nat.lt_of_lt_of_le h1 hS.1) h2]; exact hS.2.1 q h1 h2, fun q hq => by
      rcases List.mem_append.mp hq with h | h
      · exact hS.2.2 q h
      · exact hL q h⟩ T' rfl X'
  exact ⟨t2, go t2 a1, b1⟩
def ynm (y : MethodName) (n : Nat) : Prop := (y.cls ≠ "java/lang/invoke/MethodHandle" ∧ y.cls ≠ "java/lang/invoke/VarHandle") ∧ (parseMethodDescriptor y.desc).map (fun d => d.parameters.length) = some n
def CWV (own : String) (idx : Nat) (y : MethodName) (M2 : MI) : Prop := ∀ w ∈ ([.methodLink own idx y, .instanceMethod y, .selects y.cls y y, .initialized y.cls, .code y M2.1 M2.2.2.1 M2.2.2.2.2.1] : List Cond), w ∈ TB
def CWS (own : String) (idx : Nat) (y : MethodName) (M2 : MI) : Prop := ∀ w ∈ ([.methodLink own idx y, .static y, .initialized y.cls, .code y M2.1 M2.2.2.1 M2.2.2.2.2.1] : List Cond), w ∈ TB
def CWN (own : String) (idx : Nat) (y : MethodName) (M2 : MI) : Prop := (own, idx, y) ∈ kNest ∧ ∀ w ∈ ([.static y, .initialized y.cls, .code y M2.1 M2.2.2.1 M2.2.2.2.2.1] : List Cond), w ∈ TB
theorem good_in {w : Cond} (h : w ∈ TB) : w ∈ TB ∧ ((w.onTables && w.keeps) = true ∨ ∃ ty, w = .arrayClass ty) := TB_good w h
theorem lvl_room {R : Room} {a b n : Nat} (h1 : b ≤ R.frames) (h2 : 64 * b ≤ R.locals) (h : a + 1 ≤ b) (hn : Nat.ble n 40 = true) : (rml a).frames + 1 ≤ R.frames ∧ 8 + (n + 11) + (rml a).locals ≤ R.locals := by
  have hn2 := Nat.le_of_ble_eq_true hn
  refine ⟨by show a + 1 ≤ _; omega, ?_⟩
  show 8 + (n + 11) + 64 * a ≤ R.locals
  omega
theorem r_callV {idx b ci n : Nat} {fs : List (Option Nat)} {y : MethodName} {As : List Value} {Ψ : Int → PS → Prop} (d : decode M.1 pc = .ok (.invokevirtual idx, 3)) (cw : CWV M.2.1 idx y M2) (hy : ynm y n) (hM : CT lay E y M2 (.ref (eA E b) :: As) σ Ψ) (hb0 : lay[b]? = some (.inr (ci, fs))) (hc : vwCl[ci]?.map (fun q => q.1) = some y.cls) (hn : As.length = n) (hlv : M2.2.2.2.1 + 1 ≤ M.2.2.2.1) (hL : Nat.ble M2.2.2.1 40 = true) (hst : st0 = As.reverse ++ .ref (eA E b) :: st) (hcat : Nat.ble ((st.map fun v => v.category).sum) 8 = true)
    (k : ∀ (z : Int) (σ' : PS), Rg z → RS σ' → Ψ z σ' → RW lay E M Φ (pc + 3) lv ((rvv E M2.2.2.2.2.2 z).toList ++ st) σ' x) : RW lay E M Φ pc lv st0 σ x := by
  obtain ⟨p, e, R, s, m, args, below, meth, c⟩ := x
  intro ok hσ H locs ls hP hS hl
  obtain ⟨hx, hb, hml, hown, hts, hK, hE, hV, hlk, hr, hfr, hlo⟩ := id ok
  have hlen : ∃ q, vwCl[ci]? = some q ∧ q.1 = y.cls := by
    cases hq : vwCl[ci]? with
    | none => rw [hq] at hc; cases hc
    | some q => rw [hq] at hc; exact ⟨q, rfl, Option.some.inj hc⟩
  obtain ⟨q, hq, hqy⟩ := hlen
  have hG : GoodIn TB (wsV M.2.1 idx y.cls y (.code y M2.1 M2.2.2.1 M2.2.2.2.2.1 :: TB)) := by
    intro w hw
    rcases List.mem_append.mp hw with h | h
    · exact good_in (cw w (by simp at h ⊢; rcases h with h | h | h | h <;> simp [h]))
    · rcases List.mem_cons.mp h with h | h
      · exact good_in (cw w (by rw [h]; simp))
      · exact TB_good w h
  have hrecv := va_recv hK hP hq (wld_get (E := E) (σ := σ) hb0)
  rw [hqy] at hrecv
  refine r_ofRun (va_runV (As := As) (rest := st) ⟨hx, hb, hml, hown, hts⟩ hM (cwV n hts hG rfl rfl rfl ⟨rfl, hy.1.1, hy.1.2, hy.2⟩ (lvl_room hfr hlo hlv hL)) ⟨PU_blind, hrecv, fun U hU hW => ⟨rfl, PU_at hK hV hP hS U hU hW⟩⟩ rfl hn hl.1 hst (lv_room (Nat.le_of_ble_eq_true hcat)) d ⟨Nat.zero_le _, Nat.zero_le _⟩) hS (fun z σ' hz hσ' hΨ H1 locs1 hP1 hS1 => ?_)
  exact k z σ' hz hσ' hΨ ok hσ' H1 locs1 ls hP1 hS1 hl
theorem r_callS {idx n : Nat} {y : MethodName} {As : List Value} {Ψ : Int → PS → Prop} (d : decode M.1 pc = .ok (.invokestatic idx, 3)) (cw : CWS M.2.1 idx y M2) (hy : ynm y n) (hM : CT lay E y M2 As σ Ψ) (hn : As.length = n) (hlv : M2.2.2.2.1 + 1 ≤ M.2.2.2.1) (hL : Nat.ble M2.2.2.1 40 = true) (hst : st0 = As.reverse ++ st) (hcat : Nat.ble ((st.map fun v => v.category).sum) 8 = true)
    (k : ∀ (z : Int) (σ' : PS), Rg z → RS σ' → Ψ z σ' → RW lay E M Φ (pc + 3) lv ((rvv E M2.2.2.2.2.2 z).toList ++ st) σ' x) : RW lay E M Φ pc lv st0 σ x := by
  obtain ⟨p, e, R, s, m, args, below, meth, c⟩ := x
  intro ok hσ H locs ls hP hS hl
  obtain ⟨hx, hb, hml, hown, hts, hK, hE, hV, hlk, hr, hfr, hlo⟩ := id ok
  have hG : GoodIn TB (va_wsS M.2.1 idx y (.code y M2.1 M2.2.2.1 M2.2.2.2.2.1 :: TB)) := by
    intro w hw
    rcases List.mem_append.mp hw with h | h
    · exact good_in (cw w (by simp at h ⊢; rcases h with h | h | h <;> simp [h]))
    · rcases List.mem_cons.mp h with h | h
      · exact good_in (cw w (by rw [h]; simp))
      · exact TB_good w h
  refine r_ofRun (va_runS (As := As) (rest := st) ⟨hx, hb, hml, hown, hts⟩ hM (va_cwS n hts hG rfl rfl rfl ⟨hy.1.1, hy.1.2, hy.2⟩ (lvl_room hfr hlo hlv hL)) ⟨PU_blind, fun U hU hW => ⟨rfl, PU_at hK hV hP hS U hU hW⟩⟩ rfl hn hl.1 hst (lv_room (Nat.le_of_ble_eq_true hcat)) d ⟨Nat.zero_le _, Nat.zero_le _⟩) hS (fun z σ' hz hσ' hΨ H1 locs1 hP1 hS1 => ?_)
  exact k z σ' hz hσ' hΨ ok hσ' H1 locs1 ls hP1 hS1 hl
theorem r_callN {idx n : Nat} {y : MethodName} {As : List Value} {Ψ : Int → PS → Prop} (d : decode M.1 pc = .ok (.invokestatic idx, 3)) (cw : CWN M.2.1 idx y M2) (hy : ynm y n) (hM : CT lay E y M2 As σ Ψ) (hn : As.length = n) (hlv : M2.2.2.2.1 + 1 ≤ M.2.2.2.1) (hL : Nat.ble M2.2.2.1 40 = true) (hst : st0 = As.reverse ++ st) (hcat : Nat.ble ((st.map fun v => v.category).sum) 8 = true)
    (k : ∀ (z : Int) (σ' : PS), Rg z → RS σ' → Ψ z σ' → RW lay E M Φ (pc + 3) lv ((rvv E M2.2.2.2.2.2 z).toList ++ st) σ' x) : RW lay E M Φ pc lv st0 σ x := by
  obtain ⟨p, e, R, s, m, args, below, meth, c⟩ := x
  intro ok hσ H locs ls hP hS hl
  obtain ⟨hx, hb, hml, hown, hts, hK, hE, hV, hlk, hr, hfr, hlo⟩ := id ok
  have hG : GoodIn TB (.code y M2.1 M2.2.2.1 M2.2.2.2.2.1 :: TB) := by
    intro w hw
    rcases List.mem_cons.mp hw with h | h
    · exact good_in (cw.2 w (by rw [h]; simp))
    · exact TB_good w h
  refine r_ofRun (va_runSN (As := As) (rest := st) ⟨hx, hb, hml, hown, hts⟩ hM ⟨va_cnB n hts hG rfl rfl rfl (hV.2.2.1 _ cw.1) (hts _ (cw.2 _ (by simp))) ⟨hy.1.1, hy.1.2, hy.2⟩ (lvl_room hfr hlo hlv hL), hts _ (cw.2 _ (by simp)), trivial⟩ ⟨PU_blind, fun U hU hW => ⟨rfl, PU_at hK hV hP hS U hU hW⟩⟩ rfl hn hl.1 hst (lv_room (Nat.le_of_ble_eq_true hcat)) d ⟨Nat.zero_le _, Nat.zero_le _⟩) hS (fun z σ' hz hσ' hΨ H1 locs1 hP1 hS1 => ?_)
  exact k z σ' hz hσ' hΨ ok hσ' H1 locs1 ls hP1 hS1 hl
def MW (own : String) (idx : Nat) (y : MethodName) (b : ByteArray) : Prop := ∀ w ∈ ([.methodLink own idx y, .static y, .initialized "java/lang/Math", .code y b 2 (some .int)] : List Cond), w ∈ TB
theorem iz_min {a b : Int} (ha : Rg a) (hb : Rg b) : (if iz b < iz a then iz b else iz a) = iz (min a b) := by
  by_cases h : b < a
  · rw [if_pos ((iz_lt hb ha).mpr h), Int.min_eq_right (by omega)]
  · rw [if_neg (fun z => h ((iz_lt hb ha).mp z)), Int.min_eq_left (by omega)]
theorem iz_max {a b : Int} (ha : Rg a) (hb : Rg b) : (if iz a < iz b then iz b else iz a) = iz (max a b) := by
  by_cases h : a < b
  · rw [if_pos ((iz_lt ha hb).mpr h), Int.max_eq_right (by omega)]
  · rw [if_neg (fun z => h ((iz_lt ha hb).mp z)), Int.max_eq_left (by omega)]
theorem r_min {idx : Nat} {a b : Int} (d : decode M.1 pc = .ok (.invokestatic idx, 3)) (w : MW M.2.1 idx Lib.Math.min.name Lib.Math.min.code) (ha : Rg a) (hb0 : Rg b) (hlv : 1 ≤ M.2.2.2.1) (hcat : Nat.ble ((st.map fun v => v.category).sum) 8 = true) (k : RW lay E M Φ (pc + 3) lv (.int (iz (min a b)) :: st) σ x) : RW lay E M Φ pc lv (.int (iz b) :: .int (iz a) :: st) σ x := by
  obtain ⟨p, e, R, s, m, args, below, meth, c⟩ := x
  intro ok hσ H locs ls hP hS hl
  obtain ⟨hx, hb, hml, hown, hts, hK, hE, hV, hlk, hr, hfr, hlo⟩ := id ok
  have hc := Nat.le_of_ble_eq_true hcat
  refine va_mmin hx hb (hml.trans hl.1.symm) hown (hts _ (w _ (by simp))) (hts _ (w _ (by simp))) (hts _ (w _ (by simp))) (hts _ (w _ (by simp))) (by omega) (by omega) (Nat.zero_le _) (Nat.zero_le _) d ?_
  rw [iz_min ha hb0]
  exact k ok hσ H locs ls hP hS hl
theorem r_max {idx : Nat} {a b : Int} (d : decode M.1 pc = .ok (.invokestatic idx, 3)) (w : MW M.2.1 idx Lib.Math.max.name Lib.Math.max.code) (ha : Rg a) (hb0 : Rg b) (hlv : 1 ≤ M.2.2.2.1) (hcat : Nat.ble ((st.map fun v => v.category).sum) 8 = true) (k : RW lay E M Φ (pc + 3) lv (.int (iz (max a b)) :: st) σ x) : RW lay E M Φ pc lv (.int (iz b) :: .int (iz a) :: st) σ x := by
  obtain ⟨p, e, R, s, m, args, below, meth, c⟩ := x
  intro ok hσ H locs ls hP hS hl
  obtain ⟨hx, hb, hml, hown, hts, hK, hE, hV, hlk, hr, hfr, hlo⟩ := id ok
  have hc := Nat.le_of_ble_eq_true hcat
  refine va_mmax hx hb (hml.trans hl.1.symm) hown (hts _ (w _ (by simp))) (hts _ (w _ (by simp))) (hts _ (w _ (by simp))) (hts _ (w _ (by simp))) (by omega) (by omega) (Nat.zero_le _) (Nat.zero_le _) d ?_
  rw [iz_max ha hb0]
  exact k ok hσ H locs ls hP hS hl
/-- row k's places dp .. dp + n - 1 become row j's sp .. -/
def cp2 (σ : PS) (j k sp dp n : Nat) : PS := fun k' i => if k' = k ∧ dp ≤ i ∧ i < dp + n then σ j (sp + (i - dp)) else σ k' i
theorem RS.cp {j k sp dp n : Nat} (h : RS σ) : RS (cp2 σ j k sp dp n) := by
  intro k' i
  unfold cp2
  split
  · exact h _ _
  · exact h _ _
def AW (own : String) (idx : Nat) : Prop := ∀ w ∈ ([.methodLink own idx arraycopyName, .native arraycopyName, .static arraycopyName, .initialized "java/lang/System"] : List Cond), w ∈ TB
theorem r_acopy {idx j k nj nk : Nat} {sp dp n Nj Nk : Int} (d : decode M.1 pc = .ok (.invokestatic idx, 3)) (w : AW M.2.1 idx) (hj : lay[j]? = some (.inl (0, nj))) (hk : lay[k]? = some (.inl (0, nk))) (hNj : (nj : Int) = Nj) (hNk : (nk : Int) = Nk) (hbj : Nat.ble nj 1000000 = true) (hbk : Nat.ble nk 1000000 = true) (h : 0 ≤ sp ∧ 0 ≤ dp ∧ 0 ≤ n ∧ sp + n ≤ Nj ∧ dp + n ≤ Nk) (hlv : 1 ≤ M.2.2.2.1) (hw2 : Nat.ble (nativeFrameWords "java/lang/System" "arraycopy" 5 + 11 + 8) 64 = true) (hcat : Nat.ble ((st.map fun v => v.category).sum) 8 = true)
    (kk : RW lay E M Φ (pc + 3) lv st (cp2 σ j k sp.toNat dp.toNat n.toNat) x) : RW lay E M Φ pc lv (.int (iz n) :: .int (iz dp) :: .ref (eA E k) :: .int (iz sp) :: .ref (eA E j) :: st) σ x := by
  obtain ⟨p, e, R, s, m, args, below, meth, c⟩ := x
  intro ok hσ H locs ls hP hS hl
  obtain ⟨hx, hb, hml, hown, hts, hK, hE, hV, hlk, hr, hfr, hlo⟩ := id ok
  have hc := Nat.le_of_ble_eq_true hcat
  have hc2 := Nat.le_of_ble_eq_true hw2
  have hq1 := Nat.le_of_ble_eq_true hbj
  have hq2 := Nat.le_of_ble_eq_true hbk
  obtain ⟨g1, g2, g3, g4, g5⟩ := h
  have cl : ∀ z : Int, 0 ≤ z → z ≤ 2147483647 → ¬ iz z < 0 ∧ (iz z).toNatClampNeg = z.toNat := by
    intro z z0 z1
    refine ⟨fun q => ?_, ?_⟩
    · rw [← iz_0] at q
      have := (iz_lt ⟨by omega, by omega⟩ Rg_0).mp q
      omega
    · show (iz z).toInt.toNat = z.toNat
      rw [iz_toInt ⟨by omega, by omega⟩]
  obtain ⟨a1, b1⟩ := cl sp g1 (by omega)
  obtain ⟨a2, b2⟩ := cl dp g2 (by omega)
  obtain ⟨a3, b3⟩ := cl n g3 (by omega)
  refine va_copyi hx hb (hml.trans hl.1.symm) hown (hts _ (w _ (by simp))) (hts _ (w _ (by simp))) (hts _ (w _ (by simp))) (hts _ (w _ (by simp))) hK hP (wld_D hE) hS j k 0 0 (ty := .int) (wld_get hj) (wld_get hk) rfl rfl rfl a1 a2 a3 (by rw [b1, b3]; omega) (by rw [b2, b3]; omega) (fun _ _ => rfl) (by omega) (by omega) d (fun H1 locs1 hP1 _ hS1 => ?_)
  rw [b1, b2, b3] at hP1
  refine kk ok hσ.cp H1 locs1 ls ?_ hS1 hl
  have e1 : (wld lay E σ).set k (eA E k, .inl (eC E 0, nk, .inl (va_cpy (fun i => iz (σ j i)) (fun i => iz (σ k i)) sp.toNat dp.toNat n.toNat))) = wld lay E (cp2 σ j k sp.toNat dp.toNat n.toNat) := by
    refine wld_set hk ?_ (fun k' hk' => by funext i; simp [cp2, hk'])
    show (Sum.inl _ : va_E) = Sum.inl _
    congr 4
    funext i
    unfold va_cpy cp2
    simp only [true_and]
    split <;> rfl
  rw [← e1]
  exact hP1
end Calls
end
section
theorem tb_r {ws : List Cond} (ps : List Nat) (h : (decide (ws = ps.filterMap fun i => lw_tbl[i]?) && ws.all goodWord) = true) : ∀ w ∈ ws, w ∈ TB := by
  intro w hw
  rw [Bool.and_eq_true, decide_eq_true_eq] at h
  have hg := List.all_eq_true.mp h.2 w hw
  rw [h.1] at hw
  obtain ⟨i, -, hi⟩ := List.mem_filterMap.mp hw
  exact TB_in (List.mem_of_getElem? hi) hg
theorem tb_1 {w : Cond} (p : Nat) (h : (decide (lw_tbl[p]? = some w) && goodWord w) = true) : w ∈ TB := by
  rw [Bool.and_eq_true, decide_eq_true_eq] at h
  exact TB_in (List.mem_of_getElem? h.1) h.2
theorem Rl {n : Int} (h : (decide (-2147483648 ≤ n) && decide (n ≤ 2147483647)) = true) : Rg n := by
  rw [Bool.and_eq_true, decide_eq_true_eq, decide_eq_true_eq] at h
  exact h
theorem Rg_eq {a b : Int} (h : a = b) (r : Rg b) : Rg a := h ▸ r
theorem RS_eq {a b : PS} (h : a = b) (r : RS b) : RS a := h ▸ r
theorem Rg_div {a b : Int} (ha : Rg a) (h : 0 ≤ a) (hb : decide (0 < b) = true) : Rg (a / b) := by
  have hb := of_decide_eq_true hb
  have q0 : 0 ≤ a / b := Int.ediv_nonneg h (by omega)
  have q1 : a / b ≤ a := Int.ediv_le_self b h
  exact ⟨by omega, by omega⟩
theorem Rg_mod {a b : Int} (ha : Rg a) (h : 0 ≤ a) (hb : decide (0 < b) = true) : Rg (a % b) := by
  have hb := of_decide_eq_true hb
  have q0 : 0 ≤ a % b := Int.emod_nonneg a (by omega)
  have q1 : a % b ≤ a := by
    have q2 : 0 ≤ b * (a / b) := Int.mul_nonneg (by omega) (Int.ediv_nonneg h (by omega))
    rw [Int.emod_def]
    omega
  exact ⟨by omega, by omega⟩
theorem Rg_min {a b : Int} (ha : Rg a) (hb : Rg b) : Rg (min a b) := by
  rcases Int.le_total a b with h | h
  · rw [Int.min_eq_left h]; exact ha
  · rw [Int.min_eq_right h]; exact hb
theorem Rg_max {a b : Int} (ha : Rg a) (hb : Rg b) : Rg (max a b) := by
  rcases Int.le_total a b with h | h
  · rw [Int.max_eq_right h]; exact hb
  · rw [Int.max_eq_left h]; exact ha
/-- row k's places lo .. hi - 1 become v -/
def fl2 (σ : PS) (k lo hi : Nat) (v : Int) : PS := fun k' i => if k' = k ∧ lo ≤ i ∧ i < hi then v else σ k' i
theorem RS.fl {σ : PS} {k lo hi : Nat} {v : Int} (h : RS σ) (hv : Rg v) : RS (fl2 σ k lo hi v) := by
  intro k' i
  unfold fl2
  split
  · exact hv
  · exact h _ _
theorem fl2_0 {σ : PS} {k lo : Nat} {v : Int} : fl2 σ k lo lo v = σ := by
  funext k' i
  unfold fl2
  rw [if_neg (by omega)]
theorem fl2_s {σ : PS} {k lo hi : Nat} {v : Int} (h : lo ≤ hi) : up2 (fl2 σ k lo hi v) k hi v = fl2 σ k lo (hi + 1) v := by
  funext k' i
  unfold up2 fl2
  by_cases h1 : k' = k ∧ i = hi
  · rw [if_pos h1, if_pos (by omega)]
  · rw [if_neg h1]
    by_cases h2 : k' = k ∧ lo ≤ i ∧ i < hi
    · rw [if_pos h2, if_pos (by omega)]
    · rw [if_neg h2, if_neg (by omega)]
section Names
variable {lay : List LE} {E : EV} {M : MI} {Φ : Int → PS → Prop} {pc : Nat} {lv lv' : List (Option Value)} {st : List Value} {σ : PS} {x : CX}
theorem r_name {a : Int} (k : ∀ y : Int, y = a → RW lay E M Φ pc lv (.int (iz y) :: st) σ x) : RW lay E M Φ pc lv (.int (iz a) :: st) σ x := k a rfl
theorem r_sig (k : ∀ σ1 : PS, σ1 = σ → RW lay E M Φ pc lv st σ1 x) : RW lay E M Φ pc lv st σ x := k σ rfl
end Names
def layC : List LE := [.inr (11, [some 1, some 2, none, some 3, none, some 4, none, some 5, none, some 6, none, some 7, some 9, some 10, some 11, some 12]),
  .inr (3, [some 13, some 14, some 15, some 16, some 17, some 18, none, none, none]),
  .inr (3, [some 19, some 20, some 21, some 22, some 23, some 24, none, none, none]),
  .inr (1, [some 25, some 26, some 27, some 28, some 29, some 30, some 31, none, none, none, none]),
  .inr (0, [some 32, some 33, some 34, some 35, some 36, some 37, some 38, some 39, none, none, none]),
  .inr (8, [some 40, some 41, some 42, some 43, some 44, some 45, some 46, none, none]),
  .inr (10, [none, none, none, none]),
  .inr (5, [some 8, some 47, some 48]),
  .inr (6, [some 49, some 50, some 51, some 52, some 53, some 54, some 55, some 56, none, none]),
  .inr (9, [some 57, none, none, none]),
  .inr (2, [some 58, some 59, some 60, none]),
  .inr (7, [some 61, none]),
  .inr (4, [some 62, some 63]),
  .inl (0, 30),
  .inl (0, 30),
  .inl (0, 30),
  .inl (0, 30),
  .inl (0, 30),
  .inl (0, 30),
  .inl (0, 30),
  .inl (0, 30),
  .inl (0, 30),
  .inl (0, 30),
  .inl (0, 30),
  .inl (0, 30),
  .inl (0, 30),
  .inl (0, 360),
  .inl (0, 360),
  .inl (0, 4320),
  .inl (0, 30),
  .inl (0, 12),
  .inl (0, 12),
  .inl (0, 30),
  .inl (0, 12),
  .inl (0, 12),
  .inl (0, 12),
  .inl (0, 30),
  .inl (0, 12),
  .inl (0, 12),
  .inl (0, 12),
  .inl (0, 30),
  .inl (0, 30),
  .inl (0, 30),
  .inl (0, 360),
  .inl (0, 30),
  .inl (0, 12),
  .inl (0, 12),
  .inl (0, 12),
  .inl (0, 21),
  .inl (0, 108),
  .inl (0, 108),
  .inl (0, 108),
  .inl (0, 108),
  .inl (0, 108),
  .inl (0, 672),
  .inl (0, 672),
  .inl (0, 672),
  .inl (1, 90),
  .inl (0, 6),
  .inl (0, 6),
  .inl (0, 6),
  .inl (1, 510),
  .inl (0, 160),
  .inl (0, 4)]
theorem lC_0 : layC[0]? = some (.inr (11, [some 1, some 2, none, some 3, none, some 4, none, some 5, none, some 6, none, some 7, some 9, some 10, some 11, some 12])) := rfl
theorem lC_1 : layC[1]? = some (.inr (3, [some 13, some 14, some 15, some 16, some 17, some 18, none, none, none])) := rfl
theorem lC_2 : layC[2]? = some (.inr (3, [some 19, some 20, some 21, some 22, some 23, some 24, none, none, none])) := rfl
theorem lC_3 : layC[3]? = some (.inr (1, [some 25, some 26, some 27, some 28, some 29, some 30, some 31, none, none, none, none])) := rfl
theorem lC_4 : layC[4]? = some (.inr (0, [some 32, some 33, some 34, some 35, some 36, some 37, some 38, some 39, none, none, none])) := rfl
theorem lC_5 : layC[5]? = some (.inr (8, [some 40, some 41, some 42, some 43, some 44, some 45, some 46, none, none])) := rfl
theorem lC_6 : layC[6]? = some (.inr (10, [none, none, none, none])) := rfl
theorem lC_7 : layC[7]? = some (.inr (5, [some 8, some 47, some 48])) := rfl
theorem lC_8 : layC[8]? = some (.inr (6, [some 49, some 50, some 51, some 52, some 53, some 54, some 55, some 56, none, none])) := rfl
theorem lC_9 : layC[9]? = some (.inr (9, [some 57, none, none, none])) := rfl
theorem lC_10 : layC[10]? = some (.inr (2, [some 58, some 59, some 60, none])) := rfl
theorem lC_11 : layC[11]? = some (.inr (7, [some 61, none])) := rfl
theorem lC_12 : layC[12]? = some (.inr (4, [some 62, some 63])) := rfl
theorem lC_13 : layC[13]? = some (.inl (0, 30)) := rfl
theorem lC_14 : layC[14]? = some (.inl (0, 30)) := rfl
theorem lC_15 : layC[15]? = some (.inl (0, 30)) := rfl
theorem lC_16 : layC[16]? = some (.inl (0, 30)) := rfl
theorem lC_17 : layC[17]? = some (.inl (0, 30)) := rfl
theorem lC_18 : layC[18]? = some (.inl (0, 30)) := rfl
theorem lC_19 : layC[19]? = some (.inl (0, 30)) := rfl
theorem lC_20 : layC[20]? = some (.inl (0, 30)) := rfl
theorem lC_21 : layC[21]? = some (.inl (0, 30)) := rfl
theorem lC_22 : layC[22]? = some (.inl (0, 30)) := rfl
theorem lC_23 : layC[23]? = some (.inl (0, 30)) := rfl
theorem lC_24 : layC[24]? = some (.inl (0, 30)) := rfl
theorem lC_25 : layC[25]? = some (.inl (0, 30)) := rfl
theorem lC_26 : layC[26]? = some (.inl (0, 360)) := rfl
theorem lC_27 : layC[27]? = some (.inl (0, 360)) := rfl
theorem lC_28 : layC[28]? = some (.inl (0, 4320)) := rfl
theorem lC_29 : layC[29]? = some (.inl (0, 30)) := rfl
theorem lC_30 : layC[30]? = some (.inl (0, 12)) := rfl
theorem lC_31 : layC[31]? = some (.inl (0, 12)) := rfl
theorem lC_32 : layC[32]? = some (.inl (0, 30)) := rfl
theorem lC_33 : layC[33]? = some (.inl (0, 12)) := rfl
theorem lC_34 : layC[34]? = some (.inl (0, 12)) := rfl
theorem lC_35 : layC[35]? = some (.inl (0, 12)) := rfl
theorem lC_36 : layC[36]? = some (.inl (0, 30)) := rfl
theorem lC_37 : layC[37]? = some (.inl (0, 12)) := rfl
theorem lC_38 : layC[38]? = some (.inl (0, 12)) := rfl
theorem lC_39 : layC[39]? = some (.inl (0, 12)) := rfl
theorem lC_40 : layC[40]? = some (.inl (0, 30)) := rfl
theorem lC_41 : layC[41]? = some (.inl (0, 30)) := rfl
theorem lC_42 : layC[42]? = some (.inl (0, 30)) := rfl
theorem lC_43 : layC[43]? = some (.inl (0, 360)) := rfl
theorem lC_44 : layC[44]? = some (.inl (0, 30)) := rfl
theorem lC_45 : layC[45]? = some (.inl (0, 12)) := rfl
theorem lC_46 : layC[46]? = some (.inl (0, 12)) := rfl
theorem lC_47 : layC[47]? = some (.inl (0, 12)) := rfl
theorem lC_48 : layC[48]? = some (.inl (0, 21)) := rfl
theorem lC_49 : layC[49]? = some (.inl (0, 108)) := rfl
theorem lC_50 : layC[50]? = some (.inl (0, 108)) := rfl
theorem lC_51 : layC[51]? = some (.inl (0, 108)) := rfl
theorem lC_52 : layC[52]? = some (.inl (0, 108)) := rfl
theorem lC_53 : layC[53]? = some (.inl (0, 108)) := rfl
theorem lC_54 : layC[54]? = some (.inl (0, 672)) := rfl
theorem lC_55 : layC[55]? = some (.inl (0, 672)) := rfl
theorem lC_56 : layC[56]? = some (.inl (0, 672)) := rfl
theorem lC_57 : layC[57]? = some (.inl (1, 90)) := rfl
theorem lC_58 : layC[58]? = some (.inl (0, 6)) := rfl
theorem lC_59 : layC[59]? = some (.inl (0, 6)) := rfl
theorem lC_60 : layC[60]? = some (.inl (0, 6)) := rfl
theorem lC_61 : layC[61]? = some (.inl (1, 510)) := rfl
theorem lC_62 : layC[62]? = some (.inl (0, 160)) := rfl
theorem lC_63 : layC[63]? = some (.inl (0, 4)) := rfl
def layM : List LE := [.inr (12, [some 1, some 2, none, some 3, some 4, some 5, some 6, none, some 7, some 8, some 9, some 10, some 11, some 12, some 13, some 14, none, none, none, some 15, some 16, some 17, some 18, some 19, some 20, none, some 21, some 22, some 23, none, none, none, none, none, none, some 24, none, some 25, some 26]),
  .inl (0, 183),
  .inl (0, 183),
  .inl (0, 30),
  .inl (0, 30),
  .inl (0, 12),
  .inl (0, 108),
  .inl (0, 400),
  .inl (0, 400),
  .inl (0, 4800),
  .inl (0, 12),
  .inl (0, 12),
  .inl (0, 12),
  .inl (0, 12),
  .inl (0, 12),
  .inl (0, 30),
  .inl (0, 30),
  .inl (2, 30),
  .inl (0, 360),
  .inl (0, 30),
  .inl (0, 13),
  .inl (0, 11664),
  .inl (0, 108),
  .inl (1, 90),
  .inl (0, 600),
  .inl (0, 4),
  .inl (0, 160)]
theorem lM_0 : layM[0]? = some (.inr (12, [some 1, some 2, none, some 3, some 4, some 5, some 6, none, some 7, some 8, some 9, some 10, some 11, some 12, some 13, some 14, none, none, none, some 15, some 16, some 17, some 18, some 19, some 20, none, some 21, some 22, some 23, none, none, none, none, none, none, some 24, none, some 25, some 26])) := rfl
theorem lM_1 : layM[1]? = some (.inl (0, 183)) := rfl
theorem lM_2 : layM[2]? = some (.inl (0, 183)) := rfl
theorem lM_3 : layM[3]? = some (.inl (0, 30)) := rfl
theorem lM_4 : layM[4]? = some (.inl (0, 30)) := rfl
theorem lM_5 : layM[5]? = some (.inl (0, 12)) := rfl
theorem lM_6 : layM[6]? = some (.inl (0, 108)) := rfl
theorem lM_7 : layM[7]? = some (.inl (0, 400)) := rfl
theorem lM_8 : layM[8]? = some (.inl (0, 400)) := rfl
theorem lM_9 : layM[9]? = some (.inl (0, 4800)) := rfl
theorem lM_10 : layM[10]? = some (.inl (0, 12)) := rfl
theorem lM_11 : layM[11]? = some (.inl (0, 12)) := rfl
theorem lM_12 : layM[12]? = some (.inl (0, 12)) := rfl
theorem lM_13 : layM[13]? = some (.inl (0, 12)) := rfl
theorem lM_14 : layM[14]? = some (.inl (0, 12)) := rfl
theorem lM_15 : layM[15]? = some (.inl (0, 30)) := rfl
theorem lM_16 : layM[16]? = some (.inl (0, 30)) := rfl
theorem lM_17 : layM[17]? = some (.inl (2, 30)) := rfl
theorem lM_18 : layM[18]? = some (.inl (0, 360)) := rfl
theorem lM_19 : layM[19]? = some (.inl (0, 30)) := rfl
theorem lM_20 : layM[20]? = some (.inl (0, 13)) := rfl
theorem lM_21 : layM[21]? = some (.inl (0, 11664)) := rfl
theorem lM_22 : layM[22]? = some (.inl (0, 108)) := rfl
theorem lM_23 : layM[23]? = some (.inl (1, 90)) := rfl
theorem lM_24 : layM[24]? = some (.inl (0, 600)) := rfl
theorem lM_25 : layM[25]? = some (.inl (0, 4)) := rfl
theorem lM_26 : layM[26]? = some (.inl (0, 160)) := rfl
theorem uw_0 : ∀ w ∈ u_ws RX0 TX0 11, w ∈ TB := tb_r [283, 285, 287, 289, 291, 293, 295, 297, 299, 301, 303] (by decide +kernel)
theorem uw_1 : ∀ w ∈ u_ws RX1 TX1 11, w ∈ TB := tb_r [238, 240, 242, 244, 246, 248, 250, 252, 254, 256, 258] (by decide +kernel)
theorem uw_2 : ∀ w ∈ u_ws RX2 TX2 4, w ∈ TB := tb_r [457, 459, 461, 463] (by decide +kernel)
theorem uw_3 : ∀ w ∈ u_ws RX3 TX3 9, w ∈ TB := tb_r [191, 193, 195, 197, 199, 201, 203, 205, 207] (by decide +kernel)
theorem uw_4 : ∀ w ∈ u_ws RX4 TX4 2, w ∈ TB := tb_r [492, 494] (by decide +kernel)
theorem uw_5 : ∀ w ∈ u_ws RX5 TX5 3, w ∈ TB := tb_r [392, 394, 396] (by decide +kernel)
theorem uw_6 : ∀ w ∈ u_ws RX6 TX6 10, w ∈ TB := tb_r [368, 370, 372, 374, 376, 378, 380, 382, 384, 386] (by decide +kernel)
theorem uw_7 : ∀ w ∈ u_ws RX7 TX7 2, w ∈ TB := tb_r [476, 478] (by decide +kernel)
theorem uw_8 : ∀ w ∈ u_ws RX8 TX8 9, w ∈ TB := tb_r [327, 329, 331, 333, 335, 337, 339, 341, 343] (by decide +kernel)
theorem uw_9 : ∀ w ∈ u_ws RX9 TX9 4, w ∈ TB := tb_r [437, 439, 441, 443] (by decide +kernel)
theorem uw_10 : ∀ w ∈ u_ws RX10 TX10 4, w ∈ TB := tb_r [413, 415, 417, 419] (by decide +kernel)
theorem uw_11 : ∀ w ∈ u_ws RX11 TX11 16, w ∈ TB := tb_r [513, 515, 517, 519, 521, 523, 525, 527, 529, 531, 533, 535, 537, 539, 541, 543] (by decide +kernel)
theorem uw_12 : ∀ w ∈ u_ws RX12 TX12 39, w ∈ TB := tb_r [1258, 1260, 1262, 1264, 1266, 1268, 1270, 1272, 1274, 1276, 1278, 1280, 1282, 1284, 1286, 1288, 1290, 1292, 1294, 1296, 1298, 1300, 1302, 1304, 1306, 1308, 1310, 1312, 1314, 1316, 1318, 1320, 1322, 1324, 1326, 1328, 1330, 1332, 1334] (by decide +kernel)
end
section
def mi_fill : MI := (cJ7_fill_53178, RJ7, 4, 1, none, 0)
def mi_fill4 : MI := (cJ7_fill_fda19, RJ7, 5, 3, none, 0)
def mi_rangeCheck : MI := (cJ7_rangeCheck_23922, RJ7, 3, 1, none, 0)
def mi_bitCount : MI := (cJ6_bitCount_0f7a4, RJ6, 1, 1, (some .int), 1)
def mi_Slength : MI := (cJ0_length_8abf5, RJ0, 1, 7, (some .int), 1)
def mi_ScharAt : MI := (cJ0_charAt_5068e, RJ0, 2, 7, (some .char), 1)
def mi_coder : MI := (cJ0_coder_7d493, RJ0, 1, 1, (some .byte), 1)
def mi_isLatin1 : MI := (cJ0_isLatin1_aae02, RJ0, 1, 1, (some .boolean), 1)
def mi_L1charAt : MI := (cJ1_charAt_3b067, RJ1, 2, 4, (some .char), 1)
def mi_ScheckIndex : MI := (cJ0_checkIndex_df160, RJ0, 2, 2, none, 0)
def mi_PcheckIndex : MI := (cJ3_checkIndex_8e157, RJ3, 3, 1, (some .int), 1)
theorem nm_bitCount : ynm yJ6_bitCount_0f7a4 1 := ⟨⟨by decide +kernel, by decide +kernel⟩, by decide +kernel⟩
theorem nm_fill : ynm yJ7_fill_53178 2 := ⟨⟨by decide +kernel, by decide +kernel⟩, by decide +kernel⟩
theorem nm_fill4 : ynm yJ7_fill_fda19 4 := ⟨⟨by decide +kernel, by decide +kernel⟩, by decide +kernel⟩
theorem nm_rangeCheck : ynm yJ7_rangeCheck_23922 3 := ⟨⟨by decide +kernel, by decide +kernel⟩, by decide +kernel⟩
theorem nm_Slength : ynm yJ0_length_8abf5 0 := ⟨⟨by decide +kernel, by decide +kernel⟩, by decide +kernel⟩
theorem nm_ScharAt : ynm yJ0_charAt_5068e 1 := ⟨⟨by decide +kernel, by decide +kernel⟩, by decide +kernel⟩
theorem nm_coder : ynm yJ0_coder_7d493 0 := ⟨⟨by decide +kernel, by decide +kernel⟩, by decide +kernel⟩
theorem nm_isLatin1 : ynm yJ0_isLatin1_aae02 0 := ⟨⟨by decide +kernel, by decide +kernel⟩, by decide +kernel⟩
theorem nm_L1charAt : ynm yJ1_charAt_3b067 2 := ⟨⟨by decide +kernel, by decide +kernel⟩, by decide +kernel⟩
theorem nm_ScheckIndex : ynm yJ0_checkIndex_df160 2 := ⟨⟨by decide +kernel, by decide +kernel⟩, by decide +kernel⟩
theorem nm_PcheckIndex : ynm yJ3_checkIndex_8e157 3 := ⟨⟨by decide +kernel, by decide +kernel⟩, by decide +kernel⟩
theorem cw_RJ7_13 : CWS RJ7 13 yJ7_rangeCheck_23922 mi_rangeCheck := tb_r [777, 778, 109, 779] (by decide +kernel)
theorem cw_RJ0_335 : CWV RJ0 335 yJ0_coder_7d493 mi_coder := tb_r [1024, 1025, 1026, 113, 1027] (by decide +kernel)
theorem cw_RJ0_492 : CWV RJ0 492 yJ0_isLatin1_aae02 mi_isLatin1 := tb_r [1034, 1035, 1036, 113, 1037] (by decide +kernel)
theorem cw_RJ0_495 : CWS RJ0 495 yJ1_charAt_3b067 mi_L1charAt := tb_r [1038, 1039, 114, 1040] (by decide +kernel)
theorem cw_RJ1_9 : CWS RJ1 9 yJ0_checkIndex_df160 mi_ScheckIndex := tb_r [1041, 1042, 113, 1043] (by decide +kernel)
theorem cw_RJ0_1059 : CWS RJ0 1059 yJ3_checkIndex_8e157 mi_PcheckIndex := tb_r [1046, 1047, 115, 1048] (by decide +kernel)
theorem fl_RJ0_38 : Cond.fieldLink RJ0 38 "java/lang/String" "COMPACT_STRINGS" "Z" ∈ TB := tb_1 1028 (by decide +kernel)
theorem fl_RJ0_9 : Cond.fieldLink RJ0 9 "java/lang/String" "value" "[B" ∈ TB := tb_1 1748 (by decide +kernel)
theorem fl_RJ0_15 : Cond.fieldLink RJ0 15 "java/lang/String" "coder" "B" ∈ TB := tb_1 1749 (by decide +kernel)
theorem fl_RJ0_1053 : Cond.fieldLink RJ0 1053 "jdk/internal/util/Preconditions" "SIOOBE_FORMATTER" "Ljava/util/function/BiFunction;" ∈ TB := tb_1 1044 (by decide +kernel)
theorem kw_RJ6_265 : Cond.constant RJ6 265 (iz 1431655765) ∈ TB := tb_1 1094 (by decide +kernel)
theorem kw_RJ6_266 : Cond.constant RJ6 266 (iz 858993459) ∈ TB := tb_1 1095 (by decide +kernel)
theorem kw_RJ6_267 : Cond.constant RJ6 267 (iz 252645135) ∈ TB := tb_1 1096 (by decide +kernel)
/-- what bitCount's instructions make of a number -/
def ibits1 (a : Int) : Int := a - iand (iushr a 1) 1431655765
def ibits2 (a : Int) : Int := iand (ibits1 a) 858993459 + iand (iushr (ibits1 a) 2) 858993459
def ibits3 (a : Int) : Int := iand (ibits2 a + iushr (ibits2 a) 4) 252645135
def ibits4 (a : Int) : Int := ibits3 a + iushr (ibits3 a) 8
def ibits5 (a : Int) : Int := ibits4 a + iushr (ibits4 a) 16
def ibits (a : Int) : Int := iand (ibits5 a) 63
def slen (k : Nat) : Int := (kLen.getD k 0 : Nat)
def schr (k i : Nat) : Int := ((kByt.getD k []).getD i 0).toInt
theorem Rg_schr (k i : Nat) : Rg (schr k i) := Rg_of _
theorem slen_all : ∀ k, k < 9 → Rg (slen k) ∧ slen k ≤ 100 ∧ ishr (slen k) 0 = slen k := by decide +kernel
theorem schr_all : ∀ k, k < 9 → ∀ i, i < kLen.getD k 0 → 0 ≤ schr k i ∧ schr k i < 128 ∧ iand (schr k i) 255 = schr k i := by decide +kernel
theorem Rg_slen {k : Nat} (h : k < 9) : Rg (slen k) := (slen_all k h).1
section JdkE
variable {lay : List LE} {E : EV} {M : MI} {Φ : Int → PS → Prop} {pc : Nat} {lv lv' : List (Option Value)} {st : List Value} {σ : PS} {x : CX}
theorem r_eok (k : eOK lay E → RW lay E M Φ pc lv st σ x) : RW lay E M Φ pc lv st σ x := by
  obtain ⟨p, e, R, s, m, args, below, meth, c⟩ := x
  intro ok hσ
  obtain ⟨hx, hb, hml, hown, hts, hK, hE, -⟩ := id ok
  exact k hE ok hσ
theorem st_ldcwS {p : Program} {l : Launch} {e : Env} {R : Room} {s : State} {m : MethodId} {args : Array Value} {below : List Frame} {meth : Method} {c : Code} {T : State} {locs : List Loc} {cells slots : Nat}
    (X : Stand p l e R s m args below meth c T locs cells slots) (hexec : p.tables.exec = Jvm.exec) {own text : String} {index : Nat} {a : Addr} (hown : s.vm.findClass own = some m.cls)
    (hconst : (Cond.stringRef own index text).before args s = true) (hev : (Term.string own index).eval args s none [] s = some (.ref a)) {g : JFrame} (hg : g.method = m) (hdg : decode c.code g.pc = .ok (.ldc_w index, 3)) :
    ∀ target, Steps p.tables e below (T.setTop { g with pc := g.pc + 3, stack := .ref a :: g.stack }) target → Steps p.tables e below (T.setTop g) target := by
  obtain ⟨k, cf, i, a', hk, hcf, hcp, -, hr, hev'⟩ := Cond.stringRef_spec hown hconst
  cases hev.symm.trans hev'
  obtain ⟨k', hk', he⟩ := X.warmed.alike.2.2 _ _ hk
  have hr' : k'.resolved[index]? = some (some (.string a)) := by
    rcases X.warmed.entry hk hk' index with h | ⟨h, -⟩
    · rw [h]; exact hr
    · rw [hr] at h; cases h
  intro target hrest
  subst hg
  jvm_step X.here [hexec, hdg, ldc_w.wp_string (e := e) (s := T) (f := g) X.here.top hk' (by rw [he]; exact hcf) hcp hr']
  exact hrest
theorem r_ldcwS {i q : Nat} {tx : String} (d : decode M.1 pc = .ok (.ldc_w i, 3)) (hw : (M.2.1, i, tx, q) ∈ kRef) (k : RW lay E M Φ (pc + 3) lv (.ref (eS E q) :: st) σ x) : RW lay E M Φ pc lv st σ x := by
  obtain ⟨p, e, R, s, m, args, below, meth, c⟩ := x
  intro ok hσ H locs ls hP hS hl
  obtain ⟨hx, hb, -, hown, -, -, -, hE, -⟩ := id ok
  intro T hT X
  obtain ⟨t, a1, b1⟩ := k ok hσ H locs ls hP hS hl T hT X
  have hZ := hE.2.1 _ hw
  exact ⟨t, st_ldcwS X hx hown (text := tx) (a := eS E q) hZ.1 hZ.2 (g := F0 m pc ls st) rfl (by rw [hb]; exact d) t a1, b1⟩
end JdkE
section JdkA
variable {lay : List LE} {E : EV} {M : MI} {Φ : Int → PS → Prop} {pc : Nat} {lv lv' : List (Option Value)} {st st0 : List Value} {σ : PS} {x : CX}
theorem C_bitCount (hE : eOK lay E) (a : Int) (ra : Rg a) (σ : PS) (hs : RS σ) : CT lay E yJ6_bitCount_0f7a4 mi_bitCount [.int (iz a)] σ (fun z σ1 => z = ibits a ∧ σ1 = σ) := by
  refine ct_of (by decide +kernel) rfl hE rfl rfl hs (fun x => ?_)
  show RW lay E mi_bitCount _ 0 [some (.int (iz a))] [] σ x
  refine r_iloadn (dc D_cJ6_bitCount_0f7a4_0 0 rfl) rfl rfl ?_
  refine r_iloadn (dc D_cJ6_bitCount_0f7a4_0 1 rfl) rfl rfl ?_
  refine r_iconst (dc D_cJ6_bitCount_0f7a4_0 2 rfl) ?_
  refine r_iushr (dc D_cJ6_bitCount_0f7a4_0 3 rfl) ?_
  refine r_ldcw (n := 1431655765) (dc D_cJ6_bitCount_0f7a4_0 4 rfl) kw_RJ6_265 ?_
  refine r_iand (dc D_cJ6_bitCount_0f7a4_0 5 rfl) ?_
  refine r_isub (dc D_cJ6_bitCount_0f7a4_0 6 rfl) ?_
  refine r_istoren (lv' := [some (.int (iz (ibits1 a)))]) (dc D_cJ6_bitCount_0f7a4_0 7 rfl) rfl rfl rfl ?_
  refine r_iloadn (dc D_cJ6_bitCount_0f7a4_0 8 rfl) rfl rfl ?_
  refine r_ldcw (n := 858993459) (dc D_cJ6_bitCount_0f7a4_0 9 rfl) kw_RJ6_266 ?_
  refine r_iand (dc D_cJ6_bitCount_0f7a4_0 10 rfl) ?_
  refine r_iloadn (dc D_cJ6_bitCount_0f7a4_0 11 rfl) rfl rfl ?_
  refine r_iconst (dc D_cJ6_bitCount_0f7a4_0 12 rfl) ?_
  refine r_iushr (dc D_cJ6_bitCount_0f7a4_0 13 rfl) ?_
  refine r_ldcw (n := 858993459) (dc D_cJ6_bitCount_0f7a4_0 14 rfl) kw_RJ6_266 ?_
  refine r_iand (dc D_cJ6_bitCount_0f7a4_0 15 rfl) ?_
  refine r_iadd (dc D_cJ6_bitCount_0f7a4_0 16 rfl) ?_
  refine r_istoren (lv' := [some (.int (iz (ibits2 a)))]) (dc D_cJ6_bitCount_0f7a4_0 17 rfl) rfl rfl rfl ?_
  refine r_iloadn (dc D_cJ6_bitCount_0f7a4_0 18 rfl) rfl rfl ?_
  refine r_iloadn (dc D_cJ6_bitCount_0f7a4_0 19 rfl) rfl rfl ?_
  refine r_iconst (dc D_cJ6_bitCount_0f7a4_0 20 rfl) ?_
  refine r_iushr (dc D_cJ6_bitCount_0f7a4_0 21 rfl) ?_
  refine r_iadd (dc D_cJ6_bitCount_0f7a4_0 22 rfl) ?_
  refine r_ldcw (n := 252645135) (dc D_cJ6_bitCount_0f7a4_0 23 rfl) kw_RJ6_267 ?_
  refine r_iand (dc D_cJ6_bitCount_0f7a4_0 24 rfl) ?_
  refine r_istoren (lv' := [some (.int (iz (ibits3 a)))]) (dc D_cJ6_bitCount_0f7a4_0 25 rfl) rfl rfl rfl ?_
  refine r_iloadn (dc D_cJ6_bitCount_0f7a4_0 26 rfl) rfl rfl ?_
  refine r_iloadn (dc D_cJ6_bitCount_0f7a4_0 27 rfl) rfl rfl ?_
  refine r_bipush (n := 8) (dc D_cJ6_bitCount_0f7a4_0 28 rfl) (by decide +kernel) ?_
  refine r_iushr (dc D_cJ6_bitCount_0f7a4_0 29 rfl) ?_
  refine r_iadd (dc D_cJ6_bitCount_0f7a4_0 30 rfl) ?_
  refine r_istoren (lv' := [some (.int (iz (ibits4 a)))]) (dc D_cJ6_bitCount_0f7a4_0 31 rfl) rfl rfl rfl ?_
  refine r_iloadn (dc D_cJ6_bitCount_0f7a4_0 32 rfl) rfl rfl ?_
  refine r_iloadn (dc D_cJ6_bitCount_0f7a4_0 33 rfl) rfl rfl ?_
  refine r_bipush (n := 16) (dc D_cJ6_bitCount_0f7a4_0 34 rfl) (by decide +kernel) ?_
  refine r_iushr (dc D_cJ6_bitCount_0f7a4_0 35 rfl) ?_
  refine r_iadd (dc D_cJ6_bitCount_0f7a4_0 36 rfl) ?_
  refine r_istoren (lv' := [some (.int (iz (ibits5 a)))]) (dc D_cJ6_bitCount_0f7a4_0 37 rfl) rfl rfl rfl ?_
  refine r_iloadn (dc D_cJ6_bitCount_0f7a4_0 38 rfl) rfl rfl ?_
  refine r_bipush (n := 63) (dc D_cJ6_bitCount_0f7a4_0 39 rfl) (by decide +kernel) ?_
  refine r_iand (dc D_cJ6_bitCount_0f7a4_1 0 rfl) ?_
  exact r_iret (dc D_cJ6_bitCount_0f7a4_1 1 rfl) rfl (Rg_of _) ⟨rfl, rfl⟩
theorem fill_loop {k n : Nat} {v : Int} (hk : lay[k]? = some (.inl (0, n))) (hn : n ≤ 1000000) (hv : Rg v) (hΦ : Φ 0 (fl2 σ k 0 n v)) (f : Nat) : ∀ j : Nat, j ≤ n → n - j ≤ f → RW lay E mi_fill Φ 5 [some (.ref (eA E k)), some (.int (iz v)), some (.int (iz (j : Int))), some (.int (iz (n : Int)))] [] (fl2 σ k 0 j v) x := by
  induction f with
  | zero =>
    intro j h1 h2
    have e0 : j = n := by omega
    subst e0
    refine r_iloadn (dc D_cJ7_fill_53178_0 5 rfl) rfl rfl ?_
    refine r_iloadn (dc D_cJ7_fill_53178_0 6 rfl) rfl rfl ?_
    refine r_icmp_ge (tgt := 20) (dc D_cJ7_fill_53178_0 7 rfl) (by decide) ⟨by omega, by omega⟩ ⟨by omega, by omega⟩ (fun _ => ?_) (fun c => absurd (Int.le_refl _) c)
    exact r_vret (dc D_cJ7_fill_53178_0 14 rfl) rfl hΦ
  | succ f ih =>
    intro j h1 h2
    refine r_iloadn (dc D_cJ7_fill_53178_0 5 rfl) rfl rfl ?_
    refine r_iloadn (dc D_cJ7_fill_53178_0 6 rfl) rfl rfl ?_
    refine r_icmp_ge (tgt := 20) (dc D_cJ7_fill_53178_0 7 rfl) (by decide) ⟨by omega, by omega⟩ ⟨by omega, by omega⟩ (fun c => ?_) (fun c => ?_)
    · have e0 : j = n := by omega
      subst e0
      exact r_vret (dc D_cJ7_fill_53178_0 14 rfl) rfl hΦ
    · refine r_aloadn (dc D_cJ7_fill_53178_0 8 rfl) rfl rfl ?_
      refine r_iloadn (dc D_cJ7_fill_53178_0 9 rfl) rfl rfl ?_
      refine r_iloadn (dc D_cJ7_fill_53178_0 10 rfl) rfl rfl ?_
      refine r_iast (N := (n : Int)) (dc D_cJ7_fill_53178_0 11 rfl) hk rfl (Nat.ble_eq.mpr hn) ⟨by omega, by omega⟩ hv ?_
      refine r_iinc (lv' := [some (.ref (eA E k)), some (.int (iz v)), some (.int (iz ((j : Int) + 1))), some (.int (iz (n : Int)))]) (dc D_cJ7_fill_53178_0 12 rfl) rfl rfl rfl ?_
      refine r_goto (tgt := 5) (dc D_cJ7_fill_53178_0 13 rfl) (by decide) ?_
      have e1 : up2 (fl2 σ k 0 j v) k ((j : Int).toNat) v = fl2 σ k 0 (j + 1) v := fl2_s (Nat.zero_le j)
      rw [e1]
      exact ih (j + 1) (by omega) (by omega)
theorem C_fill (hE : eOK lay E) {k n : Nat} {v : Int} (hk : lay[k]? = some (.inl (0, n))) (hn : n ≤ 1000000) (hv : Rg v) (σ : PS) (hs : RS σ) : CT lay E yJ7_fill_53178 mi_fill [.ref (eA E k), .int (iz v)] σ (fun _ σ1 => σ1 = fl2 σ k 0 n v) := by
  refine ct_of (by decide +kernel) rfl hE rfl rfl hs (fun x => ?_)
  show RW lay E mi_fill _ 0 [some (.ref (eA E k)), some (.int (iz v)), none, none] [] σ x
  refine r_iconst (dc D_cJ7_fill_53178_0 0 rfl) ?_
  refine r_istoren (lv' := [some (.ref (eA E k)), some (.int (iz v)), some (.int (iz 0)), none]) (dc D_cJ7_fill_53178_0 1 rfl) rfl rfl rfl ?_
  refine r_aloadn (dc D_cJ7_fill_53178_0 2 rfl) rfl rfl ?_
  refine r_alen (N := (n : Int)) (dc D_cJ7_fill_53178_0 3 rfl) hk rfl rfl ?_
  refine r_istoren (lv' := [some (.ref (eA E k)), some (.int (iz v)), some (.int (iz 0)), some (.int (iz (n : Int)))]) (dc D_cJ7_fill_53178_0 4 rfl) rfl rfl rfl ?_
  have h := fill_loop (E := E) (x := x) (σ := σ) (Φ := fun _ σ1 => σ1 = fl2 σ k 0 n v) hk hn hv rfl n 0 (Nat.zero_le _) (Nat.le_refl _)
  rw [fl2_0] at h
  exact h
theorem r_fill {idx k n : Nat} {v : Int} (d : decode M.1 pc = .ok (.invokestatic idx, 3)) (cw : CWS M.2.1 idx yJ7_fill_53178 mi_fill) (hk : lay[k]? = some (.inl (0, n))) (hn : Nat.ble n 1000000 = true) (hv : Rg v) (hlv : 2 ≤ M.2.2.2.1) (hcat : Nat.ble ((st.map fun v => v.category).sum) 8 = true) (kk : RW lay E M Φ (pc + 3) lv st (fl2 σ k 0 n v) x) : RW lay E M Φ pc lv (.int (iz v) :: .ref (eA E k) :: st) σ x := by
  refine r_eok (fun hE => r_rs (fun hs => ?_))
  exact r_callS (As := [.ref (eA E k), .int (iz v)]) d cw nm_fill (C_fill hE hk (Nat.le_of_ble_eq_true hn) hv σ hs) rfl hlv rfl rfl hcat (fun z σ1 _ _ e => by rw [e]; exact kk)
theorem C_rangeCheck (hE : eOK lay E) {lo hi N : Int} (rlo : Rg lo) (rhi : Rg hi) (rN : Rg N) (h : 0 ≤ lo ∧ lo ≤ hi ∧ hi ≤ N) (σ : PS) (hs : RS σ) : CT lay E yJ7_rangeCheck_23922 mi_rangeCheck [.int (iz N), .int (iz lo), .int (iz hi)] σ (fun _ σ1 => σ1 = σ) := by
  refine ct_of (by decide +kernel) rfl hE rfl rfl hs (fun x => ?_)
  show RW lay E mi_rangeCheck _ 0 [some (.int (iz N)), some (.int (iz lo)), some (.int (iz hi))] [] σ x
  refine r_iloadn (dc D_cJ7_rangeCheck_23922_0 0 rfl) rfl rfl ?_
  refine r_iloadn (dc D_cJ7_rangeCheck_23922_0 1 rfl) rfl rfl ?_
  refine r_icmp_le (tgt := 46) (dc D_cJ7_rangeCheck_23922_0 2 rfl) (by decide) rlo rhi (fun _ => ?_) (fun c => absurd h.2.1 c)
  refine r_iloadn (dc D_cJ7_rangeCheck_23922_0 21 rfl) rfl rfl ?_
  refine r_if_ge (tgt := 59) (dc D_cJ7_rangeCheck_23922_0 22 rfl) (by decide) rlo (fun _ => ?_) (fun c => absurd h.1 c)
  refine r_iloadn (dc D_cJ7_rangeCheck_23922_0 28 rfl) rfl rfl ?_
  refine r_iloadn (dc D_cJ7_rangeCheck_23922_0 29 rfl) rfl rfl ?_
  refine r_icmp_le (tgt := 73) (dc D_cJ7_rangeCheck_23922_0 30 rfl) (by decide) rhi rN (fun _ => ?_) (fun c => absurd h.2.2 c)
  exact r_vret (dc D_cJ7_rangeCheck_23922_0 36 rfl) rfl rfl
theorem fill4_loop {k n : Nat} {lo hi : Nat} {v : Int} (hk : lay[k]? = some (.inl (0, n))) (hn : n ≤ 1000000) (hv : Rg v) (hh : hi ≤ n) (hΦ : Φ 0 (fl2 σ k lo hi v)) (f : Nat) : ∀ j : Nat, lo ≤ j → j ≤ hi → hi - j ≤ f → RW lay E mi_fill4 Φ 10 [some (.ref (eA E k)), some (.int (iz (lo : Int))), some (.int (iz (hi : Int))), some (.int (iz v)), some (.int (iz (j : Int)))] [] (fl2 σ k lo j v) x := by
  induction f with
  | zero =>
    intro j h0 h1 h2
    have e0 : j = hi := by omega
    subst e0
    refine r_iload (dc D_cJ7_fill_fda19_0 7 rfl) rfl ?_
    refine r_iloadn (dc D_cJ7_fill_fda19_0 8 rfl) rfl rfl ?_
    refine r_icmp_ge (tgt := 27) (dc D_cJ7_fill_fda19_0 9 rfl) (by decide) ⟨by omega, by omega⟩ ⟨by omega, by omega⟩ (fun _ => ?_) (fun c => absurd (Int.le_refl _) c)
    exact r_vret (dc D_cJ7_fill_fda19_0 16 rfl) rfl hΦ
  | succ f ih =>
    intro j h0 h1 h2
    refine r_iload (dc D_cJ7_fill_fda19_0 7 rfl) rfl ?_
    refine r_iloadn (dc D_cJ7_fill_fda19_0 8 rfl) rfl rfl ?_
    refine r_icmp_ge (tgt := 27) (dc D_cJ7_fill_fda19_0 9 rfl) (by decide) ⟨by omega, by omega⟩ ⟨by omega, by omega⟩ (fun c => ?_) (fun c => ?_)
    · have e0 : j = hi := by omega
      subst e0
      exact r_vret (dc D_cJ7_fill_fda19_0 16 rfl) rfl hΦ
    · refine r_aloadn (dc D_cJ7_fill_fda19_0 10 rfl) rfl rfl ?_
      refine r_iload (dc D_cJ7_fill_fda19_0 11 rfl) rfl ?_
      refine r_iloadn (dc D_cJ7_fill_fda19_0 12 rfl) rfl rfl ?_
      refine r_iast (N := (n : Int)) (dc D_cJ7_fill_fda19_0 13 rfl) hk rfl (Nat.ble_eq.mpr hn) ⟨by omega, by omega⟩ hv ?_
      refine r_iinc (lv' := [some (.ref (eA E k)), some (.int (iz (lo : Int))), some (.int (iz (hi : Int))), some (.int (iz v)), some (.int (iz ((j : Int) + 1)))]) (dc D_cJ7_fill_fda19_0 14 rfl) rfl rfl rfl ?_
      refine r_goto (tgt := 10) (dc D_cJ7_fill_fda19_0 15 rfl) (by decide) ?_
      have e1 : up2 (fl2 σ k lo j v) k ((j : Int).toNat) v = fl2 σ k lo (j + 1) v := fl2_s h0
      rw [e1]
      exact ih (j + 1) (by omega) (by omega) (by omega)
theorem C_fill4 (hE : eOK lay E) {k n : Nat} {lo hi : Nat} {v : Int} (hk : lay[k]? = some (.inl (0, n))) (hn : n ≤ 1000000) (hv : Rg v) (h1 : lo ≤ hi) (h2 : hi ≤ n) (σ : PS) (hs : RS σ) : CT lay E yJ7_fill_fda19 mi_fill4 [.ref (eA E k), .int (iz (lo : Int)), .int (iz (hi : Int)), .int (iz v)] σ (fun _ σ1 => σ1 = fl2 σ k lo hi v) := by
  refine ct_of (by decide +kernel) rfl hE rfl rfl hs (fun x => ?_)
  show RW lay E mi_fill4 _ 0 [some (.ref (eA E k)), some (.int (iz (lo : Int))), some (.int (iz (hi : Int))), some (.int (iz v)), none] [] σ x
  refine r_aloadn (dc D_cJ7_fill_fda19_0 0 rfl) rfl rfl ?_
  refine r_alen (N := (n : Int)) (dc D_cJ7_fill_fda19_0 1 rfl) hk rfl rfl ?_
  refine r_iloadn (dc D_cJ7_fill_fda19_0 2 rfl) rfl rfl ?_
  refine r_iloadn (dc D_cJ7_fill_fda19_0 3 rfl) rfl rfl ?_
  refine r_callS (As := [.int (iz (n : Int)), .int (iz (lo : Int)), .int (iz (hi : Int))]) (st := []) (dc D_cJ7_fill_fda19_0 4 rfl) cw_RJ7_13 nm_rangeCheck (C_rangeCheck hE ⟨by omega, by omega⟩ ⟨by omega, by omega⟩ ⟨by omega, by omega⟩ ⟨by omega, by omega, by omega⟩ σ hs) rfl (by decide) rfl rfl rfl (fun z σ1 _ _ e => ?_)
  rw [e]
  show RW lay E mi_fill4 _ 7 [some (.ref (eA E k)), some (.int (iz (lo : Int))), some (.int (iz (hi : Int))), some (.int (iz v)), none] [] σ x
  refine r_iloadn (dc D_cJ7_fill_fda19_0 5 rfl) rfl rfl ?_
  refine r_istore (lv' := [some (.ref (eA E k)), some (.int (iz (lo : Int))), some (.int (iz (hi : Int))), some (.int (iz v)), some (.int (iz (lo : Int)))]) (dc D_cJ7_fill_fda19_0 6 rfl) rfl rfl ?_
  have h := fill4_loop (E := E) (x := x) (σ := σ) (lo := lo) (Φ := fun _ σ1 => σ1 = fl2 σ k lo hi v) hk hn hv h2 rfl (hi - lo) lo (Nat.le_refl _) h1 (Nat.le_refl _)
  rw [fl2_0] at h
  exact h
theorem r_fill4 {idx k n : Nat} {lo hi v N : Int} (d : decode M.1 pc = .ok (.invokestatic idx, 3)) (cw : CWS M.2.1 idx yJ7_fill_fda19 mi_fill4) (hk : lay[k]? = some (.inl (0, n))) (hN : (n : Int) = N) (hn : Nat.ble n 1000000 = true) (rlo : Rg lo) (rhi : Rg hi) (hv : Rg v) (h : 0 ≤ lo ∧ lo ≤ hi ∧ hi ≤ N) (hlv : 4 ≤ M.2.2.2.1) (hcat : Nat.ble ((st.map fun v => v.category).sum) 8 = true) (kk : RW lay E M Φ (pc + 3) lv st (fl2 σ k lo.toNat hi.toNat v) x) : RW lay E M Φ pc lv (.int (iz v) :: .int (iz hi) :: .int (iz lo) :: .ref (eA E k) :: st) σ x := by
  refine r_eok (fun hE => r_rs (fun hs => ?_))
  obtain ⟨lo, rfl⟩ : ∃ z : Nat, lo = (z : Int) := ⟨lo.toNat, by omega⟩
  obtain ⟨hi, rfl⟩ : ∃ z : Nat, hi = (z : Int) := ⟨hi.toNat, by omega⟩
  exact r_callS (As := [.ref (eA E k), .int (iz (lo : Int)), .int (iz (hi : Int)), .int (iz v)]) d cw nm_fill4 (C_fill4 hE hk (Nat.le_of_ble_eq_true hn) hv (by omega) (by omega) σ hs) rfl hlv rfl rfl hcat (fun z σ1 _ _ e => by rw [e]; exact kk)
end JdkA
section JdkS
variable {lay : List LE} {E : EV} {M M2 : MI} {Φ : Int → PS → Prop} {pc : Nat} {lv lv' : List (Option Value)} {st st0 : List Value} {σ : PS} {x : CX}
theorem r_nret {a : Int} {ty : FieldType} (d : decode M.1 pc = .ok (.ireturn, 1)) (hM : M.2.2.2.2 = (some ty, 1)) (hn : narrow ty (.int (iz a)) = .int (iz a)) (ha : Rg a) (h : Φ a σ) : RW lay E M Φ pc lv [.int (iz a)] σ x := by
  obtain ⟨p, e, R, s, m, args, below, meth, c⟩ := x
  intro ok hσ H locs ls hP hS hl
  obtain ⟨hx, hb, hml, hown, hts, hK, hE, hV, hlk, hr, -⟩ := id ok
  rw [hM] at hr ⊢
  exact W.zret hx hb hr hn (fun t ht _ => ⟨a, σ, rfl, by rw [ht]; exact hP, hσ, ha, h, hS.F ht⟩) (fun q hq => hS.2.2 q hq) d hlk
theorem r_gcs (d : decode M.1 pc = .ok (.getstatic 38, 3)) (hM : M.2.1 = RJ0) (k : RW lay E M Φ (pc + 3) lv (.int (iz 1) :: st) σ x) : RW lay E M Φ pc lv st σ x := by
  obtain ⟨p, e, R, s, m, args, below, meth, c⟩ := x
  intro ok hσ H locs ls hP hS hl
  obtain ⟨hx, hb, hml, hown, hts, hK, hE, hV, hlk, hr, -⟩ := id ok
  rw [hM] at hown
  exact va_gets hx hb hV.2.2.2.1 hS hown (hts _ fl_RJ0_38) (fun _ h => h) d (k ok hσ H locs ls hP hS hl)
theorem r_sval {q : Nat} (hq : q < 9) (d : decode M.1 pc = .ok (.getfield 9, 3)) (hM : M.2.1 = RJ0) (k : RW lay E M Φ (pc + 3) lv (.ref (eV E q) :: st) σ x) : RW lay E M Φ pc lv (.ref (eS E q) :: st) σ x := by
  obtain ⟨p, e, R, s, m, args, below, meth, c⟩ := x
  intro ok hσ H locs ls hP hS hl
  obtain ⟨hx, hb, hml, hown, hts, hK, hE, hV, hlk, hr, -⟩ := id ok
  rw [hM] at hown
  exact vk_getf hx hb (hV.1.1 q hq).2.2.1 hS hown (hts _ fl_RJ0_9) (fun _ h => h) d (k ok hσ H locs ls hP hS hl)
theorem r_scod {q : Nat} (hq : q < 9) (d : decode M.1 pc = .ok (.getfield 15, 3)) (hM : M.2.1 = RJ0) (k : RW lay E M Φ (pc + 3) lv (.int (iz 0) :: st) σ x) : RW lay E M Φ pc lv (.ref (eS E q) :: st) σ x := by
  obtain ⟨p, e, R, s, m, args, below, meth, c⟩ := x
  intro ok hσ H locs ls hP hS hl
  obtain ⟨hx, hb, hml, hown, hts, hK, hE, hV, hlk, hr, -⟩ := id ok
  rw [hM] at hown
  exact vk_getf hx hb (hV.1.1 q hq).2.1 hS hown (hts _ fl_RJ0_15) (fun _ h => h) d (k ok hσ H locs ls hP hS hl)
theorem r_slenA {q : Nat} (hq : q < 9) (d : decode M.1 pc = .ok (.arraylength, 1)) (k : RW lay E M Φ (pc + 1) lv (.int (iz (slen q)) :: st) σ x) : RW lay E M Φ pc lv (.ref (eV E q) :: st) σ x := by
  obtain ⟨p, e, R, s, m, args, below, meth, c⟩ := x
  intro ok hσ H locs ls hP hS hl
  obtain ⟨hx, hb, hml, hown, hts, hK, hE, hV, hlk, hr, -⟩ := id ok
  exact va_tlen hx hb (hV.1.1 q hq).2.2.2 hS (v := iz (slen q)) rfl d (k ok hσ H locs ls hP hS hl)
theorem r_sbald {q : Nat} {i : Int} (hq : q < 9) (hi : 0 ≤ i ∧ i < slen q) (d : decode M.1 pc = .ok (.baload, 1)) (k : RW lay E M Φ (pc + 1) lv (.int (iz (schr q i.toNat)) :: st) σ x) : RW lay E M Φ pc lv (.int (iz i) :: .ref (eV E q) :: st) σ x := by
  obtain ⟨p, e, R, s, m, args, below, meth, c⟩ := x
  intro ok hσ H locs ls hP hS hl
  obtain ⟨hx, hb, hml, hown, hts, hK, hE, hV, hlk, hr, -⟩ := id ok
  have hb2 : kLen.getD q 0 ≤ 1000000 := by
    have := (slen_all q hq).2.1
    unfold slen at this
    omega
  obtain ⟨h1, h2⟩ := iz_in (i := i) (N := slen q) (n := kLen.getD q 0) rfl (Nat.ble_eq.mpr hb2) hi
  refine va_tb hx hb (hV.1.1 q hq).2.2.2 hS h1 (v := .int (iz (schr q i.toNat))) ?_ d (k ok hσ H locs ls hP hS hl)
  rw [h2]
  show Value.int ((kByt.getD q []).getD i.toNat 0) = Value.int (iz (schr q i.toNat))
  rw [schr, iz_of]
theorem i2c_small : ∀ n : Nat, n < 128 → ((iz (n : Int)).toUInt32 % 65536).toInt32 = iz (n : Int) ∧ narrow .char (.int (iz (n : Int))) = .int (iz (n : Int)) := by decide +kernel
theorem r_i2c {a : Int} (d : decode M.1 pc = .ok (.i2c, 1)) (h : 0 ≤ a ∧ a < 128) (k : RW lay E M Φ (pc + 1) lv (.int (iz a) :: st) σ x) : RW lay E M Φ pc lv (.int (iz a) :: st) σ x := by
  obtain ⟨p, e, R, s, m, args, below, meth, c⟩ := x
  intro ok hσ H locs ls hP hS hl
  obtain ⟨hx, hb, -⟩ := id ok
  obtain ⟨n, rfl⟩ : ∃ n : Nat, a = (n : Int) := ⟨a.toNat, by omega⟩
  exact lv_i2c hx hb d (i2c_small n (by omega)).1 (k ok hσ H locs ls hP hS hl)
theorem r_callT {idx q n : Nat} {y : MethodName} {As : List Value} {Ψ : Int → PS → Prop} (d : decode M.1 pc = .ok (.invokevirtual idx, 3)) (cw : CWV M.2.1 idx y M2) (hy : ynm y n) (hM : CT lay E y M2 (.ref (eS E q) :: As) σ Ψ) (hq : q < 9) (hyc : y.cls = "java/lang/String") (hn : As.length = n) (hlv : M2.2.2.2.1 + 1 ≤ M.2.2.2.1) (hL : Nat.ble M2.2.2.1 40 = true) (hst : st0 = As.reverse ++ .ref (eS E q) :: st) (hcat : Nat.ble ((st.map fun v => v.category).sum) 8 = true)
    (k : ∀ (z : Int) (σ' : PS), Rg z → RS σ' → Ψ z σ' → RW lay E M Φ (pc + 3) lv ((rvv E M2.2.2.2.2.2 z).toList ++ st) σ' x) : RW lay E M Φ pc lv st0 σ x := by
  obtain ⟨p, e, R, s, m, args, below, meth, c⟩ := x
  intro ok hσ H locs ls hP hS hl
  obtain ⟨hx, hb, hml, hown, hts, hK, hE, hV, hlk, hr, hfr, hlo⟩ := id ok
  have hG : GoodIn TB (wsV M.2.1 idx y.cls y (.code y M2.1 M2.2.2.1 M2.2.2.2.2.1 :: TB)) := by
    intro w hw
    rcases List.mem_append.mp hw with h | h
    · exact good_in (cw w (by simp at h ⊢; rcases h with h | h | h | h <;> simp [h]))
    · rcases List.mem_cons.mp h with h | h
      · exact good_in (cw w (by rw [h]; simp))
      · exact TB_good w h
  have hrecv := vk_recv hV.1 hq hS
  rw [← hyc] at hrecv
  refine r_ofRun (va_runV (As := As) (rest := st) ⟨hx, hb, hml, hown, hts⟩ hM (cwV n hts hG rfl rfl rfl ⟨rfl, hy.1.1, hy.1.2, hy.2⟩ (lvl_room hfr hlo hlv hL)) ⟨PU_blind, hrecv, fun U hU hW => ⟨rfl, PU_at hK hV hP hS U hU hW⟩⟩ rfl hn hl.1 hst (lv_room (Nat.le_of_ble_eq_true hcat)) d ⟨Nat.zero_le _, Nat.zero_le _⟩) hS (fun z σ' hz hσ' hΨ H1 locs1 hP1 hS1 => ?_)
  exact k z σ' hz hσ' hΨ ok hσ' H1 locs1 ls hP1 hS1 hl
theorem C_coder (hE : eOK lay E) {q : Nat} (hq : q < 9) (σ : PS) (hs : RS σ) : CT lay E yJ0_coder_7d493 mi_coder [.ref (eS E q)] σ (fun z σ1 => z = 0 ∧ σ1 = σ) := by
  refine ct_of (by decide +kernel) rfl hE rfl rfl hs (fun x => ?_)
  show RW lay E mi_coder _ 0 [some (.ref (eS E q))] [] σ x
  refine r_gcs (dc D_cJ0_coder_7d493_0 0 rfl) rfl ?_
  refine r_if_eq (tgt := 13) (dc D_cJ0_coder_7d493_0 1 rfl) (by decide) (Rl rfl) (fun c => absurd c (by decide)) (fun _ => ?_)
  refine r_aloadn (dc D_cJ0_coder_7d493_0 2 rfl) rfl rfl ?_
  refine r_scod hq (dc D_cJ0_coder_7d493_0 3 rfl) rfl ?_
  refine r_goto (tgt := 14) (dc D_cJ0_coder_7d493_0 4 rfl) (by decide) ?_
  exact r_nret (ty := .byte) (dc D_cJ0_coder_7d493_0 6 rfl) rfl (by decide +kernel) (Rl rfl) ⟨rfl, rfl⟩
theorem C_isLatin1 (hE : eOK lay E) {q : Nat} (hq : q < 9) (σ : PS) (hs : RS σ) : CT lay E yJ0_isLatin1_aae02 mi_isLatin1 [.ref (eS E q)] σ (fun z σ1 => z = 1 ∧ σ1 = σ) := by
  refine ct_of (by decide +kernel) rfl hE rfl rfl hs (fun x => ?_)
  show RW lay E mi_isLatin1 _ 0 [some (.ref (eS E q))] [] σ x
  refine r_gcs (dc D_cJ0_isLatin1_aae02_0 0 rfl) rfl ?_
  refine r_if_eq (tgt := 17) (dc D_cJ0_isLatin1_aae02_0 1 rfl) (by decide) (Rl rfl) (fun c => absurd c (by decide)) (fun _ => ?_)
  refine r_aloadn (dc D_cJ0_isLatin1_aae02_0 2 rfl) rfl rfl ?_
  refine r_scod hq (dc D_cJ0_isLatin1_aae02_0 3 rfl) rfl ?_
  refine r_if_ne (tgt := 17) (dc D_cJ0_isLatin1_aae02_0 4 rfl) (by decide) (Rl rfl) (fun c => absurd rfl c) (fun _ => ?_)
  refine r_iconst (dc D_cJ0_isLatin1_aae02_0 5 rfl) ?_
  refine r_goto (tgt := 18) (dc D_cJ0_isLatin1_aae02_0 6 rfl) (by decide) ?_
  exact r_zret (dc D_cJ0_isLatin1_aae02_0 8 rfl) rfl (by decide) ⟨rfl, rfl⟩
theorem C_Slength (hE : eOK lay E) {q : Nat} (hq : q < 9) (σ : PS) (hs : RS σ) : CT lay E yJ0_length_8abf5 mi_Slength [.ref (eS E q)] σ (fun z σ1 => z = slen q ∧ σ1 = σ) := by
  refine ct_of (by decide +kernel) rfl hE rfl rfl hs (fun x => ?_)
  show RW lay E mi_Slength _ 0 [some (.ref (eS E q))] [] σ x
  refine r_aloadn (dc D_cJ0_length_8abf5_0 0 rfl) rfl rfl ?_
  refine r_sval hq (dc D_cJ0_length_8abf5_0 1 rfl) rfl ?_
  refine r_slenA hq (dc D_cJ0_length_8abf5_0 2 rfl) ?_
  refine r_aloadn (dc D_cJ0_length_8abf5_0 3 rfl) rfl rfl ?_
  refine r_callT (As := []) (st := [.int (iz (slen q))]) (dc D_cJ0_length_8abf5_0 4 rfl) cw_RJ0_335 nm_coder (C_coder hE hq σ hs) hq rfl rfl (by decide) rfl rfl rfl (fun z σ1 _ _ e => ?_)
  rw [e.1, e.2]
  show RW lay E mi_Slength _ 9 [some (.ref (eS E q))] [.int (iz 0), .int (iz (slen q))] σ x
  refine r_ishr (dc D_cJ0_length_8abf5_0 5 rfl) ?_
  rw [(slen_all q hq).2.2]
  exact r_iret (dc D_cJ0_length_8abf5_0 6 rfl) rfl (Rg_slen hq) ⟨rfl, rfl⟩
theorem C_PcheckIndex (hE : eOK lay E) {i n : Int} (ri : Rg i) (rn : Rg n) (h : 0 ≤ i ∧ i < n) (v : Value) (hv : (v.category == 1) = true) (σ : PS) (hs : RS σ) : CT lay E yJ3_checkIndex_8e157 mi_PcheckIndex [.int (iz i), .int (iz n), v] σ (fun _ σ1 => σ1 = σ) := by
  refine ct_of (by decide +kernel) rfl hE rfl (by show (true && (true && ((v.category == 1) && true))) = true; rw [hv]; rfl) hs (fun x => ?_)
  show RW lay E mi_PcheckIndex _ 0 [some (.int (iz i)), some (.int (iz n)), some v] [] σ x
  refine r_iloadn (dc D_cJ3_checkIndex_8e157_0 0 rfl) rfl rfl ?_
  refine r_if_lt (tgt := 9) (dc D_cJ3_checkIndex_8e157_0 1 rfl) (by decide) ri (fun c => absurd h.1 (by omega)) (fun _ => ?_)
  refine r_iloadn (dc D_cJ3_checkIndex_8e157_0 2 rfl) rfl rfl ?_
  refine r_iloadn (dc D_cJ3_checkIndex_8e157_0 3 rfl) rfl rfl ?_
  refine r_icmp_lt (tgt := 16) (dc D_cJ3_checkIndex_8e157_0 4 rfl) (by decide) ri rn (fun _ => ?_) (fun c => absurd h.2 c)
  refine r_iloadn (dc D_cJ3_checkIndex_8e157_0 10 rfl) rfl rfl ?_
  exact r_iret (dc D_cJ3_checkIndex_8e157_0 11 rfl) rfl ri rfl
theorem r_gfm (d : decode M.1 pc = .ok (.getstatic 1053, 3)) (hM : M.2.1 = RJ0) (k : ∀ v : Value, (v.category == 1) = true → RW lay E M Φ (pc + 3) lv (v :: st) σ x) : RW lay E M Φ pc lv st σ x := by
  obtain ⟨p, e, R, s, m, args, below, meth, c⟩ := x
  intro ok hσ H locs ls hP hS hl
  obtain ⟨hx, hb, hml, hown, hts, hK, hE, hV, hlk, hr, -⟩ := id ok
  rw [hM] at hown
  rcases hV.2.2.2.2 with hZ | ⟨t, hZ⟩
  · exact va_gets hx hb hZ hS hown (hts _ fl_RJ0_1053) (fun _ h => h) d (k _ rfl ok hσ H locs ls hP hS hl)
  · exact va_gets hx hb hZ hS hown (hts _ fl_RJ0_1053) (fun _ h => h) d (k _ rfl ok hσ H locs ls hP hS hl)
theorem C_ScheckIndex (hE : eOK lay E) {i n : Int} (ri : Rg i) (rn : Rg n) (h : 0 ≤ i ∧ i < n) (σ : PS) (hs : RS σ) : CT lay E yJ0_checkIndex_df160 mi_ScheckIndex [.int (iz i), .int (iz n)] σ (fun _ σ1 => σ1 = σ) := by
  refine ct_of (by decide +kernel) rfl hE rfl rfl hs (fun x => ?_)
  show RW lay E mi_ScheckIndex _ 0 [some (.int (iz i)), some (.int (iz n))] [] σ x
  refine r_iloadn (dc D_cJ0_checkIndex_df160_0 0 rfl) rfl rfl ?_
  refine r_iloadn (dc D_cJ0_checkIndex_df160_0 1 rfl) rfl rfl ?_
  refine r_gfm (dc D_cJ0_checkIndex_df160_0 2 rfl) rfl (fun v hv => ?_)
  refine r_callS (As := [.int (iz i), .int (iz n), v]) (st := []) (dc D_cJ0_checkIndex_df160_0 3 rfl) cw_RJ0_1059 nm_PcheckIndex (C_PcheckIndex hE ri rn h v hv σ hs) rfl (by decide) rfl rfl rfl (fun z σ1 _ _ e => ?_)
  rw [e]
  show RW lay E mi_ScheckIndex _ 8 [some (.int (iz i)), some (.int (iz n))] [.int (iz z)] σ x
  refine r_pop (dc D_cJ0_checkIndex_df160_0 4 rfl) rfl ?_
  exact r_vret (dc D_cJ0_checkIndex_df160_0 5 rfl) rfl rfl
theorem C_L1charAt (hE : eOK lay E) {q : Nat} {i : Int} (hq : q < 9) (ri : Rg i) (h : 0 ≤ i ∧ i < slen q) (σ : PS) (hs : RS σ) : CT lay E yJ1_charAt_3b067 mi_L1charAt [.ref (eV E q), .int (iz i)] σ (fun z σ1 => z = schr q i.toNat ∧ σ1 = σ) := by
  refine ct_of (by decide +kernel) rfl hE rfl rfl hs (fun x => ?_)
  show RW lay E mi_L1charAt _ 0 [some (.ref (eV E q)), some (.int (iz i))] [] σ x
  refine r_iloadn (dc D_cJ1_charAt_3b067_0 0 rfl) rfl rfl ?_
  refine r_aloadn (dc D_cJ1_charAt_3b067_0 1 rfl) rfl rfl ?_
  refine r_slenA hq (dc D_cJ1_charAt_3b067_0 2 rfl) ?_
  refine r_callS (As := [.int (iz i), .int (iz (slen q))]) (st := []) (dc D_cJ1_charAt_3b067_0 3 rfl) cw_RJ1_9 nm_ScheckIndex (C_ScheckIndex hE ri (Rg_slen hq) h σ hs) rfl (by decide) rfl rfl rfl (fun z σ1 _ _ e => ?_)
  rw [e]
  show RW lay E mi_L1charAt _ 6 [some (.ref (eV E q)), some (.int (iz i))] [] σ x
  refine r_aloadn (dc D_cJ1_charAt_3b067_0 4 rfl) rfl rfl ?_
  refine r_iloadn (dc D_cJ1_charAt_3b067_0 5 rfl) rfl rfl ?_
  refine r_sbald hq h (dc D_cJ1_charAt_3b067_0 6 rfl) ?_
  refine r_sipush (n := 255) (dc D_cJ1_charAt_3b067_0 7 rfl) (by decide +kernel) ?_
  refine r_iand (dc D_cJ1_charAt_3b067_0 8 rfl) ?_
  obtain ⟨h1, h2, h3⟩ := schr_all q hq i.toNat (by have := h.2; unfold slen at this; omega)
  rw [h3]
  refine r_i2c (dc D_cJ1_charAt_3b067_0 9 rfl) ⟨h1, h2⟩ ?_
  refine r_nret (ty := .char) (dc D_cJ1_charAt_3b067_0 10 rfl) rfl ?_ (Rg_schr _ _) ⟨rfl, rfl⟩
  have h4 := (i2c_small (schr q i.toNat).toNat (by omega)).2
  rw [Int.toNat_of_nonneg h1] at h4
  exact h4
theorem C_ScharAt (hE : eOK lay E) {q : Nat} {i : Int} (hq : q < 9) (ri : Rg i) (h : 0 ≤ i ∧ i < slen q) (σ : PS) (hs : RS σ) : CT lay E yJ0_charAt_5068e mi_ScharAt [.ref (eS E q), .int (iz i)] σ (fun z σ1 => z = schr q i.toNat ∧ σ1 = σ) := by
  refine ct_of (by decide +kernel) rfl hE rfl rfl hs (fun x => ?_)
  show RW lay E mi_ScharAt _ 0 [some (.ref (eS E q)), some (.int (iz i))] [] σ x
  refine r_aloadn (dc D_cJ0_charAt_5068e_0 0 rfl) rfl rfl ?_
  refine r_callT (As := []) (st := []) (dc D_cJ0_charAt_5068e_0 1 rfl) cw_RJ0_492 nm_isLatin1 (C_isLatin1 hE hq σ hs) hq rfl rfl (by decide) rfl rfl rfl (fun z σ1 _ _ e => ?_)
  rw [e.1, e.2]
  show RW lay E mi_ScharAt _ 4 [some (.ref (eS E q)), some (.int (iz i))] [.int (iz 1)] σ x
  refine r_if_eq (tgt := 16) (dc D_cJ0_charAt_5068e_0 2 rfl) (by decide) (Rl rfl) (fun c => absurd c (by decide)) (fun _ => ?_)
  refine r_aloadn (dc D_cJ0_charAt_5068e_0 3 rfl) rfl rfl ?_
  refine r_sval hq (dc D_cJ0_charAt_5068e_0 4 rfl) rfl ?_
  refine r_iloadn (dc D_cJ0_charAt_5068e_0 5 rfl) rfl rfl ?_
  refine r_callS (As := [.ref (eV E q), .int (iz i)]) (st := []) (dc D_cJ0_charAt_5068e_0 6 rfl) cw_RJ0_495 nm_L1charAt (C_L1charAt hE hq ri h σ hs) rfl (by decide) rfl rfl rfl (fun z σ1 _ _ e => ?_)
  rw [e.1, e.2]
  show RW lay E mi_ScharAt _ 15 [some (.ref (eS E q)), some (.int (iz i))] [.int (iz (schr q i.toNat))] σ x
  obtain ⟨h1, h2, h3⟩ := schr_all q hq i.toNat (by have := h.2; unfold slen at this; omega)
  refine r_nret (ty := .char) (dc D_cJ0_charAt_5068e_0 7 rfl) rfl ?_ (Rg_schr _ _) ⟨rfl, rfl⟩
  have h4 := (i2c_small (schr q i.toNat).toNat (by omega)).2
  rw [Int.toNat_of_nonneg h1] at h4
  exact h4
theorem r_strlen {idx k : Nat} (d : decode M.1 pc = .ok (.invokevirtual idx, 3)) (cw : CWV M.2.1 idx yJ0_length_8abf5 mi_Slength) (hk : k < 9) (hlv : Nat.ble 8 M.2.2.2.1 = true) (hcat : Nat.ble ((st.map fun v => v.category).sum) 8 = true) (kk : RW lay E M Φ (pc + 3) lv (.int (iz (slen k)) :: st) σ x) : RW lay E M Φ pc lv (.ref (eS E k) :: st) σ x := by
  refine r_eok (fun hE => r_rs (fun hs => ?_))
  exact r_callT (As := []) d cw nm_Slength (C_Slength hE hk σ hs) hk rfl rfl (Nat.le_of_ble_eq_true hlv) rfl rfl hcat (fun z σ1 _ _ e => by rw [e.1, e.2]; exact kk)
theorem r_strat {idx k : Nat} {i : Int} (d : decode M.1 pc = .ok (.invokevirtual idx, 3)) (cw : CWV M.2.1 idx yJ0_charAt_5068e mi_ScharAt) (h : k < 9 ∧ 0 ≤ i ∧ i < slen k) (hlv : Nat.ble 8 M.2.2.2.1 = true) (hcat : Nat.ble ((st.map fun v => v.category).sum) 8 = true) (kk : RW lay E M Φ (pc + 3) lv (.int (iz (schr k i.toNat)) :: st) σ x) : RW lay E M Φ pc lv (.int (iz i) :: .ref (eS E k) :: st) σ x := by
  refine r_eok (fun hE => r_rs (fun hs => ?_))
  have hb := (slen_all k h.1).2.1
  exact r_callT (As := [.int (iz i)]) d cw nm_ScharAt (C_ScharAt hE h.1 ⟨by omega, by omega⟩ h.2 σ hs) h.1 rfl rfl (Nat.le_of_ble_eq_true hlv) rfl rfl hcat (fun z σ1 _ _ e => by rw [e.1, e.2]; exact kk)
end JdkS
end
