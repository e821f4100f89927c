-- ===== PART A: goes FIRST, ahead of the names: the tables' words, and 'selects' of the private methods out of them =====
/-- a private method of a class that the tables say can be made, by its rows of tables_1 -/
def lw_okq (q : MethodName × Nat) : Prop := (q.1.cls ≠ "java/lang/invoke/MethodHandle" ∧ q.1.cls ≠ "java/lang/invoke/VarHandle") ∧ Cond.instantiable q.1.cls q.2 ∈ tables_1 ∧ Cond.privateMethod q.1 ∈ tables_1 ∧ Cond.instanceMethod q.1 ∈ tables_1
theorem lw_p0 : lw_okq (⟨"GiantHeart$Law", "readClause", "()Z"⟩, 14) := ⟨⟨by decide +kernel, by decide +kernel⟩, List.mem_of_getElem? (i := 102) (by decide +kernel), List.mem_of_getElem? (i := 516) (by decide +kernel), List.mem_of_getElem? (i := 517) (by decide +kernel)⟩
theorem lw_p1 : lw_okq (⟨"GiantHeart$Law", "here", "()I"⟩, 14) := ⟨⟨by decide +kernel, by decide +kernel⟩, List.mem_of_getElem? (i := 102) (by decide +kernel), List.mem_of_getElem? (i := 520) (by decide +kernel), List.mem_of_getElem? (i := 521) (by decide +kernel)⟩
theorem lw_p2 : lw_okq (⟨"GiantHeart$Law", "wrong", "(I)Z"⟩, 14) := ⟨⟨by decide +kernel, by decide +kernel⟩, List.mem_of_getElem? (i := 102) (by decide +kernel), List.mem_of_getElem? (i := 524) (by decide +kernel), List.mem_of_getElem? (i := 525) (by decide +kernel)⟩
theorem lw_p3 : lw_okq (⟨"GiantHeart$Law", "readSum", "(I)Z"⟩, 14) := ⟨⟨by decide +kernel, by decide +kernel⟩, List.mem_of_getElem? (i := 102) (by decide +kernel), List.mem_of_getElem? (i := 528) (by decide +kernel), List.mem_of_getElem? (i := 529) (by decide +kernel)⟩
theorem lw_p4 : lw_okq (⟨"GiantHeart$Law", "readFactor", "(I)Z"⟩, 14) := ⟨⟨by decide +kernel, by decide +kernel⟩, List.mem_of_getElem? (i := 102) (by decide +kernel), List.mem_of_getElem? (i := 532) (by decide +kernel), List.mem_of_getElem? (i := 533) (by decide +kernel)⟩
theorem lw_p5 : lw_okq (⟨"GiantHeart$Law", "readSign", "(I)Z"⟩, 14) := ⟨⟨by decide +kernel, by decide +kernel⟩, List.mem_of_getElem? (i := 102) (by decide +kernel), List.mem_of_getElem? (i := 536) (by decide +kernel), List.mem_of_getElem? (i := 537) (by decide +kernel)⟩
theorem lw_p6 : lw_okq (⟨"GiantHeart$Law", "put", "(II)I"⟩, 14) := ⟨⟨by decide +kernel, by decide +kernel⟩, List.mem_of_getElem? (i := 102) (by decide +kernel), List.mem_of_getElem? (i := 625) (by decide +kernel), List.mem_of_getElem? (i := 626) (by decide +kernel)⟩
theorem lw_p7 : lw_okq (⟨"GiantHeart$Law", "readCondition", "(I)Z"⟩, 14) := ⟨⟨by decide +kernel, by decide +kernel⟩, List.mem_of_getElem? (i := 102) (by decide +kernel), List.mem_of_getElem? (i := 629) (by decide +kernel), List.mem_of_getElem? (i := 630) (by decide +kernel)⟩
theorem lw_p8 : lw_okq (⟨"GiantHeart$Law", "readPiece", "(I)Z"⟩, 14) := ⟨⟨by decide +kernel, by decide +kernel⟩, List.mem_of_getElem? (i := 102) (by decide +kernel), List.mem_of_getElem? (i := 633) (by decide +kernel), List.mem_of_getElem? (i := 634) (by decide +kernel)⟩
theorem lw_p9 : lw_okq (⟨"GiantHeart$Law", "leadHere", "(I)V"⟩, 14) := ⟨⟨by decide +kernel, by decide +kernel⟩, List.mem_of_getElem? (i := 102) (by decide +kernel), List.mem_of_getElem? (i := 637) (by decide +kernel), List.mem_of_getElem? (i := 638) (by decide +kernel)⟩
theorem lw_p10 : lw_okq (⟨"GiantHeart$Seeker", "learnMouths", "()V"⟩, 16) := ⟨⟨by decide +kernel, by decide +kernel⟩, List.mem_of_getElem? (i := 153) (by decide +kernel), List.mem_of_getElem? (i := 692) (by decide +kernel), List.mem_of_getElem? (i := 693) (by decide +kernel)⟩
theorem lw_p11 : lw_okq (⟨"GiantHeart$Seeker", "gatherKeys", "()V"⟩, 16) := ⟨⟨by decide +kernel, by decide +kernel⟩, List.mem_of_getElem? (i := 153) (by decide +kernel), List.mem_of_getElem? (i := 705) (by decide +kernel), List.mem_of_getElem? (i := 706) (by decide +kernel)⟩
theorem lw_p12 : lw_okq (⟨"GiantHeart$Seeker", "done", "(I)I"⟩, 16) := ⟨⟨by decide +kernel, by decide +kernel⟩, List.mem_of_getElem? (i := 153) (by decide +kernel), List.mem_of_getElem? (i := 709) (by decide +kernel), List.mem_of_getElem? (i := 710) (by decide +kernel)⟩
theorem lw_p13 : lw_okq (⟨"GiantHeart$Seeker", "findOpenable", "()V"⟩, 16) := ⟨⟨by decide +kernel, by decide +kernel⟩, List.mem_of_getElem? (i := 153) (by decide +kernel), List.mem_of_getElem? (i := 715) (by decide +kernel), List.mem_of_getElem? (i := 716) (by decide +kernel)⟩
theorem lw_p14 : lw_okq (⟨"GiantHeart$Seeker", "state", "(III)I"⟩, 16) := ⟨⟨by decide +kernel, by decide +kernel⟩, List.mem_of_getElem? (i := 153) (by decide +kernel), List.mem_of_getElem? (i := 735) (by decide +kernel), List.mem_of_getElem? (i := 736) (by decide +kernel)⟩
theorem lw_p15 : lw_okq (⟨"GiantHeart", "heartIsTold", "()Z"⟩, 14) := ⟨⟨by decide +kernel, by decide +kernel⟩, List.mem_of_getElem? (i := 23) (by decide +kernel), List.mem_of_getElem? (i := 747) (by decide +kernel), List.mem_of_getElem? (i := 748) (by decide +kernel)⟩
def lw_privs_1 : List (MethodName × Nat) := [(⟨"GiantHeart$Law", "readClause", "()Z"⟩, 14), (⟨"GiantHeart$Law", "here", "()I"⟩, 14), (⟨"GiantHeart$Law", "wrong", "(I)Z"⟩, 14), (⟨"GiantHeart$Law", "readSum", "(I)Z"⟩, 14), (⟨"GiantHeart$Law", "readFactor", "(I)Z"⟩, 14), (⟨"GiantHeart$Law", "readSign", "(I)Z"⟩, 14), (⟨"GiantHeart$Law", "put", "(II)I"⟩, 14), (⟨"GiantHeart$Law", "readCondition", "(I)Z"⟩, 14), (⟨"GiantHeart$Law", "readPiece", "(I)Z"⟩, 14), (⟨"GiantHeart$Law", "leadHere", "(I)V"⟩, 14), (⟨"GiantHeart$Seeker", "learnMouths", "()V"⟩, 16), (⟨"GiantHeart$Seeker", "gatherKeys", "()V"⟩, 16), (⟨"GiantHeart$Seeker", "done", "(I)I"⟩, 16), (⟨"GiantHeart$Seeker", "findOpenable", "()V"⟩, 16), (⟨"GiantHeart$Seeker", "state", "(III)I"⟩, 16), (⟨"GiantHeart", "heartIsTold", "()Z"⟩, 14)]
theorem lw_r1 : ∀ q ∈ lw_privs_1, lw_okq q := List.forall_mem_cons.mpr ⟨lw_p0, List.forall_mem_cons.mpr ⟨lw_p1, List.forall_mem_cons.mpr ⟨lw_p2, List.forall_mem_cons.mpr ⟨lw_p3, List.forall_mem_cons.mpr ⟨lw_p4, List.forall_mem_cons.mpr ⟨lw_p5, List.forall_mem_cons.mpr ⟨lw_p6, List.forall_mem_cons.mpr ⟨lw_p7, List.forall_mem_cons.mpr ⟨lw_p8, List.forall_mem_cons.mpr ⟨lw_p9, List.forall_mem_cons.mpr ⟨lw_p10, List.forall_mem_cons.mpr ⟨lw_p11, List.forall_mem_cons.mpr ⟨lw_p12, List.forall_mem_cons.mpr ⟨lw_p13, List.forall_mem_cons.mpr ⟨lw_p14, List.forall_mem_cons.mpr ⟨lw_p15, fun _ h => absurd h List.not_mem_nil⟩⟩⟩⟩⟩⟩⟩⟩⟩⟩⟩⟩⟩⟩⟩⟩
theorem lw_p16 : lw_okq (⟨"GiantHeart$Planner", "findUseful", "()V"⟩, 14) := ⟨⟨by decide +kernel, by decide +kernel⟩, List.mem_of_getElem? (i := 282) (by decide +kernel), List.mem_of_getElem? (i := 757) (by decide +kernel), List.mem_of_getElem? (i := 758) (by decide +kernel)⟩
theorem lw_p17 : lw_okq (⟨"GiantHeart$Planner", "findPaths", "()V"⟩, 14) := ⟨⟨by decide +kernel, by decide +kernel⟩, List.mem_of_getElem? (i := 282) (by decide +kernel), List.mem_of_getElem? (i := 782) (by decide +kernel), List.mem_of_getElem? (i := 783) (by decide +kernel)⟩
theorem lw_p18 : lw_okq (⟨"GiantHeart$Planner", "price", "(II)I"⟩, 14) := ⟨⟨by decide +kernel, by decide +kernel⟩, List.mem_of_getElem? (i := 282) (by decide +kernel), List.mem_of_getElem? (i := 787) (by decide +kernel), List.mem_of_getElem? (i := 788) (by decide +kernel)⟩
theorem lw_p19 : lw_okq (⟨"GiantHeart$Planner", "clear", "(I)V"⟩, 14) := ⟨⟨by decide +kernel, by decide +kernel⟩, List.mem_of_getElem? (i := 282) (by decide +kernel), List.mem_of_getElem? (i := 792) (by decide +kernel), List.mem_of_getElem? (i := 793) (by decide +kernel)⟩
theorem lw_p20 : lw_okq (⟨"GiantHeart$Planner", "advance", "(I)V"⟩, 14) := ⟨⟨by decide +kernel, by decide +kernel⟩, List.mem_of_getElem? (i := 282) (by decide +kernel), List.mem_of_getElem? (i := 796) (by decide +kernel), List.mem_of_getElem? (i := 797) (by decide +kernel)⟩
theorem lw_p21 : lw_okq (⟨"GiantHeart$Planner", "settle", "(I)Z"⟩, 14) := ⟨⟨by decide +kernel, by decide +kernel⟩, List.mem_of_getElem? (i := 282) (by decide +kernel), List.mem_of_getElem? (i := 801) (by decide +kernel), List.mem_of_getElem? (i := 802) (by decide +kernel)⟩
theorem lw_p22 : lw_okq (⟨"GiantHeart$Planner", "leave", "(I)V"⟩, 14) := ⟨⟨by decide +kernel, by decide +kernel⟩, List.mem_of_getElem? (i := 282) (by decide +kernel), List.mem_of_getElem? (i := 806) (by decide +kernel), List.mem_of_getElem? (i := 807) (by decide +kernel)⟩
theorem lw_p23 : lw_okq (⟨"GiantHeart$Planner", "helpfulBits", "(I)I"⟩, 14) := ⟨⟨by decide +kernel, by decide +kernel⟩, List.mem_of_getElem? (i := 282) (by decide +kernel), List.mem_of_getElem? (i := 811) (by decide +kernel), List.mem_of_getElem? (i := 812) (by decide +kernel)⟩
theorem lw_p24 : lw_okq (⟨"GiantHeart$Planner", "follow", "(II)Z"⟩, 14) := ⟨⟨by decide +kernel, by decide +kernel⟩, List.mem_of_getElem? (i := 282) (by decide +kernel), List.mem_of_getElem? (i := 833) (by decide +kernel), List.mem_of_getElem? (i := 834) (by decide +kernel)⟩
theorem lw_p25 : lw_okq (⟨"GiantHeart$Planner", "takeRow", "(I)Z"⟩, 14) := ⟨⟨by decide +kernel, by decide +kernel⟩, List.mem_of_getElem? (i := 282) (by decide +kernel), List.mem_of_getElem? (i := 871) (by decide +kernel), List.mem_of_getElem? (i := 872) (by decide +kernel)⟩
theorem lw_p26 : lw_okq (⟨"GiantHeart$Nights", "look", "()V"⟩, 7) := ⟨⟨by decide +kernel, by decide +kernel⟩, List.mem_of_getElem? (i := 212) (by decide +kernel), List.mem_of_getElem? (i := 904) (by decide +kernel), List.mem_of_getElem? (i := 905) (by decide +kernel)⟩
theorem lw_p27 : lw_okq (⟨"GiantHeart$Law", "run", "(II[I)I"⟩, 14) := ⟨⟨by decide +kernel, by decide +kernel⟩, List.mem_of_getElem? (i := 102) (by decide +kernel), List.mem_of_getElem? (i := 922) (by decide +kernel), List.mem_of_getElem? (i := 923) (by decide +kernel)⟩
theorem lw_p28 : lw_okq (⟨"GiantHeart", "refusedStory", "(IIZ)I"⟩, 14) := ⟨⟨by decide +kernel, by decide +kernel⟩, List.mem_of_getElem? (i := 23) (by decide +kernel), List.mem_of_getElem? (i := 944) (by decide +kernel), List.mem_of_getElem? (i := 945) (by decide +kernel)⟩
theorem lw_p29 : lw_okq (⟨"GiantHeart$Stories", "weigh", "(I)J"⟩, 9) := ⟨⟨by decide +kernel, by decide +kernel⟩, List.mem_of_getElem? (i := 331) (by decide +kernel), List.mem_of_getElem? (i := 961) (by decide +kernel), List.mem_of_getElem? (i := 962) (by decide +kernel)⟩
theorem lw_p30 : lw_okq (⟨"GiantHeart$Stories", "weighNight", "(I)V"⟩, 9) := ⟨⟨by decide +kernel, by decide +kernel⟩, List.mem_of_getElem? (i := 331) (by decide +kernel), List.mem_of_getElem? (i := 965) (by decide +kernel), List.mem_of_getElem? (i := 966) (by decide +kernel)⟩
theorem lw_p31 : lw_okq (⟨"GiantHeart$Stories", "draws", "()I"⟩, 9) := ⟨⟨by decide +kernel, by decide +kernel⟩, List.mem_of_getElem? (i := 331) (by decide +kernel), List.mem_of_getElem? (i := 969) (by decide +kernel), List.mem_of_getElem? (i := 970) (by decide +kernel)⟩
def lw_privs_2 : List (MethodName × Nat) := [(⟨"GiantHeart$Planner", "findUseful", "()V"⟩, 14), (⟨"GiantHeart$Planner", "findPaths", "()V"⟩, 14), (⟨"GiantHeart$Planner", "price", "(II)I"⟩, 14), (⟨"GiantHeart$Planner", "clear", "(I)V"⟩, 14), (⟨"GiantHeart$Planner", "advance", "(I)V"⟩, 14), (⟨"GiantHeart$Planner", "settle", "(I)Z"⟩, 14), (⟨"GiantHeart$Planner", "leave", "(I)V"⟩, 14), (⟨"GiantHeart$Planner", "helpfulBits", "(I)I"⟩, 14), (⟨"GiantHeart$Planner", "follow", "(II)Z"⟩, 14), (⟨"GiantHeart$Planner", "takeRow", "(I)Z"⟩, 14), (⟨"GiantHeart$Nights", "look", "()V"⟩, 7), (⟨"GiantHeart$Law", "run", "(II[I)I"⟩, 14), (⟨"GiantHeart", "refusedStory", "(IIZ)I"⟩, 14), (⟨"GiantHeart$Stories", "weigh", "(I)J"⟩, 9), (⟨"GiantHeart$Stories", "weighNight", "(I)V"⟩, 9), (⟨"GiantHeart$Stories", "draws", "()I"⟩, 9)]
theorem lw_r2 : ∀ q ∈ lw_privs_2, lw_okq q := List.forall_mem_cons.mpr ⟨lw_p16, List.forall_mem_cons.mpr ⟨lw_p17, List.forall_mem_cons.mpr ⟨lw_p18, List.forall_mem_cons.mpr ⟨lw_p19, List.forall_mem_cons.mpr ⟨lw_p20, List.forall_mem_cons.mpr ⟨lw_p21, List.forall_mem_cons.mpr ⟨lw_p22, List.forall_mem_cons.mpr ⟨lw_p23, List.forall_mem_cons.mpr ⟨lw_p24, List.forall_mem_cons.mpr ⟨lw_p25, List.forall_mem_cons.mpr ⟨lw_p26, List.forall_mem_cons.mpr ⟨lw_p27, List.forall_mem_cons.mpr ⟨lw_p28, List.forall_mem_cons.mpr ⟨lw_p29, List.forall_mem_cons.mpr ⟨lw_p30, List.forall_mem_cons.mpr ⟨lw_p31, fun _ h => absurd h List.not_mem_nil⟩⟩⟩⟩⟩⟩⟩⟩⟩⟩⟩⟩⟩⟩⟩⟩
theorem lw_p32 : lw_okq (⟨"GiantHeart$Stories", "turnTo", "(I)V"⟩, 9) := ⟨⟨by decide +kernel, by decide +kernel⟩, List.mem_of_getElem? (i := 331) (by decide +kernel), List.mem_of_getElem? (i := 973) (by decide +kernel), List.mem_of_getElem? (i := 974) (by decide +kernel)⟩
theorem lw_p33 : lw_okq (⟨"GiantHeart$Stories", "possible", "()I"⟩, 9) := ⟨⟨by decide +kernel, by decide +kernel⟩, List.mem_of_getElem? (i := 331) (by decide +kernel), List.mem_of_getElem? (i := 985) (by decide +kernel), List.mem_of_getElem? (i := 986) (by decide +kernel)⟩
theorem lw_p34 : lw_okq (⟨"GiantHeart$Stories", "guessedBy", "(I)J"⟩, 9) := ⟨⟨by decide +kernel, by decide +kernel⟩, List.mem_of_getElem? (i := 331) (by decide +kernel), List.mem_of_getElem? (i := 1001) (by decide +kernel), List.mem_of_getElem? (i := 1002) (by decide +kernel)⟩
theorem lw_p35 : lw_okq (⟨"GiantHeart$Lots", "othersThan", "(I)J"⟩, 4) := ⟨⟨by decide +kernel, by decide +kernel⟩, List.mem_of_getElem? (i := 366) (by decide +kernel), List.mem_of_getElem? (i := 1018) (by decide +kernel), List.mem_of_getElem? (i := 1019) (by decide +kernel)⟩
theorem lw_p36 : lw_okq (⟨"GiantHeart$Eggs", "isTold", "(I)Z"⟩, 2) := ⟨⟨by decide +kernel, by decide +kernel⟩, List.mem_of_getElem? (i := 385) (by decide +kernel), List.mem_of_getElem? (i := 1038) (by decide +kernel), List.mem_of_getElem? (i := 1039) (by decide +kernel)⟩
theorem lw_p37 : lw_okq (⟨"GiantHeart$Eggs", "areApart", "(I)Z"⟩, 2) := ⟨⟨by decide +kernel, by decide +kernel⟩, List.mem_of_getElem? (i := 385) (by decide +kernel), List.mem_of_getElem? (i := 1059) (by decide +kernel), List.mem_of_getElem? (i := 1060) (by decide +kernel)⟩
theorem lw_p38 : lw_okq (⟨"GiantHeart$Eggs", "isShownAlike", "(III)Z"⟩, 2) := ⟨⟨by decide +kernel, by decide +kernel⟩, List.mem_of_getElem? (i := 385) (by decide +kernel), List.mem_of_getElem? (i := 1067) (by decide +kernel), List.mem_of_getElem? (i := 1068) (by decide +kernel)⟩
theorem lw_p39 : lw_okq (⟨"GiantHeart$Wood", "howMany", "()I"⟩, 1) := ⟨⟨by decide +kernel, by decide +kernel⟩, List.mem_of_getElem? (i := 399) (by decide +kernel), List.mem_of_getElem? (i := 1093) (by decide +kernel), List.mem_of_getElem? (i := 1094) (by decide +kernel)⟩
theorem lw_p40 : lw_okq (⟨"GiantHeart$Wood", "isLeastOfRing", "(I)Z"⟩, 1) := ⟨⟨by decide +kernel, by decide +kernel⟩, List.mem_of_getElem? (i := 399) (by decide +kernel), List.mem_of_getElem? (i := 1097) (by decide +kernel), List.mem_of_getElem? (i := 1098) (by decide +kernel)⟩
theorem lw_p41 : lw_okq (⟨"GiantHeart$Wood", "ringOf", "(I)I"⟩, 1) := ⟨⟨by decide +kernel, by decide +kernel⟩, List.mem_of_getElem? (i := 399) (by decide +kernel), List.mem_of_getElem? (i := 1101) (by decide +kernel), List.mem_of_getElem? (i := 1102) (by decide +kernel)⟩
theorem lw_p42 : lw_okq (⟨"GiantHeart$Wood", "inRings", "()I"⟩, 1) := ⟨⟨by decide +kernel, by decide +kernel⟩, List.mem_of_getElem? (i := 399) (by decide +kernel), List.mem_of_getElem? (i := 1105) (by decide +kernel), List.mem_of_getElem? (i := 1106) (by decide +kernel)⟩
theorem lw_p43 : lw_okq (⟨"GiantHeart$Wood", "longest", "()I"⟩, 1) := ⟨⟨by decide +kernel, by decide +kernel⟩, List.mem_of_getElem? (i := 399) (by decide +kernel), List.mem_of_getElem? (i := 1109) (by decide +kernel), List.mem_of_getElem? (i := 1110) (by decide +kernel)⟩
theorem lw_p44 : lw_okq (⟨"GiantHeart$Wood", "walk", "(IZ)I"⟩, 1) := ⟨⟨by decide +kernel, by decide +kernel⟩, List.mem_of_getElem? (i := 399) (by decide +kernel), List.mem_of_getElem? (i := 1114) (by decide +kernel), List.mem_of_getElem? (i := 1115) (by decide +kernel)⟩
theorem lw_p45 : lw_okq (⟨"GiantHeartModel", "isPlace", "(I)Z"⟩, 76) := ⟨⟨by decide +kernel, by decide +kernel⟩, List.mem_of_getElem? (i := 1166) (by decide +kernel), List.mem_of_getElem? (i := 1418) (by decide +kernel), List.mem_of_getElem? (i := 1419) (by decide +kernel)⟩
theorem lw_p46 : lw_okq (⟨"GiantHeartModel", "islandBy", "(I)I"⟩, 76) := ⟨⟨by decide +kernel, by decide +kernel⟩, List.mem_of_getElem? (i := 1166) (by decide +kernel), List.mem_of_getElem? (i := 1441) (by decide +kernel), List.mem_of_getElem? (i := 1442) (by decide +kernel)⟩
theorem lw_p47 : lw_okq (⟨"GiantHeartModel", "keysAt", "(I)I"⟩, 76) := ⟨⟨by decide +kernel, by decide +kernel⟩, List.mem_of_getElem? (i := 1166) (by decide +kernel), List.mem_of_getElem? (i := 1445) (by decide +kernel), List.mem_of_getElem? (i := 1446) (by decide +kernel)⟩
def lw_privs_3 : List (MethodName × Nat) := [(⟨"GiantHeart$Stories", "turnTo", "(I)V"⟩, 9), (⟨"GiantHeart$Stories", "possible", "()I"⟩, 9), (⟨"GiantHeart$Stories", "guessedBy", "(I)J"⟩, 9), (⟨"GiantHeart$Lots", "othersThan", "(I)J"⟩, 4), (⟨"GiantHeart$Eggs", "isTold", "(I)Z"⟩, 2), (⟨"GiantHeart$Eggs", "areApart", "(I)Z"⟩, 2), (⟨"GiantHeart$Eggs", "isShownAlike", "(III)Z"⟩, 2), (⟨"GiantHeart$Wood", "howMany", "()I"⟩, 1), (⟨"GiantHeart$Wood", "isLeastOfRing", "(I)Z"⟩, 1), (⟨"GiantHeart$Wood", "ringOf", "(I)I"⟩, 1), (⟨"GiantHeart$Wood", "inRings", "()I"⟩, 1), (⟨"GiantHeart$Wood", "longest", "()I"⟩, 1), (⟨"GiantHeart$Wood", "walk", "(IZ)I"⟩, 1), (⟨"GiantHeartModel", "isPlace", "(I)Z"⟩, 76), (⟨"GiantHeartModel", "islandBy", "(I)I"⟩, 76), (⟨"GiantHeartModel", "keysAt", "(I)I"⟩, 76)]
theorem lw_r3 : ∀ q ∈ lw_privs_3, lw_okq q := List.forall_mem_cons.mpr ⟨lw_p32, List.forall_mem_cons.mpr ⟨lw_p33, List.forall_mem_cons.mpr ⟨lw_p34, List.forall_mem_cons.mpr ⟨lw_p35, List.forall_mem_cons.mpr ⟨lw_p36, List.forall_mem_cons.mpr ⟨lw_p37, List.forall_mem_cons.mpr ⟨lw_p38, List.forall_mem_cons.mpr ⟨lw_p39, List.forall_mem_cons.mpr ⟨lw_p40, List.forall_mem_cons.mpr ⟨lw_p41, List.forall_mem_cons.mpr ⟨lw_p42, List.forall_mem_cons.mpr ⟨lw_p43, List.forall_mem_cons.mpr ⟨lw_p44, List.forall_mem_cons.mpr ⟨lw_p45, List.forall_mem_cons.mpr ⟨lw_p46, List.forall_mem_cons.mpr ⟨lw_p47, fun _ h => absurd h List.not_mem_nil⟩⟩⟩⟩⟩⟩⟩⟩⟩⟩⟩⟩⟩⟩⟩⟩
theorem lw_p48 : lw_okq (⟨"GiantHeartModel", "levels", "(I)I"⟩, 76) := ⟨⟨by decide +kernel, by decide +kernel⟩, List.mem_of_getElem? (i := 1166) (by decide +kernel), List.mem_of_getElem? (i := 1449) (by decide +kernel), List.mem_of_getElem? (i := 1450) (by decide +kernel)⟩
theorem lw_p49 : lw_okq (⟨"GiantHeartModel", "types", "(I)V"⟩, 76) := ⟨⟨by decide +kernel, by decide +kernel⟩, List.mem_of_getElem? (i := 1166) (by decide +kernel), List.mem_of_getElem? (i := 1457) (by decide +kernel), List.mem_of_getElem? (i := 1458) (by decide +kernel)⟩
theorem lw_p50 : lw_okq (⟨"GiantHeartModel", "readsClause", "()Z"⟩, 76) := ⟨⟨by decide +kernel, by decide +kernel⟩, List.mem_of_getElem? (i := 1166) (by decide +kernel), List.mem_of_getElem? (i := 1465) (by decide +kernel), List.mem_of_getElem? (i := 1466) (by decide +kernel)⟩
theorem lw_p51 : lw_okq (⟨"GiantHeartModel", "here", "()I"⟩, 76) := ⟨⟨by decide +kernel, by decide +kernel⟩, List.mem_of_getElem? (i := 1166) (by decide +kernel), List.mem_of_getElem? (i := 1469) (by decide +kernel), List.mem_of_getElem? (i := 1470) (by decide +kernel)⟩
theorem lw_p52 : lw_okq (⟨"GiantHeartModel", "wrongAt", "(II)Z"⟩, 76) := ⟨⟨by decide +kernel, by decide +kernel⟩, List.mem_of_getElem? (i := 1166) (by decide +kernel), List.mem_of_getElem? (i := 1473) (by decide +kernel), List.mem_of_getElem? (i := 1474) (by decide +kernel)⟩
theorem lw_p53 : lw_okq (⟨"GiantHeartModel", "readsSum", "()Z"⟩, 76) := ⟨⟨by decide +kernel, by decide +kernel⟩, List.mem_of_getElem? (i := 1166) (by decide +kernel), List.mem_of_getElem? (i := 1477) (by decide +kernel), List.mem_of_getElem? (i := 1478) (by decide +kernel)⟩
theorem lw_p54 : lw_okq (⟨"GiantHeartModel", "readsFactor", "()Z"⟩, 76) := ⟨⟨by decide +kernel, by decide +kernel⟩, List.mem_of_getElem? (i := 1166) (by decide +kernel), List.mem_of_getElem? (i := 1481) (by decide +kernel), List.mem_of_getElem? (i := 1482) (by decide +kernel)⟩
theorem lw_p55 : lw_okq (⟨"GiantHeartModel", "opens", "(I)Z"⟩, 76) := ⟨⟨by decide +kernel, by decide +kernel⟩, List.mem_of_getElem? (i := 1166) (by decide +kernel), List.mem_of_getElem? (i := 1485) (by decide +kernel), List.mem_of_getElem? (i := 1486) (by decide +kernel)⟩
theorem lw_p56 : lw_okq (⟨"GiantHeartModel", "isDigit", "()Z"⟩, 76) := ⟨⟨by decide +kernel, by decide +kernel⟩, List.mem_of_getElem? (i := 1166) (by decide +kernel), List.mem_of_getElem? (i := 1490) (by decide +kernel), List.mem_of_getElem? (i := 1491) (by decide +kernel)⟩
theorem lw_p57 : lw_okq (⟨"GiantHeartModel", "readsNumber", "()Z"⟩, 76) := ⟨⟨by decide +kernel, by decide +kernel⟩, List.mem_of_getElem? (i := 1166) (by decide +kernel), List.mem_of_getElem? (i := 1494) (by decide +kernel), List.mem_of_getElem? (i := 1495) (by decide +kernel)⟩
theorem lw_p58 : lw_okq (⟨"GiantHeartModel", "notes", "(II)V"⟩, 76) := ⟨⟨by decide +kernel, by decide +kernel⟩, List.mem_of_getElem? (i := 1166) (by decide +kernel), List.mem_of_getElem? (i := 1498) (by decide +kernel), List.mem_of_getElem? (i := 1499) (by decide +kernel)⟩
theorem lw_p59 : lw_okq (⟨"GiantHeartModel", "closesSums", "(Z)V"⟩, 76) := ⟨⟨by decide +kernel, by decide +kernel⟩, List.mem_of_getElem? (i := 1166) (by decide +kernel), List.mem_of_getElem? (i := 1508) (by decide +kernel), List.mem_of_getElem? (i := 1509) (by decide +kernel)⟩
theorem lw_p60 : lw_okq (⟨"GiantHeartModel", "waitTop", "()I"⟩, 76) := ⟨⟨by decide +kernel, by decide +kernel⟩, List.mem_of_getElem? (i := 1166) (by decide +kernel), List.mem_of_getElem? (i := 1512) (by decide +kernel), List.mem_of_getElem? (i := 1513) (by decide +kernel)⟩
theorem lw_p61 : lw_okq (⟨"GiantHeartModel", "hasOpenSum", "(I)Z"⟩, 76) := ⟨⟨by decide +kernel, by decide +kernel⟩, List.mem_of_getElem? (i := 1166) (by decide +kernel), List.mem_of_getElem? (i := 1516) (by decide +kernel), List.mem_of_getElem? (i := 1517) (by decide +kernel)⟩
theorem lw_p62 : lw_okq (⟨"GiantHeartModel", "readsCondition", "()Z"⟩, 76) := ⟨⟨by decide +kernel, by decide +kernel⟩, List.mem_of_getElem? (i := 1166) (by decide +kernel), List.mem_of_getElem? (i := 1520) (by decide +kernel), List.mem_of_getElem? (i := 1521) (by decide +kernel)⟩
theorem lw_p63 : lw_okq (⟨"GiantHeartModel", "readsCompared", "()Z"⟩, 76) := ⟨⟨by decide +kernel, by decide +kernel⟩, List.mem_of_getElem? (i := 1166) (by decide +kernel), List.mem_of_getElem? (i := 1524) (by decide +kernel), List.mem_of_getElem? (i := 1525) (by decide +kernel)⟩
def lw_privs_4 : List (MethodName × Nat) := [(⟨"GiantHeartModel", "levels", "(I)I"⟩, 76), (⟨"GiantHeartModel", "types", "(I)V"⟩, 76), (⟨"GiantHeartModel", "readsClause", "()Z"⟩, 76), (⟨"GiantHeartModel", "here", "()I"⟩, 76), (⟨"GiantHeartModel", "wrongAt", "(II)Z"⟩, 76), (⟨"GiantHeartModel", "readsSum", "()Z"⟩, 76), (⟨"GiantHeartModel", "readsFactor", "()Z"⟩, 76), (⟨"GiantHeartModel", "opens", "(I)Z"⟩, 76), (⟨"GiantHeartModel", "isDigit", "()Z"⟩, 76), (⟨"GiantHeartModel", "readsNumber", "()Z"⟩, 76), (⟨"GiantHeartModel", "notes", "(II)V"⟩, 76), (⟨"GiantHeartModel", "closesSums", "(Z)V"⟩, 76), (⟨"GiantHeartModel", "waitTop", "()I"⟩, 76), (⟨"GiantHeartModel", "hasOpenSum", "(I)Z"⟩, 76), (⟨"GiantHeartModel", "readsCondition", "()Z"⟩, 76), (⟨"GiantHeartModel", "readsCompared", "()Z"⟩, 76)]
theorem lw_r4 : ∀ q ∈ lw_privs_4, lw_okq q := List.forall_mem_cons.mpr ⟨lw_p48, List.forall_mem_cons.mpr ⟨lw_p49, List.forall_mem_cons.mpr ⟨lw_p50, List.forall_mem_cons.mpr ⟨lw_p51, List.forall_mem_cons.mpr ⟨lw_p52, List.forall_mem_cons.mpr ⟨lw_p53, List.forall_mem_cons.mpr ⟨lw_p54, List.forall_mem_cons.mpr ⟨lw_p55, List.forall_mem_cons.mpr ⟨lw_p56, List.forall_mem_cons.mpr ⟨lw_p57, List.forall_mem_cons.mpr ⟨lw_p58, List.forall_mem_cons.mpr ⟨lw_p59, List.forall_mem_cons.mpr ⟨lw_p60, List.forall_mem_cons.mpr ⟨lw_p61, List.forall_mem_cons.mpr ⟨lw_p62, List.forall_mem_cons.mpr ⟨lw_p63, fun _ h => absurd h List.not_mem_nil⟩⟩⟩⟩⟩⟩⟩⟩⟩⟩⟩⟩⟩⟩⟩⟩
theorem lw_p64 : lw_okq (⟨"GiantHeartModel", "endsPiece", "()V"⟩, 76) := ⟨⟨by decide +kernel, by decide +kernel⟩, List.mem_of_getElem? (i := 1166) (by decide +kernel), List.mem_of_getElem? (i := 1528) (by decide +kernel), List.mem_of_getElem? (i := 1529) (by decide +kernel)⟩
theorem lw_p65 : lw_okq (⟨"GiantHeartModel", "lands", "(Z)V"⟩, 76) := ⟨⟨by decide +kernel, by decide +kernel⟩, List.mem_of_getElem? (i := 1166) (by decide +kernel), List.mem_of_getElem? (i := 1532) (by decide +kernel), List.mem_of_getElem? (i := 1533) (by decide +kernel)⟩
theorem lw_p66 : lw_okq (⟨"GiantHeartModel", "jumps", "(I)V"⟩, 76) := ⟨⟨by decide +kernel, by decide +kernel⟩, List.mem_of_getElem? (i := 1166) (by decide +kernel), List.mem_of_getElem? (i := 1536) (by decide +kernel), List.mem_of_getElem? (i := 1537) (by decide +kernel)⟩
theorem lw_p67 : lw_okq (⟨"GiantHeartModel", "takes", "(I)Z"⟩, 76) := ⟨⟨by decide +kernel, by decide +kernel⟩, List.mem_of_getElem? (i := 1166) (by decide +kernel), List.mem_of_getElem? (i := 1540) (by decide +kernel), List.mem_of_getElem? (i := 1541) (by decide +kernel)⟩
theorem lw_p68 : lw_okq (⟨"GiantHeartModel", "nightGoes", "(I)I"⟩, 76) := ⟨⟨by decide +kernel, by decide +kernel⟩, List.mem_of_getElem? (i := 1166) (by decide +kernel), List.mem_of_getElem? (i := 1548) (by decide +kernel), List.mem_of_getElem? (i := 1549) (by decide +kernel)⟩
theorem lw_p69 : lw_okq (⟨"GiantHeartModel", "draws", "()I"⟩, 76) := ⟨⟨by decide +kernel, by decide +kernel⟩, List.mem_of_getElem? (i := 1166) (by decide +kernel), List.mem_of_getElem? (i := 1552) (by decide +kernel), List.mem_of_getElem? (i := 1553) (by decide +kernel)⟩
theorem lw_p70 : lw_okq (⟨"GiantHeartModel", "movesTo", "(IIIII)I"⟩, 76) := ⟨⟨by decide +kernel, by decide +kernel⟩, List.mem_of_getElem? (i := 1166) (by decide +kernel), List.mem_of_getElem? (i := 1557) (by decide +kernel), List.mem_of_getElem? (i := 1558) (by decide +kernel)⟩
theorem lw_p71 : lw_okq (⟨"GiantHeartModel", "feels", "(IIIII)V"⟩, 76) := ⟨⟨by decide +kernel, by decide +kernel⟩, List.mem_of_getElem? (i := 1166) (by decide +kernel), List.mem_of_getElem? (i := 1561) (by decide +kernel), List.mem_of_getElem? (i := 1562) (by decide +kernel)⟩
theorem lw_p72 : lw_okq (⟨"GiantHeartModel", "nextLevel", "(I)I"⟩, 76) := ⟨⟨by decide +kernel, by decide +kernel⟩, List.mem_of_getElem? (i := 1166) (by decide +kernel), List.mem_of_getElem? (i := 1565) (by decide +kernel), List.mem_of_getElem? (i := 1566) (by decide +kernel)⟩
theorem lw_p73 : lw_okq (⟨"GiantHeartModel", "byLaw", "(II)I"⟩, 76) := ⟨⟨by decide +kernel, by decide +kernel⟩, List.mem_of_getElem? (i := 1166) (by decide +kernel), List.mem_of_getElem? (i := 1569) (by decide +kernel), List.mem_of_getElem? (i := 1570) (by decide +kernel)⟩
theorem lw_p74 : lw_okq (⟨"GiantHeartModel", "comesTo", "(II)I"⟩, 76) := ⟨⟨by decide +kernel, by decide +kernel⟩, List.mem_of_getElem? (i := 1166) (by decide +kernel), List.mem_of_getElem? (i := 1573) (by decide +kernel), List.mem_of_getElem? (i := 1574) (by decide +kernel)⟩
theorem lw_p75 : lw_okq (⟨"GiantHeartModel", "saysOf", "(IIIII)I"⟩, 76) := ⟨⟨by decide +kernel, by decide +kernel⟩, List.mem_of_getElem? (i := 1166) (by decide +kernel), List.mem_of_getElem? (i := 1580) (by decide +kernel), List.mem_of_getElem? (i := 1581) (by decide +kernel)⟩
theorem lw_p76 : lw_okq (⟨"GiantHeartModel", "readsAct", "()Z"⟩, 76) := ⟨⟨by decide +kernel, by decide +kernel⟩, List.mem_of_getElem? (i := 1166) (by decide +kernel), List.mem_of_getElem? (i := 1592) (by decide +kernel), List.mem_of_getElem? (i := 1593) (by decide +kernel)⟩
theorem lw_p77 : lw_okq (⟨"GiantHeartModel", "begins", "()V"⟩, 76) := ⟨⟨by decide +kernel, by decide +kernel⟩, List.mem_of_getElem? (i := 1166) (by decide +kernel), List.mem_of_getElem? (i := 1602) (by decide +kernel), List.mem_of_getElem? (i := 1603) (by decide +kernel)⟩
theorem lw_p78 : lw_okq (⟨"GiantHeartModel", "does", "(II)Z"⟩, 76) := ⟨⟨by decide +kernel, by decide +kernel⟩, List.mem_of_getElem? (i := 1166) (by decide +kernel), List.mem_of_getElem? (i := 1606) (by decide +kernel), List.mem_of_getElem? (i := 1607) (by decide +kernel)⟩
theorem lw_p79 : lw_okq (⟨"GiantHeartModel", "canOpen", "(IIIII)Z"⟩, 76) := ⟨⟨by decide +kernel, by decide +kernel⟩, List.mem_of_getElem? (i := 1166) (by decide +kernel), List.mem_of_getElem? (i := 1613) (by decide +kernel), List.mem_of_getElem? (i := 1614) (by decide +kernel)⟩
def lw_privs_5 : List (MethodName × Nat) := [(⟨"GiantHeartModel", "endsPiece", "()V"⟩, 76), (⟨"GiantHeartModel", "lands", "(Z)V"⟩, 76), (⟨"GiantHeartModel", "jumps", "(I)V"⟩, 76), (⟨"GiantHeartModel", "takes", "(I)Z"⟩, 76), (⟨"GiantHeartModel", "nightGoes", "(I)I"⟩, 76), (⟨"GiantHeartModel", "draws", "()I"⟩, 76), (⟨"GiantHeartModel", "movesTo", "(IIIII)I"⟩, 76), (⟨"GiantHeartModel", "feels", "(IIIII)V"⟩, 76), (⟨"GiantHeartModel", "nextLevel", "(I)I"⟩, 76), (⟨"GiantHeartModel", "byLaw", "(II)I"⟩, 76), (⟨"GiantHeartModel", "comesTo", "(II)I"⟩, 76), (⟨"GiantHeartModel", "saysOf", "(IIIII)I"⟩, 76), (⟨"GiantHeartModel", "readsAct", "()Z"⟩, 76), (⟨"GiantHeartModel", "begins", "()V"⟩, 76), (⟨"GiantHeartModel", "does", "(II)Z"⟩, 76), (⟨"GiantHeartModel", "canOpen", "(IIIII)Z"⟩, 76)]
theorem lw_r5 : ∀ q ∈ lw_privs_5, lw_okq q := List.forall_mem_cons.mpr ⟨lw_p64, List.forall_mem_cons.mpr ⟨lw_p65, List.forall_mem_cons.mpr ⟨lw_p66, List.forall_mem_cons.mpr ⟨lw_p67, List.forall_mem_cons.mpr ⟨lw_p68, List.forall_mem_cons.mpr ⟨lw_p69, List.forall_mem_cons.mpr ⟨lw_p70, List.forall_mem_cons.mpr ⟨lw_p71, List.forall_mem_cons.mpr ⟨lw_p72, List.forall_mem_cons.mpr ⟨lw_p73, List.forall_mem_cons.mpr ⟨lw_p74, List.forall_mem_cons.mpr ⟨lw_p75, List.forall_mem_cons.mpr ⟨lw_p76, List.forall_mem_cons.mpr ⟨lw_p77, List.forall_mem_cons.mpr ⟨lw_p78, List.forall_mem_cons.mpr ⟨lw_p79, fun _ h => absurd h List.not_mem_nil⟩⟩⟩⟩⟩⟩⟩⟩⟩⟩⟩⟩⟩⟩⟩⟩
theorem lw_p80 : lw_okq (⟨"GiantHeartModel", "isFree", "(II)Z"⟩, 76) := ⟨⟨by decide +kernel, by decide +kernel⟩, List.mem_of_getElem? (i := 1166) (by decide +kernel), List.mem_of_getElem? (i := 1617) (by decide +kernel), List.mem_of_getElem? (i := 1618) (by decide +kernel)⟩
theorem lw_p81 : lw_okq (⟨"GiantHeartModel", "isHad", "(I)Z"⟩, 76) := ⟨⟨by decide +kernel, by decide +kernel⟩, List.mem_of_getElem? (i := 1166) (by decide +kernel), List.mem_of_getElem? (i := 1621) (by decide +kernel), List.mem_of_getElem? (i := 1622) (by decide +kernel)⟩
theorem lw_p82 : lw_okq (⟨"GiantHeartModel", "aims", "()I"⟩, 76) := ⟨⟨by decide +kernel, by decide +kernel⟩, List.mem_of_getElem? (i := 1166) (by decide +kernel), List.mem_of_getElem? (i := 1625) (by decide +kernel), List.mem_of_getElem? (i := 1626) (by decide +kernel)⟩
theorem lw_p83 : lw_okq (⟨"GiantHeartModel", "solves", "(Z)I"⟩, 76) := ⟨⟨by decide +kernel, by decide +kernel⟩, List.mem_of_getElem? (i := 1166) (by decide +kernel), List.mem_of_getElem? (i := 1633) (by decide +kernel), List.mem_of_getElem? (i := 1634) (by decide +kernel)⟩
theorem lw_p84 : lw_okq (⟨"GiantHeartModel", "laysFor", "(II)V"⟩, 76) := ⟨⟨by decide +kernel, by decide +kernel⟩, List.mem_of_getElem? (i := 1166) (by decide +kernel), List.mem_of_getElem? (i := 1637) (by decide +kernel), List.mem_of_getElem? (i := 1638) (by decide +kernel)⟩
theorem lw_p85 : lw_okq (⟨"GiantHeartModel", "keysWith", "(II)I"⟩, 76) := ⟨⟨by decide +kernel, by decide +kernel⟩, List.mem_of_getElem? (i := 1166) (by decide +kernel), List.mem_of_getElem? (i := 1641) (by decide +kernel), List.mem_of_getElem? (i := 1642) (by decide +kernel)⟩
theorem lw_p86 : lw_okq (⟨"GiantHeartModel", "bestBy", "(IIII)I"⟩, 76) := ⟨⟨by decide +kernel, by decide +kernel⟩, List.mem_of_getElem? (i := 1166) (by decide +kernel), List.mem_of_getElem? (i := 1651) (by decide +kernel), List.mem_of_getElem? (i := 1652) (by decide +kernel)⟩
theorem lw_p87 : lw_okq (⟨"GiantHeartModel", "behind", "(IIIIII)I"⟩, 76) := ⟨⟨by decide +kernel, by decide +kernel⟩, List.mem_of_getElem? (i := 1166) (by decide +kernel), List.mem_of_getElem? (i := 1656) (by decide +kernel), List.mem_of_getElem? (i := 1657) (by decide +kernel)⟩
theorem lw_p88 : lw_okq (⟨"GiantHeartModel", "costOf", "(III)I"⟩, 76) := ⟨⟨by decide +kernel, by decide +kernel⟩, List.mem_of_getElem? (i := 1166) (by decide +kernel), List.mem_of_getElem? (i := 1663) (by decide +kernel), List.mem_of_getElem? (i := 1664) (by decide +kernel)⟩
theorem lw_p89 : lw_okq (⟨"GiantHeartModel", "firstAct", "(I)I"⟩, 76) := ⟨⟨by decide +kernel, by decide +kernel⟩, List.mem_of_getElem? (i := 1166) (by decide +kernel), List.mem_of_getElem? (i := 1674) (by decide +kernel), List.mem_of_getElem? (i := 1675) (by decide +kernel)⟩
theorem lw_p90 : lw_okq (⟨"GiantHeartModel", "readsRow", "(I)Z"⟩, 76) := ⟨⟨by decide +kernel, by decide +kernel⟩, List.mem_of_getElem? (i := 1166) (by decide +kernel), List.mem_of_getElem? (i := 1689) (by decide +kernel), List.mem_of_getElem? (i := 1690) (by decide +kernel)⟩
theorem lw_p91 : lw_okq (⟨"GiantHeartModel", "hides", "()V"⟩, 76) := ⟨⟨by decide +kernel, by decide +kernel⟩, List.mem_of_getElem? (i := 1166) (by decide +kernel), List.mem_of_getElem? (i := 1693) (by decide +kernel), List.mem_of_getElem? (i := 1694) (by decide +kernel)⟩
theorem lw_p92 : lw_okq (⟨"GiantHeartModel", "comesBack", "()V"⟩, 76) := ⟨⟨by decide +kernel, by decide +kernel⟩, List.mem_of_getElem? (i := 1166) (by decide +kernel), List.mem_of_getElem? (i := 1697) (by decide +kernel), List.mem_of_getElem? (i := 1698) (by decide +kernel)⟩
theorem lw_p93 : lw_okq (⟨"GiantHeartModel", "readsStory", "(I)Z"⟩, 76) := ⟨⟨by decide +kernel, by decide +kernel⟩, List.mem_of_getElem? (i := 1166) (by decide +kernel), List.mem_of_getElem? (i := 1706) (by decide +kernel), List.mem_of_getElem? (i := 1707) (by decide +kernel)⟩
theorem lw_p94 : lw_okq (⟨"GiantHeartModel", "readsNight", "()Z"⟩, 76) := ⟨⟨by decide +kernel, by decide +kernel⟩, List.mem_of_getElem? (i := 1166) (by decide +kernel), List.mem_of_getElem? (i := 1710) (by decide +kernel), List.mem_of_getElem? (i := 1711) (by decide +kernel)⟩
theorem lw_p95 : lw_okq (⟨"GiantHeartModel", "arePlaces", "(I)Z"⟩, 76) := ⟨⟨by decide +kernel, by decide +kernel⟩, List.mem_of_getElem? (i := 1166) (by decide +kernel), List.mem_of_getElem? (i := 1714) (by decide +kernel), List.mem_of_getElem? (i := 1715) (by decide +kernel)⟩
def lw_privs_6 : List (MethodName × Nat) := [(⟨"GiantHeartModel", "isFree", "(II)Z"⟩, 76), (⟨"GiantHeartModel", "isHad", "(I)Z"⟩, 76), (⟨"GiantHeartModel", "aims", "()I"⟩, 76), (⟨"GiantHeartModel", "solves", "(Z)I"⟩, 76), (⟨"GiantHeartModel", "laysFor", "(II)V"⟩, 76), (⟨"GiantHeartModel", "keysWith", "(II)I"⟩, 76), (⟨"GiantHeartModel", "bestBy", "(IIII)I"⟩, 76), (⟨"GiantHeartModel", "behind", "(IIIIII)I"⟩, 76), (⟨"GiantHeartModel", "costOf", "(III)I"⟩, 76), (⟨"GiantHeartModel", "firstAct", "(I)I"⟩, 76), (⟨"GiantHeartModel", "readsRow", "(I)Z"⟩, 76), (⟨"GiantHeartModel", "hides", "()V"⟩, 76), (⟨"GiantHeartModel", "comesBack", "()V"⟩, 76), (⟨"GiantHeartModel", "readsStory", "(I)Z"⟩, 76), (⟨"GiantHeartModel", "readsNight", "()Z"⟩, 76), (⟨"GiantHeartModel", "arePlaces", "(I)Z"⟩, 76)]
theorem lw_r6 : ∀ q ∈ lw_privs_6, lw_okq q := List.forall_mem_cons.mpr ⟨lw_p80, List.forall_mem_cons.mpr ⟨lw_p81, List.forall_mem_cons.mpr ⟨lw_p82, List.forall_mem_cons.mpr ⟨lw_p83, List.forall_mem_cons.mpr ⟨lw_p84, List.forall_mem_cons.mpr ⟨lw_p85, List.forall_mem_cons.mpr ⟨lw_p86, List.forall_mem_cons.mpr ⟨lw_p87, List.forall_mem_cons.mpr ⟨lw_p88, List.forall_mem_cons.mpr ⟨lw_p89, List.forall_mem_cons.mpr ⟨lw_p90, List.forall_mem_cons.mpr ⟨lw_p91, List.forall_mem_cons.mpr ⟨lw_p92, List.forall_mem_cons.mpr ⟨lw_p93, List.forall_mem_cons.mpr ⟨lw_p94, List.forall_mem_cons.mpr ⟨lw_p95, fun _ h => absurd h List.not_mem_nil⟩⟩⟩⟩⟩⟩⟩⟩⟩⟩⟩⟩⟩⟩⟩⟩
theorem lw_p96 : lw_okq (⟨"GiantHeartModel", "goesThrough", "(I)J"⟩, 76) := ⟨⟨by decide +kernel, by decide +kernel⟩, List.mem_of_getElem? (i := 1166) (by decide +kernel), List.mem_of_getElem? (i := 1719) (by decide +kernel), List.mem_of_getElem? (i := 1720) (by decide +kernel)⟩
theorem lw_p97 : lw_okq (⟨"GiantHeartModel", "spreads", "(III)V"⟩, 76) := ⟨⟨by decide +kernel, by decide +kernel⟩, List.mem_of_getElem? (i := 1166) (by decide +kernel), List.mem_of_getElem? (i := 1723) (by decide +kernel), List.mem_of_getElem? (i := 1724) (by decide +kernel)⟩
theorem lw_p98 : lw_okq (⟨"GiantHeartModel", "weights", "()J"⟩, 76) := ⟨⟨by decide +kernel, by decide +kernel⟩, List.mem_of_getElem? (i := 1166) (by decide +kernel), List.mem_of_getElem? (i := 1727) (by decide +kernel), List.mem_of_getElem? (i := 1728) (by decide +kernel)⟩
theorem lw_p99 : lw_okq (⟨"GiantHeartModel", "guessed", "(I)J"⟩, 76) := ⟨⟨by decide +kernel, by decide +kernel⟩, List.mem_of_getElem? (i := 1166) (by decide +kernel), List.mem_of_getElem? (i := 1742) (by decide +kernel), List.mem_of_getElem? (i := 1743) (by decide +kernel)⟩
theorem lw_p100 : lw_okq (⟨"GiantHeartModel", "tellsAll", "(I)Z"⟩, 76) := ⟨⟨by decide +kernel, by decide +kernel⟩, List.mem_of_getElem? (i := 1166) (by decide +kernel), List.mem_of_getElem? (i := 1763) (by decide +kernel), List.mem_of_getElem? (i := 1764) (by decide +kernel)⟩
theorem lw_p101 : lw_okq (⟨"GiantHeartModel", "areAlike", "(III)Z"⟩, 76) := ⟨⟨by decide +kernel, by decide +kernel⟩, List.mem_of_getElem? (i := 1166) (by decide +kernel), List.mem_of_getElem? (i := 1767) (by decide +kernel), List.mem_of_getElem? (i := 1768) (by decide +kernel)⟩
theorem lw_p102 : lw_okq (⟨"GiantHeartModel", "ringOf", "(I)I"⟩, 76) := ⟨⟨by decide +kernel, by decide +kernel⟩, List.mem_of_getElem? (i := 1166) (by decide +kernel), List.mem_of_getElem? (i := 1783) (by decide +kernel), List.mem_of_getElem? (i := 1784) (by decide +kernel)⟩
theorem lw_p103 : lw_okq (⟨"GiantHeartModel", "isLowest", "(I)Z"⟩, 76) := ⟨⟨by decide +kernel, by decide +kernel⟩, List.mem_of_getElem? (i := 1166) (by decide +kernel), List.mem_of_getElem? (i := 1790) (by decide +kernel), List.mem_of_getElem? (i := 1791) (by decide +kernel)⟩
theorem lw_p104 : lw_okq (⟨"GiantHeartModel", "tapeNumber", "(I)I"⟩, 76) := ⟨⟨by decide +kernel, by decide +kernel⟩, List.mem_of_getElem? (i := 1166) (by decide +kernel), List.mem_of_getElem? (i := 1814) (by decide +kernel), List.mem_of_getElem? (i := 1815) (by decide +kernel)⟩
def lw_privs_7 : List (MethodName × Nat) := [(⟨"GiantHeartModel", "goesThrough", "(I)J"⟩, 76), (⟨"GiantHeartModel", "spreads", "(III)V"⟩, 76), (⟨"GiantHeartModel", "weights", "()J"⟩, 76), (⟨"GiantHeartModel", "guessed", "(I)J"⟩, 76), (⟨"GiantHeartModel", "tellsAll", "(I)Z"⟩, 76), (⟨"GiantHeartModel", "areAlike", "(III)Z"⟩, 76), (⟨"GiantHeartModel", "ringOf", "(I)I"⟩, 76), (⟨"GiantHeartModel", "isLowest", "(I)Z"⟩, 76), (⟨"GiantHeartModel", "tapeNumber", "(I)I"⟩, 76)]
theorem lw_r7 : ∀ q ∈ lw_privs_7, lw_okq q := List.forall_mem_cons.mpr ⟨lw_p96, List.forall_mem_cons.mpr ⟨lw_p97, List.forall_mem_cons.mpr ⟨lw_p98, List.forall_mem_cons.mpr ⟨lw_p99, List.forall_mem_cons.mpr ⟨lw_p100, List.forall_mem_cons.mpr ⟨lw_p101, List.forall_mem_cons.mpr ⟨lw_p102, List.forall_mem_cons.mpr ⟨lw_p103, List.forall_mem_cons.mpr ⟨lw_p104, fun _ h => absurd h List.not_mem_nil⟩⟩⟩⟩⟩⟩⟩⟩⟩
def lw_privs : List (MethodName × Nat) := lw_privs_1 ++ (lw_privs_2 ++ (lw_privs_3 ++ (lw_privs_4 ++ (lw_privs_5 ++ (lw_privs_6 ++ (lw_privs_7))))))
def lw_tbl : List Cond := k2_sels lw_privs ++ tables_1
theorem lw_privs_ok : ∀ q ∈ lw_privs, lw_okq q := by
  show ∀ q ∈ lw_privs_1 ++ (lw_privs_2 ++ (lw_privs_3 ++ (lw_privs_4 ++ (lw_privs_5 ++ (lw_privs_6 ++ (lw_privs_7)))))), lw_okq q
  exact List.forall_mem_append.mpr ⟨lw_r1, List.forall_mem_append.mpr ⟨lw_r2, List.forall_mem_append.mpr ⟨lw_r3, List.forall_mem_append.mpr ⟨lw_r4, List.forall_mem_append.mpr ⟨lw_r5, List.forall_mem_append.mpr ⟨lw_r6, lw_r7⟩⟩⟩⟩⟩⟩
def RX0 : String := "GiantHeart$Eggs"
def TX0 : u_T := fun k => match k with
  | 0 => ("GiantHeart$Eggs", "told", "I", false)
  | _ => ("GiantHeart$Eggs", "shown", "[I", true)
def tyX0 : Nat → FieldType := fun k => match k with
  | 0 => .int
  | _ => .array .int
abbrev wsX00 : List Cond := u_ws RX0 TX0 2
theorem nmX0 : ∀ a, a < 2 → ∀ b, b < 2 → a ≠ b → (TX0 a).2.1 ≠ (TX0 b).2.1 := by decide +kernel
theorem tyX0_ok : ∀ k, k < 2 → parseFieldDescriptor (TX0 k).2.2.1 = some (tyX0 k) := by decide +kernel
abbrev cX0_init : ByteArray := prog_2_method_1_code
def yX0_init : MethodName := ⟨RX0, "<init>", "()V"⟩
abbrev cX0_tell : ByteArray := prog_2_method_2_code
def yX0_tell : MethodName := ⟨RX0, "tell", "(IZ)Z"⟩
abbrev cX0_isTold : ByteArray := prog_2_method_3_code
def yX0_isTold : MethodName := ⟨RX0, "isTold", "(I)Z"⟩
abbrev cX0_show : ByteArray := prog_2_method_4_code
def yX0_show : MethodName := ⟨RX0, "show", "(II)Z"⟩
abbrev cX0_isShownAlike : ByteArray := prog_2_method_5_code
def yX0_isShownAlike : MethodName := ⟨RX0, "isShownAlike", "(III)Z"⟩
abbrev cX0_sameAs : ByteArray := prog_2_method_6_code
def yX0_sameAs : MethodName := ⟨RX0, "sameAs", "(II)I"⟩
abbrev cX0_areApart : ByteArray := prog_2_method_7_code
def yX0_areApart : MethodName := ⟨RX0, "areApart", "(I)Z"⟩
abbrev cX0_fewestTests : ByteArray := prog_2_method_8_code
def yX0_fewestTests : MethodName := ⟨RX0, "fewestTests", "(I)I"⟩
def RX1 : String := "GiantHeart$Law"
def TX1 : u_T := fun k => match k with
  | 0 => ("GiantHeart$Law", "signs", "[I", true)
  | 1 => ("GiantHeart$Law", "values", "[I", true)
  | 2 => ("GiantHeart$Law", "steps", "I", false)
  | 3 => ("GiantHeart$Law", "kinds", "[I", true)
  | 4 => ("GiantHeart$Law", "starts", "[I", true)
  | 5 => ("GiantHeart$Law", "conditions", "[I", true)
  | 6 => ("GiantHeart$Law", "ends", "[I", true)
  | 7 => ("GiantHeart$Law", "clauses", "I", false)
  | 8 => ("GiantHeart$Law", "asksDraw", "Z", false)
  | 9 => ("GiantHeart$Law", "text", "[I", true)
  | 10 => ("GiantHeart$Law", "length", "I", false)
  | 11 => ("GiantHeart$Law", "at", "I", false)
  | 12 => ("GiantHeart$Law", "fault", "I", false)
  | _ => ("GiantHeart$Law", "stack", "[I", true)
def tyX1 : Nat → FieldType := fun k => match k with
  | 0 => .array .int
  | 1 => .array .int
  | 2 => .int
  | 3 => .array .int
  | 4 => .array .int
  | 5 => .array .int
  | 6 => .array .int
  | 7 => .int
  | 8 => .boolean
  | 9 => .array .int
  | 10 => .int
  | 11 => .int
  | 12 => .int
  | _ => .array .int
abbrev wsX10 : List Cond := u_ws RX1 TX1 14
theorem nmX1 : ∀ a, a < 14 → ∀ b, b < 14 → a ≠ b → (TX1 a).2.1 ≠ (TX1 b).2.1 := by decide +kernel
theorem tyX1_ok : ∀ k, k < 14 → parseFieldDescriptor (TX1 k).2.2.1 = some (tyX1 k) := by decide +kernel
abbrev cX1_init : ByteArray := prog_3_method_1_code
def yX1_init : MethodName := ⟨RX1, "<init>", "()V"⟩
abbrev cX1_takeOver : ByteArray := prog_3_method_2_code
def yX1_takeOver : MethodName := ⟨RX1, "takeOver", "(LGiantHeart$Law;)V"⟩
abbrev cX1_read : ByteArray := prog_3_method_3_code
def yX1_read : MethodName := ⟨RX1, "read", "(LGiantHeart$Tape;)I"⟩
abbrev cX1_readClause : ByteArray := prog_3_method_4_code
def yX1_readClause : MethodName := ⟨RX1, "readClause", "()Z"⟩
abbrev cX1_here : ByteArray := prog_3_method_5_code
def yX1_here : MethodName := ⟨RX1, "here", "()I"⟩
abbrev cX1_wrong : ByteArray := prog_3_method_6_code
def yX1_wrong : MethodName := ⟨RX1, "wrong", "(I)Z"⟩
abbrev cX1_readSign : ByteArray := prog_3_method_7_code
def yX1_readSign : MethodName := ⟨RX1, "readSign", "(I)Z"⟩
abbrev cX1_put : ByteArray := prog_3_method_8_code
def yX1_put : MethodName := ⟨RX1, "put", "(II)I"⟩
abbrev cX1_leadHere : ByteArray := prog_3_method_9_code
def yX1_leadHere : MethodName := ⟨RX1, "leadHere", "(I)V"⟩
abbrev cX1_readCondition : ByteArray := prog_3_method_10_code
def yX1_readCondition : MethodName := ⟨RX1, "readCondition", "(I)Z"⟩
abbrev cX1_readPiece : ByteArray := prog_3_method_11_code
def yX1_readPiece : MethodName := ⟨RX1, "readPiece", "(I)Z"⟩
abbrev cX1_readSum : ByteArray := prog_3_method_12_code
def yX1_readSum : MethodName := ⟨RX1, "readSum", "(I)Z"⟩
abbrev cX1_readFactor : ByteArray := prog_3_method_13_code
def yX1_readFactor : MethodName := ⟨RX1, "readFactor", "(I)Z"⟩
abbrev cX1_ask : ByteArray := prog_3_method_14_code
def yX1_ask : MethodName := ⟨RX1, "ask", "(I[I)I"⟩
abbrev cX1_run : ByteArray := prog_3_method_15_code
def yX1_run : MethodName := ⟨RX1, "run", "(II[I)I"⟩
abbrev cX1_reckoned : ByteArray := prog_3_method_16_code
def yX1_reckoned : MethodName := ⟨RX1, "reckoned", "(III)I"⟩
def RX2 : String := "GiantHeart$Lots"
def TX2 : u_T := fun k => match k with
  | 0 => ("GiantHeart$Lots", "worths", "[I", true)
  | 1 => ("GiantHeart$Lots", "many", "I", false)
  | 2 => ("GiantHeart$Lots", "product", "J", false)
  | _ => ("GiantHeart$Lots", "sum", "J", false)
def tyX2 : Nat → FieldType := fun k => match k with
  | 0 => .array .int
  | 1 => .int
  | 2 => .long
  | _ => .long
abbrev wsX20 : List Cond := u_ws RX2 TX2 4
theorem nmX2 : ∀ a, a < 4 → ∀ b, b < 4 → a ≠ b → (TX2 a).2.1 ≠ (TX2 b).2.1 := by decide +kernel
theorem tyX2_ok : ∀ k, k < 4 → parseFieldDescriptor (TX2 k).2.2.1 = some (tyX2 k) := by decide +kernel
abbrev cX2_init : ByteArray := prog_4_method_1_code
def yX2_init : MethodName := ⟨RX2, "<init>", "()V"⟩
abbrev cX2_read : ByteArray := prog_4_method_2_code
def yX2_read : MethodName := ⟨RX2, "read", "(LGiantHeart$Tape;I)Z"⟩
abbrev cX2_othersThan : ByteArray := prog_4_method_3_code
def yX2_othersThan : MethodName := ⟨RX2, "othersThan", "(I)J"⟩
abbrev cX2_answer : ByteArray := prog_4_method_4_code
def yX2_answer : MethodName := ⟨RX2, "answer", "(I)J"⟩
def RX3 : String := "GiantHeart$Nights"
def TX3 : u_T := fun k => match k with
  | 0 => ("GiantHeart$Nights", "world", "LGiantHeart$World;", true)
  | 1 => ("GiantHeart$Nights", "law", "LGiantHeart$Law;", true)
  | 2 => ("GiantHeart$Nights", "letters", "[I", true)
  | 3 => ("GiantHeart$Nights", "heart", "I", false)
  | 4 => ("GiantHeart$Nights", "night", "I", false)
  | 5 => ("GiantHeart$Nights", "said", "I", false)
  | _ => ("GiantHeart$Nights", "x", "I", false)
def tyX3 : Nat → FieldType := fun k => match k with
  | 0 => .object "GiantHeart$World"
  | 1 => .object "GiantHeart$Law"
  | 2 => .array .int
  | 3 => .int
  | 4 => .int
  | 5 => .int
  | _ => .int
abbrev wsX30 : List Cond := u_ws RX3 TX3 7
theorem nmX3 : ∀ a, a < 7 → ∀ b, b < 7 → a ≠ b → (TX3 a).2.1 ≠ (TX3 b).2.1 := by decide +kernel
theorem tyX3_ok : ∀ k, k < 7 → parseFieldDescriptor (TX3 k).2.2.1 = some (tyX3 k) := by decide +kernel
abbrev cX3_init : ByteArray := prog_5_method_1_code
def yX3_init : MethodName := ⟨RX3, "<init>", "(LGiantHeart$World;LGiantHeart$Law;)V"⟩
abbrev cX3_begin : ByteArray := prog_5_method_2_code
def yX3_begin : MethodName := ⟨RX3, "begin", "()V"⟩
abbrev cX3_pass : ByteArray := prog_5_method_3_code
def yX3_pass : MethodName := ⟨RX3, "pass", "(I)V"⟩
abbrev cX3_passFrom : ByteArray := prog_5_method_4_code
def yX3_passFrom : MethodName := ⟨RX3, "passFrom", "(III)V"⟩
abbrev cX3_turnTo : ByteArray := prog_5_method_5_code
def yX3_turnTo : MethodName := ⟨RX3, "turnTo", "(II)V"⟩
abbrev cX3_look : ByteArray := prog_5_method_6_code
def yX3_look : MethodName := ⟨RX3, "look", "()V"⟩
abbrev cX3_trial : ByteArray := prog_5_method_7_code
def yX3_trial : MethodName := ⟨RX3, "trial", "(II)I"⟩
def RX4 : String := "GiantHeart$Planner"
def TX4 : u_T := fun k => match k with
  | 0 => ("GiantHeart$Planner", "seeker", "LGiantHeart$Seeker;", true)
  | 1 => ("GiantHeart$Planner", "far", "[I", true)
  | 2 => ("GiantHeart$Planner", "paths", "[I", true)
  | 3 => ("GiantHeart$Planner", "entry", "[I", true)
  | 4 => ("GiantHeart$Planner", "written", "[I", true)
  | 5 => ("GiantHeart$Planner", "byActs", "Z", false)
  | 6 => ("GiantHeart$Planner", "useful", "I", false)
  | 7 => ("GiantHeart$Planner", "helpful", "[I", true)
  | 8 => ("GiantHeart$Planner", "best", "I", false)
  | 9 => ("GiantHeart$Planner", "hiders", "[I", true)
  | 10 => ("GiantHeart$Planner", "homes", "[I", true)
  | 11 => ("GiantHeart$Planner", "row", "[I", true)
  | 12 => ("GiantHeart$Planner", "bestRow", "[I", true)
  | _ => ("GiantHeart$Planner", "many", "I", false)
def tyX4 : Nat → FieldType := fun k => match k with
  | 0 => .object "GiantHeart$Seeker"
  | 1 => .array .int
  | 2 => .array .int
  | 3 => .array .int
  | 4 => .array .int
  | 5 => .boolean
  | 6 => .int
  | 7 => .array .int
  | 8 => .int
  | 9 => .array .int
  | 10 => .array .int
  | 11 => .array .int
  | 12 => .array .int
  | _ => .int
abbrev wsX40 : List Cond := u_ws RX4 TX4 14
theorem nmX4 : ∀ a, a < 14 → ∀ b, b < 14 → a ≠ b → (TX4 a).2.1 ≠ (TX4 b).2.1 := by decide +kernel
theorem tyX4_ok : ∀ k, k < 14 → parseFieldDescriptor (TX4 k).2.2.1 = some (tyX4 k) := by decide +kernel
abbrev cX4_init : ByteArray := prog_6_method_1_code
def yX4_init : MethodName := ⟨RX4, "<init>", "(LGiantHeart$Seeker;)V"⟩
abbrev cX4_days : ByteArray := prog_6_method_2_code
def yX4_days : MethodName := ⟨RX4, "days", "()I"⟩
abbrev cX4_rest : ByteArray := prog_6_method_3_code
def yX4_rest : MethodName := ⟨RX4, "rest", "()I"⟩
abbrev cX4_actAt : ByteArray := prog_6_method_4_code
def yX4_actAt : MethodName := ⟨RX4, "actAt", "(I)I"⟩
abbrev cX4_search : ByteArray := prog_6_method_5_code
def yX4_search : MethodName := ⟨RX4, "search", "(Z)Z"⟩
abbrev cX4_findUseful : ByteArray := prog_6_method_6_code
def yX4_findUseful : MethodName := ⟨RX4, "findUseful", "()V"⟩
abbrev cX4_clear : ByteArray := prog_6_method_7_code
def yX4_clear : MethodName := ⟨RX4, "clear", "(I)V"⟩
abbrev cX4_price : ByteArray := prog_6_method_8_code
def yX4_price : MethodName := ⟨RX4, "price", "(II)I"⟩
abbrev cX4_findPaths : ByteArray := prog_6_method_9_code
def yX4_findPaths : MethodName := ⟨RX4, "findPaths", "()V"⟩
abbrev cX4_advance : ByteArray := prog_6_method_10_code
def yX4_advance : MethodName := ⟨RX4, "advance", "(I)V"⟩
abbrev cX4_settle : ByteArray := prog_6_method_11_code
def yX4_settle : MethodName := ⟨RX4, "settle", "(I)Z"⟩
abbrev cX4_leave : ByteArray := prog_6_method_12_code
def yX4_leave : MethodName := ⟨RX4, "leave", "(I)V"⟩
abbrev cX4_helpfulBits : ByteArray := prog_6_method_13_code
def yX4_helpfulBits : MethodName := ⟨RX4, "helpfulBits", "(I)I"⟩
abbrev cX4_write : ByteArray := prog_6_method_14_code
def yX4_write : MethodName := ⟨RX4, "write", "()I"⟩
abbrev cX4_follow : ByteArray := prog_6_method_15_code
def yX4_follow : MethodName := ⟨RX4, "follow", "(II)Z"⟩
abbrev cX4_hide : ByteArray := prog_6_method_16_code
def yX4_hide : MethodName := ⟨RX4, "hide", "(LGiantHeart$World;I)I"⟩
abbrev cX4_takeRow : ByteArray := prog_6_method_17_code
def yX4_takeRow : MethodName := ⟨RX4, "takeRow", "(I)Z"⟩
abbrev cX4_placeOfWhich : ByteArray := prog_6_method_18_code
def yX4_placeOfWhich : MethodName := ⟨RX4, "placeOfWhich", "(I)I"⟩
abbrev cX4_putSo : ByteArray := prog_6_method_19_code
def yX4_putSo : MethodName := ⟨RX4, "putSo", "(LGiantHeart$World;)V"⟩
def RX5 : String := "GiantHeart$Seeker"
def TX5 : u_T := fun k => match k with
  | 0 => ("GiantHeart$Seeker", "world", "LGiantHeart$World;", true)
  | 1 => ("GiantHeart$Seeker", "placesOn", "[I", true)
  | 2 => ("GiantHeart$Seeker", "waysFrom", "[I", true)
  | 3 => ("GiantHeart$Seeker", "around", "[I", true)
  | 4 => ("GiantHeart$Seeker", "where", "[I", true)
  | 5 => ("GiantHeart$Seeker", "mouths", "[I", true)
  | 6 => ("GiantHeart$Seeker", "goal", "I", false)
  | 7 => ("GiantHeart$Seeker", "island", "I", false)
  | 8 => ("GiantHeart$Seeker", "opened", "I", false)
  | 9 => ("GiantHeart$Seeker", "beasts", "I", false)
  | 10 => ("GiantHeart$Seeker", "keys", "I", false)
  | 11 => ("GiantHeart$Seeker", "byRaven", "I", false)
  | 12 => ("GiantHeart$Seeker", "byKey", "I", false)
  | 13 => ("GiantHeart$Seeker", "byWolf", "I", false)
  | 14 => ("GiantHeart$Seeker", "bySalmon", "I", false)
  | _ => ("GiantHeart$Seeker", "can", "[I", true)
def tyX5 : Nat → FieldType := fun k => match k with
  | 0 => .object "GiantHeart$World"
  | 1 => .array .int
  | 2 => .array .int
  | 3 => .array .int
  | 4 => .array .int
  | 5 => .array .int
  | 6 => .int
  | 7 => .int
  | 8 => .int
  | 9 => .int
  | 10 => .int
  | 11 => .int
  | 12 => .int
  | 13 => .int
  | 14 => .int
  | _ => .array .int
abbrev wsX50 : List Cond := u_ws RX5 TX5 16
theorem nmX5 : ∀ a, a < 16 → ∀ b, b < 16 → a ≠ b → (TX5 a).2.1 ≠ (TX5 b).2.1 := by decide +kernel
theorem tyX5_ok : ∀ k, k < 16 → parseFieldDescriptor (TX5 k).2.2.1 = some (tyX5 k) := by decide +kernel
abbrev cX5_init : ByteArray := prog_7_method_1_code
def yX5_init : MethodName := ⟨RX5, "<init>", "(LGiantHeart$World;)V"⟩
abbrev cX5_highest : ByteArray := prog_7_method_2_code
def yX5_highest : MethodName := ⟨RX5, "highest", "(I)I"⟩
abbrev cX5_learn : ByteArray := prog_7_method_3_code
def yX5_learn : MethodName := ⟨RX5, "learn", "()V"⟩
abbrev cX5_learnMouths : ByteArray := prog_7_method_4_code
def yX5_learnMouths : MethodName := ⟨RX5, "learnMouths", "()V"⟩
abbrev cX5_putKey : ByteArray := prog_7_method_5_code
def yX5_putKey : MethodName := ⟨RX5, "putKey", "(II)V"⟩
abbrev cX5_goalPlaces : ByteArray := prog_7_method_6_code
def yX5_goalPlaces : MethodName := ⟨RX5, "goalPlaces", "()I"⟩
abbrev cX5_isHad : ByteArray := prog_7_method_7_code
def yX5_isHad : MethodName := ⟨RX5, "isHad", "(I)Z"⟩
abbrev cX5_aroundOf : ByteArray := prog_7_method_8_code
def yX5_aroundOf : MethodName := ⟨RX5, "aroundOf", "(I)I"⟩
abbrev cX5_lockOf : ByteArray := prog_7_method_9_code
def yX5_lockOf : MethodName := ⟨RX5, "lockOf", "(I)I"⟩
abbrev cX5_mouthOf : ByteArray := prog_7_method_10_code
def yX5_mouthOf : MethodName := ⟨RX5, "mouthOf", "(I)I"⟩
abbrev cX5_whereIs : ByteArray := prog_7_method_11_code
def yX5_whereIs : MethodName := ⟨RX5, "whereIs", "(I)I"⟩
abbrev cX5_stand : ByteArray := prog_7_method_12_code
def yX5_stand : MethodName := ⟨RX5, "stand", "(I)V"⟩
abbrev cX5_enter : ByteArray := prog_7_method_13_code
def yX5_enter : MethodName := ⟨RX5, "enter", "(I)V"⟩
abbrev cX5_arrive : ByteArray := prog_7_method_14_code
def yX5_arrive : MethodName := ⟨RX5, "arrive", "(I)V"⟩
abbrev cX5_gatherKeys : ByteArray := prog_7_method_15_code
def yX5_gatherKeys : MethodName := ⟨RX5, "gatherKeys", "()V"⟩
abbrev cX5_findOpenable : ByteArray := prog_7_method_16_code
def yX5_findOpenable : MethodName := ⟨RX5, "findOpenable", "()V"⟩
abbrev cX5_done : ByteArray := prog_7_method_17_code
def yX5_done : MethodName := ⟨RX5, "done", "(I)I"⟩
abbrev cX5_daysTo : ByteArray := prog_7_method_18_code
def yX5_daysTo : MethodName := ⟨RX5, "daysTo", "(II)I"⟩
abbrev cX5_daysOf : ByteArray := prog_7_method_19_code
def yX5_daysOf : MethodName := ⟨RX5, "daysOf", "(II)I"⟩
abbrev cX5_canBits : ByteArray := prog_7_method_20_code
def yX5_canBits : MethodName := ⟨RX5, "canBits", "(I)I"⟩
abbrev cX5_after : ByteArray := prog_7_method_21_code
def yX5_after : MethodName := ⟨RX5, "after", "(II)I"⟩
abbrev cX5_state : ByteArray := prog_7_method_22_code
def yX5_state : MethodName := ⟨RX5, "state", "(III)I"⟩
def RX6 : String := "GiantHeart$Stories"
def TX6 : u_T := fun k => match k with
  | 0 => ("GiantHeart$Stories", "world", "LGiantHeart$World;", true)
  | 1 => ("GiantHeart$Stories", "law", "LGiantHeart$Law;", true)
  | 2 => ("GiantHeart$Stories", "nights", "LGiantHeart$Nights;", true)
  | 3 => ("GiantHeart$Stories", "dusted", "[I", true)
  | 4 => ("GiantHeart$Stories", "said", "[I", true)
  | 5 => ("GiantHeart$Stories", "many", "I", false)
  | 6 => ("GiantHeart$Stories", "weights", "[J", true)
  | 7 => ("GiantHeart$Stories", "next", "[J", true)
  | _ => ("GiantHeart$Stories", "told", "[J", true)
def tyX6 : Nat → FieldType := fun k => match k with
  | 0 => .object "GiantHeart$World"
  | 1 => .object "GiantHeart$Law"
  | 2 => .object "GiantHeart$Nights"
  | 3 => .array .int
  | 4 => .array .int
  | 5 => .int
  | 6 => .array .long
  | 7 => .array .long
  | _ => .array .long
abbrev wsX60 : List Cond := u_ws RX6 TX6 9
theorem nmX6 : ∀ a, a < 9 → ∀ b, b < 9 → a ≠ b → (TX6 a).2.1 ≠ (TX6 b).2.1 := by decide +kernel
theorem tyX6_ok : ∀ k, k < 9 → parseFieldDescriptor (TX6 k).2.2.1 = some (tyX6 k) := by decide +kernel
abbrev cX6_init : ByteArray := prog_8_method_1_code
def yX6_init : MethodName := ⟨RX6, "<init>", "(LGiantHeart$World;LGiantHeart$Law;LGiantHeart$Nights;)V"⟩
abbrev cX6_read : ByteArray := prog_8_method_2_code
def yX6_read : MethodName := ⟨RX6, "read", "(LGiantHeart$Tape;)I"⟩
abbrev cX6_isPlaceSign : ByteArray := prog_8_method_3_code
def yX6_isPlaceSign : MethodName := ⟨RX6, "isPlaceSign", "(I)Z"⟩
abbrev cX6_odds : ByteArray := prog_8_method_4_code
def yX6_odds : MethodName := ⟨RX6, "odds", "(II)J"⟩
abbrev cX6_possible : ByteArray := prog_8_method_5_code
def yX6_possible : MethodName := ⟨RX6, "possible", "()I"⟩
abbrev cX6_draws : ByteArray := prog_8_method_6_code
def yX6_draws : MethodName := ⟨RX6, "draws", "()I"⟩
abbrev cX6_weigh : ByteArray := prog_8_method_7_code
def yX6_weigh : MethodName := ⟨RX6, "weigh", "(I)J"⟩
abbrev cX6_weighNight : ByteArray := prog_8_method_8_code
def yX6_weighNight : MethodName := ⟨RX6, "weighNight", "(I)V"⟩
abbrev cX6_turnTo : ByteArray := prog_8_method_9_code
def yX6_turnTo : MethodName := ⟨RX6, "turnTo", "(I)V"⟩
abbrev cX6_bestDust : ByteArray := prog_8_method_10_code
def yX6_bestDust : MethodName := ⟨RX6, "bestDust", "(II)J"⟩
abbrev cX6_guessedBy : ByteArray := prog_8_method_11_code
def yX6_guessedBy : MethodName := ⟨RX6, "guessedBy", "(I)J"⟩
def RX7 : String := "GiantHeart$Tale"
def TX7 : u_T := fun k => match k with
  | 0 => ("GiantHeart$Tale", "letters", "[I", true)
  | 1 => ("GiantHeart$Tale", "digits", "[I", true)
  | _ => ("GiantHeart$Tale", "many", "I", false)
def tyX7 : Nat → FieldType := fun k => match k with
  | 0 => .array .int
  | 1 => .array .int
  | _ => .int
abbrev wsX70 : List Cond := u_ws RX7 TX7 3
theorem nmX7 : ∀ a, a < 3 → ∀ b, b < 3 → a ≠ b → (TX7 a).2.1 ≠ (TX7 b).2.1 := by decide +kernel
theorem tyX7_ok : ∀ k, k < 3 → parseFieldDescriptor (TX7 k).2.2.1 = some (tyX7 k) := by decide +kernel
abbrev cX7_init : ByteArray := prog_9_method_1_code
def yX7_init : MethodName := ⟨RX7, "<init>", "()V"⟩
abbrev cX7_read : ByteArray := prog_9_method_2_code
def yX7_read : MethodName := ⟨RX7, "read", "(LGiantHeart$Tape;)I"⟩
abbrev cX7_judged : ByteArray := prog_9_method_3_code
def yX7_judged : MethodName := ⟨RX7, "judged", "(LGiantHeart$Seeker;I)I"⟩
def RX8 : String := "GiantHeart$Tape"
def TX8 : u_T := fun k => match k with
  | 0 => ("GiantHeart$Tape", "bytes", "[I", true)
  | 1 => ("GiantHeart$Tape", "size", "I", false)
  | _ => ("GiantHeart$Tape", "length", "I", false)
def tyX8 : Nat → FieldType := fun k => match k with
  | 0 => .array .int
  | 1 => .int
  | _ => .int
abbrev wsX80 : List Cond := u_ws RX8 TX8 3
theorem nmX8 : ∀ a, a < 3 → ∀ b, b < 3 → a ≠ b → (TX8 a).2.1 ≠ (TX8 b).2.1 := by decide +kernel
theorem tyX8_ok : ∀ k, k < 3 → parseFieldDescriptor (TX8 k).2.2.1 = some (tyX8 k) := by decide +kernel
abbrev cX8_init : ByteArray := prog_10_method_1_code
def yX8_init : MethodName := ⟨RX8, "<init>", "()V"⟩
abbrev cX8_hasRoom : ByteArray := prog_10_method_2_code
def yX8_hasRoom : MethodName := ⟨RX8, "hasRoom", "(I)Z"⟩
abbrev cX8_append : ByteArray := prog_10_method_3_code
def yX8_append : MethodName := ⟨RX8, "append", "(I)V"⟩
abbrev cX8_take : ByteArray := prog_10_method_4_code
def yX8_take : MethodName := ⟨RX8, "take", "(I)Z"⟩
abbrev cX8_at : ByteArray := prog_10_method_5_code
def yX8_at : MethodName := ⟨RX8, "at", "(I)I"⟩
abbrev cX8_number : ByteArray := prog_10_method_6_code
def yX8_number : MethodName := ⟨RX8, "number", "(I)I"⟩
def RX9 : String := "GiantHeart$Wood"
def TX9 : u_T := fun k => match k with
  | _ => ("GiantHeart$Wood", "creditors", "[I", true)
def tyX9 : Nat → FieldType := fun k => match k with
  | _ => .array .int
abbrev wsX90 : List Cond := u_ws RX9 TX9 1
theorem nmX9 : ∀ a, a < 1 → ∀ b, b < 1 → a ≠ b → (TX9 a).2.1 ≠ (TX9 b).2.1 := by decide +kernel
theorem tyX9_ok : ∀ k, k < 1 → parseFieldDescriptor (TX9 k).2.2.1 = some (tyX9 k) := by decide +kernel
abbrev cX9_init : ByteArray := prog_11_method_1_code
def yX9_init : MethodName := ⟨RX9, "<init>", "()V"⟩
abbrev cX9_owe : ByteArray := prog_11_method_2_code
def yX9_owe : MethodName := ⟨RX9, "owe", "(II)Z"⟩
abbrev cX9_ringOf : ByteArray := prog_11_method_3_code
def yX9_ringOf : MethodName := ⟨RX9, "ringOf", "(I)I"⟩
abbrev cX9_isLeastOfRing : ByteArray := prog_11_method_4_code
def yX9_isLeastOfRing : MethodName := ⟨RX9, "isLeastOfRing", "(I)Z"⟩
abbrev cX9_howMany : ByteArray := prog_11_method_5_code
def yX9_howMany : MethodName := ⟨RX9, "howMany", "()I"⟩
abbrev cX9_inRings : ByteArray := prog_11_method_6_code
def yX9_inRings : MethodName := ⟨RX9, "inRings", "()I"⟩
abbrev cX9_longest : ByteArray := prog_11_method_7_code
def yX9_longest : MethodName := ⟨RX9, "longest", "()I"⟩
abbrev cX9_walk : ByteArray := prog_11_method_8_code
def yX9_walk : MethodName := ⟨RX9, "walk", "(IZ)I"⟩
abbrev cX9_answer : ByteArray := prog_11_method_9_code
def yX9_answer : MethodName := ⟨RX9, "answer", "(II)I"⟩
def RX10 : String := "GiantHeart$World"
def TX10 : u_T := fun k => match k with
  | 0 => ("GiantHeart$World", "ways", "[I", true)
  | 1 => ("GiantHeart$World", "island", "[I", true)
  | 2 => ("GiantHeart$World", "within", "[I", true)
  | 3 => ("GiantHeart$World", "lock", "[I", true)
  | 4 => ("GiantHeart$World", "flight", "[I", true)
  | 5 => ("GiantHeart$World", "keyAt", "[I", true)
  | 6 => ("GiantHeart$World", "told", "I", false)
  | 7 => ("GiantHeart$World", "wet", "I", false)
  | 8 => ("GiantHeart$World", "heart", "I", false)
  | 9 => ("GiantHeart$World", "night", "I", false)
  | 10 => ("GiantHeart$World", "dusted", "I", false)
  | 11 => ("GiantHeart$World", "said", "I", false)
  | _ => ("GiantHeart$World", "x", "I", false)
def tyX10 : Nat → FieldType := fun k => match k with
  | 0 => .array .int
  | 1 => .array .int
  | 2 => .array .int
  | 3 => .array .int
  | 4 => .array .int
  | 5 => .array .int
  | 6 => .int
  | 7 => .int
  | 8 => .int
  | 9 => .int
  | 10 => .int
  | 11 => .int
  | _ => .int
abbrev wsX100 : List Cond := u_ws RX10 TX10 13
theorem nmX10 : ∀ a, a < 13 → ∀ b, b < 13 → a ≠ b → (TX10 a).2.1 ≠ (TX10 b).2.1 := by decide +kernel
theorem tyX10_ok : ∀ k, k < 13 → parseFieldDescriptor (TX10 k).2.2.1 = some (tyX10 k) := by decide +kernel
abbrev cX10_init : ByteArray := prog_12_method_1_code
def yX10_init : MethodName := ⟨RX10, "<init>", "()V"⟩
abbrev cX10_takeOver : ByteArray := prog_12_method_2_code
def yX10_takeOver : MethodName := ⟨RX10, "takeOver", "(LGiantHeart$World;)V"⟩
abbrev cX10_isTold : ByteArray := prog_12_method_3_code
def yX10_isTold : MethodName := ⟨RX10, "isTold", "(I)Z"⟩
abbrev cX10_isWet : ByteArray := prog_12_method_4_code
def yX10_isWet : MethodName := ⟨RX10, "isWet", "(I)Z"⟩
abbrev cX10_tell : ByteArray := prog_12_method_5_code
def yX10_tell : MethodName := ⟨RX10, "tell", "(IIII)V"⟩
abbrev cX10_around : ByteArray := prog_12_method_6_code
def yX10_around : MethodName := ⟨RX10, "around", "(I)I"⟩
abbrev cX10_islandOf : ByteArray := prog_12_method_7_code
def yX10_islandOf : MethodName := ⟨RX10, "islandOf", "(I)I"⟩
abbrev cX10_placesIn : ByteArray := prog_12_method_8_code
def yX10_placesIn : MethodName := ⟨RX10, "placesIn", "(I)I"⟩
abbrev cX10_keysIn : ByteArray := prog_12_method_9_code
def yX10_keysIn : MethodName := ⟨RX10, "keysIn", "(I)I"⟩
abbrev cX10_areInPlaces : ByteArray := prog_12_method_10_code
def yX10_areInPlaces : MethodName := ⟨RX10, "areInPlaces", "(I)Z"⟩
abbrev cX10_ofPlace : ByteArray := prog_12_method_11_code
def yX10_ofPlace : MethodName := ⟨RX10, "ofPlace", "(II)I"⟩
def RX11 : String := "GiantHeart"
def TX11 : u_T := fun k => match k with
  | 0 => ("GiantHeart", "world", "LGiantHeart$World;", true)
  | 1 => ("GiantHeart", "kept", "LGiantHeart$World;", true)
  | 2 => ("GiantHeart", "isKept", "Z", false)
  | 3 => ("GiantHeart", "tape", "LGiantHeart$Tape;", true)
  | 4 => ("GiantHeart", "law", "LGiantHeart$Law;", true)
  | 5 => ("GiantHeart", "draft", "LGiantHeart$Law;", true)
  | 6 => ("GiantHeart", "seeker", "LGiantHeart$Seeker;", true)
  | 7 => ("GiantHeart", "tales", "LGiantHeart$Tale;", true)
  | 8 => ("GiantHeart", "planner", "LGiantHeart$Planner;", true)
  | 9 => ("GiantHeart", "nights", "LGiantHeart$Nights;", true)
  | 10 => ("GiantHeart", "stories", "LGiantHeart$Stories;", true)
  | 11 => ("GiantHeart", "shares", "LGiantHeart$Lots;", true)
  | 12 => ("GiantHeart", "eggs", "LGiantHeart$Eggs;", true)
  | _ => ("GiantHeart", "wood", "LGiantHeart$Wood;", true)
def tyX11 : Nat → FieldType := fun k => match k with
  | 0 => .object "GiantHeart$World"
  | 1 => .object "GiantHeart$World"
  | 2 => .boolean
  | 3 => .object "GiantHeart$Tape"
  | 4 => .object "GiantHeart$Law"
  | 5 => .object "GiantHeart$Law"
  | 6 => .object "GiantHeart$Seeker"
  | 7 => .object "GiantHeart$Tale"
  | 8 => .object "GiantHeart$Planner"
  | 9 => .object "GiantHeart$Nights"
  | 10 => .object "GiantHeart$Stories"
  | 11 => .object "GiantHeart$Lots"
  | 12 => .object "GiantHeart$Eggs"
  | _ => .object "GiantHeart$Wood"
abbrev wsX110 : List Cond := u_ws RX11 TX11 14
theorem nmX11 : ∀ a, a < 14 → ∀ b, b < 14 → a ≠ b → (TX11 a).2.1 ≠ (TX11 b).2.1 := by decide +kernel
theorem tyX11_ok : ∀ k, k < 14 → parseFieldDescriptor (TX11 k).2.2.1 = some (tyX11 k) := by decide +kernel
abbrev cX11_init : ByteArray := prog_1_method_1_code
def yX11_init : MethodName := ⟨RX11, "<init>", "()V"⟩
abbrev cX11_way : ByteArray := prog_1_method_2_code
def yX11_way : MethodName := ⟨RX11, "way", "(III)Z"⟩
abbrev cX11_place : ByteArray := prog_1_method_3_code
def yX11_place : MethodName := ⟨RX11, "place", "(IIII)Z"⟩
abbrev cX11_more : ByteArray := prog_1_method_4_code
def yX11_more : MethodName := ⟨RX11, "more", "(IZI)Z"⟩
abbrev cX11_key : ByteArray := prog_1_method_5_code
def yX11_key : MethodName := ⟨RX11, "key", "(II)Z"⟩
abbrev cX11_heart : ByteArray := prog_1_method_6_code
def yX11_heart : MethodName := ⟨RX11, "heart", "(I)Z"⟩
abbrev cX11_feed : ByteArray := prog_1_method_7_code
def yX11_feed : MethodName := ⟨RX11, "feed", "(IIIII)I"⟩
abbrev cX11_law : ByteArray := prog_1_method_8_code
def yX11_law : MethodName := ⟨RX11, "law", "(I)I"⟩
abbrev cX11_tale : ByteArray := prog_1_method_9_code
def yX11_tale : MethodName := ⟨RX11, "tale", "(II)I"⟩
abbrev cX11_soonest : ByteArray := prog_1_method_10_code
def yX11_soonest : MethodName := ⟨RX11, "soonest", "(I)I"⟩
abbrev cX11_plan : ByteArray := prog_1_method_11_code
def yX11_plan : MethodName := ⟨RX11, "plan", "(I)I"⟩
abbrev cX11_missed : ByteArray := prog_1_method_12_code
def yX11_missed : MethodName := ⟨RX11, "missed", "(I)I"⟩
abbrev cX11_hidden : ByteArray := prog_1_method_13_code
def yX11_hidden : MethodName := ⟨RX11, "hidden", "(II)I"⟩
abbrev cX11_night : ByteArray := prog_1_method_14_code
def yX11_night : MethodName := ⟨RX11, "night", "(I)I"⟩
abbrev cX11_tried : ByteArray := prog_1_method_15_code
def yX11_tried : MethodName := ⟨RX11, "tried", "(II)I"⟩
abbrev cX11_story : ByteArray := prog_1_method_16_code
def yX11_story : MethodName := ⟨RX11, "story", "(III)J"⟩
abbrev cX11_toDust : ByteArray := prog_1_method_17_code
def yX11_toDust : MethodName := ⟨RX11, "toDust", "(III)J"⟩
abbrev cX11_lots : ByteArray := prog_1_method_18_code
def yX11_lots : MethodName := ⟨RX11, "lots", "(II)J"⟩
abbrev cX11_egg : ByteArray := prog_1_method_19_code
def yX11_egg : MethodName := ⟨RX11, "egg", "(IZ)Z"⟩
abbrev cX11_test : ByteArray := prog_1_method_20_code
def yX11_test : MethodName := ⟨RX11, "test", "(II)Z"⟩
abbrev cX11_apart : ByteArray := prog_1_method_21_code
def yX11_apart : MethodName := ⟨RX11, "apart", "(I)I"⟩
abbrev cX11_alike : ByteArray := prog_1_method_22_code
def yX11_alike : MethodName := ⟨RX11, "alike", "(II)I"⟩
abbrev cX11_owes : ByteArray := prog_1_method_23_code
def yX11_owes : MethodName := ⟨RX11, "owes", "(II)Z"⟩
abbrev cX11_rings : ByteArray := prog_1_method_24_code
def yX11_rings : MethodName := ⟨RX11, "rings", "(II)I"⟩
abbrev cX11_placeIs : ByteArray := prog_1_method_25_code
def yX11_placeIs : MethodName := ⟨RX11, "placeIs", "(II)I"⟩
abbrev cX11_seed : ByteArray := prog_1_method_26_code
def yX11_seed : MethodName := ⟨RX11, "seed", "(I)Z"⟩
abbrev cX11_keep : ByteArray := prog_1_method_27_code
def yX11_keep : MethodName := ⟨RX11, "keep", "()I"⟩
abbrev cX11_undo : ByteArray := prog_1_method_28_code
def yX11_undo : MethodName := ⟨RX11, "undo", "()Z"⟩
abbrev cX11_check : ByteArray := prog_1_method_29_code
def yX11_check : MethodName := ⟨RX11, "check", "(I)I"⟩
abbrev cX11_count : ByteArray := prog_1_method_30_code
def yX11_count : MethodName := ⟨RX11, "count", "(I)I"⟩
abbrev cX11_heartIsTold : ByteArray := prog_1_method_31_code
def yX11_heartIsTold : MethodName := ⟨RX11, "heartIsTold", "()Z"⟩
abbrev cX11_refusedStory : ByteArray := prog_1_method_32_code
def yX11_refusedStory : MethodName := ⟨RX11, "refusedStory", "(IIZ)I"⟩
abbrev cX11_isBelow : ByteArray := prog_1_method_33_code
def yX11_isBelow : MethodName := ⟨RX11, "isBelow", "(II)Z"⟩
abbrev cX11_fault : ByteArray := prog_1_method_34_code
def yX11_fault : MethodName := ⟨RX11, "fault", "(II)I"⟩
abbrev cX11_commonDivisor : ByteArray := prog_1_method_35_code
def yX11_commonDivisor : MethodName := ⟨RX11, "commonDivisor", "(JJ)J"⟩
def RX12 : String := "GiantHeartModel"
def TX12 : u_T := fun k => match k with
  | 0 => ("GiantHeartModel", "told0", "I", false)
  | 1 => ("GiantHeartModel", "wet0", "I", false)
  | 2 => ("GiantHeartModel", "heart0", "I", false)
  | 3 => ("GiantHeartModel", "x0", "I", false)
  | 4 => ("GiantHeartModel", "night0", "I", false)
  | 5 => ("GiantHeartModel", "dusted0", "I", false)
  | 6 => ("GiantHeartModel", "said0", "I", false)
  | 7 => ("GiantHeartModel", "wayOf", "[I", true)
  | 8 => ("GiantHeartModel", "islandOf", "[I", true)
  | 9 => ("GiantHeartModel", "within", "[I", true)
  | 10 => ("GiantHeartModel", "lockOf", "[I", true)
  | 11 => ("GiantHeartModel", "flightOf", "[I", true)
  | 12 => ("GiantHeartModel", "keyAt", "[I", true)
  | 13 => ("GiantHeartModel", "tape", "[B", true)
  | 14 => ("GiantHeartModel", "taped", "I", false)
  | 15 => ("GiantHeartModel", "place0", "I", false)
  | 16 => ("GiantHeartModel", "length0", "I", false)
  | 17 => ("GiantHeartModel", "fault", "I", false)
  | 18 => ("GiantHeartModel", "number0", "I", false)
  | 19 => ("GiantHeartModel", "open", "I", false)
  | 20 => ("GiantHeartModel", "codeMany", "I", false)
  | 21 => ("GiantHeartModel", "waiting", "I", false)
  | 22 => ("GiantHeartModel", "saidMany", "I", false)
  | 23 => ("GiantHeartModel", "clauses", "I", false)
  | 24 => ("GiantHeartModel", "said", "[I", true)
  | 25 => ("GiantHeartModel", "waitsAt", "[I", true)
  | 26 => ("GiantHeartModel", "saidLetter", "[I", true)
  | 27 => ("GiantHeartModel", "saidFrom", "[I", true)
  | 28 => ("GiantHeartModel", "saidHalf", "[I", true)
  | 29 => ("GiantHeartModel", "saidTo", "[I", true)
  | 30 => ("GiantHeartModel", "codes", "[I", true)
  | 31 => ("GiantHeartModel", "clauseOf", "[I", true)
  | 32 => ("GiantHeartModel", "codeFrom", "[I", true)
  | 33 => ("GiantHeartModel", "codeHalf", "[I", true)
  | 34 => ("GiantHeartModel", "codeTo", "[I", true)
  | 35 => ("GiantHeartModel", "stack", "[I", true)
  | 36 => ("GiantHeartModel", "facts", "[I", true)
  | 37 => ("GiantHeartModel", "island", "I", false)
  | 38 => ("GiantHeartModel", "opened", "I", false)
  | 39 => ("GiantHeartModel", "keys", "I", false)
  | 40 => ("GiantHeartModel", "used", "I", false)
  | 41 => ("GiantHeartModel", "days", "I", false)
  | 42 => ("GiantHeartModel", "actMany", "I", false)
  | 43 => ("GiantHeartModel", "actKind", "[I", true)
  | 44 => ("GiantHeartModel", "actDigit", "[I", true)
  | 45 => ("GiantHeartModel", "costTo", "[I", true)
  | 46 => ("GiantHeartModel", "keysIn", "[I", true)
  | 47 => ("GiantHeartModel", "keysBy", "[I", true)
  | 48 => ("GiantHeartModel", "islandIn", "[I", true)
  | 49 => ("GiantHeartModel", "countsOpened", "Z", false)
  | 50 => ("GiantHeartModel", "whoHides", "[I", true)
  | 51 => ("GiantHeartModel", "hidesAt", "[I", true)
  | 52 => ("GiantHeartModel", "hidesBy", "[I", true)
  | 53 => ("GiantHeartModel", "hideMany", "I", false)
  | 54 => ("GiantHeartModel", "storyMany", "I", false)
  | 55 => ("GiantHeartModel", "storyDusted", "[I", true)
  | 56 => ("GiantHeartModel", "storySaid", "[I", true)
  | 57 => ("GiantHeartModel", "weightOf", "[J", true)
  | 58 => ("GiantHeartModel", "weightThen", "[J", true)
  | 59 => ("GiantHeartModel", "eggs0", "I", false)
  | 60 => ("GiantHeartModel", "testOf", "[I", true)
  | 61 => ("GiantHeartModel", "owesTo", "[I", true)
  | 62 => ("GiantHeartModel", "isKept", "Z", false)
  | 63 => ("GiantHeartModel", "keptTold", "I", false)
  | 64 => ("GiantHeartModel", "keptWet", "I", false)
  | 65 => ("GiantHeartModel", "keptHeart", "I", false)
  | 66 => ("GiantHeartModel", "keptX", "I", false)
  | 67 => ("GiantHeartModel", "keptNight", "I", false)
  | 68 => ("GiantHeartModel", "keptDusted", "I", false)
  | 69 => ("GiantHeartModel", "keptSaid", "I", false)
  | 70 => ("GiantHeartModel", "keptWay", "[I", true)
  | 71 => ("GiantHeartModel", "keptIsland", "[I", true)
  | 72 => ("GiantHeartModel", "keptWithin", "[I", true)
  | 73 => ("GiantHeartModel", "keptLock", "[I", true)
  | 74 => ("GiantHeartModel", "keptFlight", "[I", true)
  | _ => ("GiantHeartModel", "keptKey", "[I", true)
def tyX12 : Nat → FieldType := fun k => match k with
  | 0 => .int
  | 1 => .int
  | 2 => .int
  | 3 => .int
  | 4 => .int
  | 5 => .int
  | 6 => .int
  | 7 => .array .int
  | 8 => .array .int
  | 9 => .array .int
  | 10 => .array .int
  | 11 => .array .int
  | 12 => .array .int
  | 13 => .array .byte
  | 14 => .int
  | 15 => .int
  | 16 => .int
  | 17 => .int
  | 18 => .int
  | 19 => .int
  | 20 => .int
  | 21 => .int
  | 22 => .int
  | 23 => .int
  | 24 => .array .int
  | 25 => .array .int
  | 26 => .array .int
  | 27 => .array .int
  | 28 => .array .int
  | 29 => .array .int
  | 30 => .array .int
  | 31 => .array .int
  | 32 => .array .int
  | 33 => .array .int
  | 34 => .array .int
  | 35 => .array .int
  | 36 => .array .int
  | 37 => .int
  | 38 => .int
  | 39 => .int
  | 40 => .int
  | 41 => .int
  | 42 => .int
  | 43 => .array .int
  | 44 => .array .int
  | 45 => .array .int
  | 46 => .array .int
  | 47 => .array .int
  | 48 => .array .int
  | 49 => .boolean
  | 50 => .array .int
  | 51 => .array .int
  | 52 => .array .int
  | 53 => .int
  | 54 => .int
  | 55 => .array .int
  | 56 => .array .int
  | 57 => .array .long
  | 58 => .array .long
  | 59 => .int
  | 60 => .array .int
  | 61 => .array .int
  | 62 => .boolean
  | 63 => .int
  | 64 => .int
  | 65 => .int
  | 66 => .int
  | 67 => .int
  | 68 => .int
  | 69 => .int
  | 70 => .array .int
  | 71 => .array .int
  | 72 => .array .int
  | 73 => .array .int
  | 74 => .array .int
  | _ => .array .int
abbrev wsX120 : List Cond := u_ws RX12 TX12 76
theorem nmX12 : ∀ a, a < 76 → ∀ b, b < 76 → a ≠ b → (TX12 a).2.1 ≠ (TX12 b).2.1 := by decide +kernel
theorem tyX12_ok : ∀ k, k < 76 → parseFieldDescriptor (TX12 k).2.2.1 = some (tyX12 k) := by decide +kernel
abbrev cX12_init : ByteArray := prog_14_method_1_code
def yX12_init : MethodName := ⟨RX12, "<init>", "()V"⟩
abbrev cX12_in : ByteArray := prog_14_method_2_code
def yX12_in : MethodName := ⟨RX12, "in", "(III)Z"⟩
abbrev cX12_min : ByteArray := prog_14_method_3_code
def yX12_min : MethodName := ⟨RX12, "min", "(II)I"⟩
abbrev cX12_max : ByteArray := prog_14_method_4_code
def yX12_max : MethodName := ⟨RX12, "max", "(II)I"⟩
abbrev cX12_has : ByteArray := prog_14_method_5_code
def yX12_has : MethodName := ⟨RX12, "has", "(II)Z"⟩
abbrev cX12_bits : ByteArray := prog_14_method_6_code
def yX12_bits : MethodName := ⟨RX12, "bits", "(I)I"⟩
abbrev cX12_gcd : ByteArray := prog_14_method_7_code
def yX12_gcd : MethodName := ⟨RX12, "gcd", "(JJ)J"⟩
abbrev cX12_through : ByteArray := prog_14_method_8_code
def yX12_through : MethodName := ⟨RX12, "through", "(JJI)J"⟩
abbrev cX12_isEight : ByteArray := prog_14_method_9_code
def yX12_isEight : MethodName := ⟨RX12, "isEight", "(I)Z"⟩
abbrev cX12_isIsland : ByteArray := prog_14_method_10_code
def yX12_isIsland : MethodName := ⟨RX12, "isIsland", "(I)Z"⟩
abbrev cX12_isPlace : ByteArray := prog_14_method_11_code
def yX12_isPlace : MethodName := ⟨RX12, "isPlace", "(I)Z"⟩
abbrev cX12_way : ByteArray := prog_14_method_12_code
def yX12_way : MethodName := ⟨RX12, "way", "(III)Z"⟩
abbrev cX12_place : ByteArray := prog_14_method_13_code
def yX12_place : MethodName := ⟨RX12, "place", "(IIII)Z"⟩
abbrev cX12_more : ByteArray := prog_14_method_14_code
def yX12_more : MethodName := ⟨RX12, "more", "(IZI)Z"⟩
abbrev cX12_key : ByteArray := prog_14_method_15_code
def yX12_key : MethodName := ⟨RX12, "key", "(II)Z"⟩
abbrev cX12_heart : ByteArray := prog_14_method_16_code
def yX12_heart : MethodName := ⟨RX12, "heart", "(I)Z"⟩
abbrev cX12_islandBy : ByteArray := prog_14_method_17_code
def yX12_islandBy : MethodName := ⟨RX12, "islandBy", "(I)I"⟩
abbrev cX12_levels : ByteArray := prog_14_method_18_code
def yX12_levels : MethodName := ⟨RX12, "levels", "(I)I"⟩
abbrev cX12_keysAt : ByteArray := prog_14_method_19_code
def yX12_keysAt : MethodName := ⟨RX12, "keysAt", "(I)I"⟩
abbrev cX12_placeIs : ByteArray := prog_14_method_20_code
def yX12_placeIs : MethodName := ⟨RX12, "placeIs", "(II)I"⟩
abbrev cX12_types : ByteArray := prog_14_method_21_code
def yX12_types : MethodName := ⟨RX12, "types", "(I)V"⟩
abbrev cX12_feed : ByteArray := prog_14_method_22_code
def yX12_feed : MethodName := ⟨RX12, "feed", "(IIIII)I"⟩
abbrev cX12_here : ByteArray := prog_14_method_23_code
def yX12_here : MethodName := ⟨RX12, "here", "()I"⟩
abbrev cX12_isDigit : ByteArray := prog_14_method_24_code
def yX12_isDigit : MethodName := ⟨RX12, "isDigit", "()Z"⟩
abbrev cX12_wrongAt : ByteArray := prog_14_method_25_code
def yX12_wrongAt : MethodName := ⟨RX12, "wrongAt", "(II)Z"⟩
abbrev cX12_takes : ByteArray := prog_14_method_26_code
def yX12_takes : MethodName := ⟨RX12, "takes", "(I)Z"⟩
abbrev cX12_readsNumber : ByteArray := prog_14_method_27_code
def yX12_readsNumber : MethodName := ⟨RX12, "readsNumber", "()Z"⟩
abbrev cX12_notes : ByteArray := prog_14_method_28_code
def yX12_notes : MethodName := ⟨RX12, "notes", "(II)V"⟩
abbrev cX12_opens : ByteArray := prog_14_method_29_code
def yX12_opens : MethodName := ⟨RX12, "opens", "(I)Z"⟩
abbrev cX12_waitTop : ByteArray := prog_14_method_30_code
def yX12_waitTop : MethodName := ⟨RX12, "waitTop", "()I"⟩
abbrev cX12_factOf : ByteArray := prog_14_method_31_code
def yX12_factOf : MethodName := ⟨RX12, "factOf", "(I)I"⟩
abbrev cX12_sumSign : ByteArray := prog_14_method_32_code
def yX12_sumSign : MethodName := ⟨RX12, "sumSign", "(I)I"⟩
abbrev cX12_closesSums : ByteArray := prog_14_method_33_code
def yX12_closesSums : MethodName := ⟨RX12, "closesSums", "(Z)V"⟩
abbrev cX12_readsFactor : ByteArray := prog_14_method_34_code
def yX12_readsFactor : MethodName := ⟨RX12, "readsFactor", "()Z"⟩
abbrev cX12_hasOpenSum : ByteArray := prog_14_method_35_code
def yX12_hasOpenSum : MethodName := ⟨RX12, "hasOpenSum", "(I)Z"⟩
abbrev cX12_readsSum : ByteArray := prog_14_method_36_code
def yX12_readsSum : MethodName := ⟨RX12, "readsSum", "()Z"⟩
abbrev cX12_endsPiece : ByteArray := prog_14_method_37_code
def yX12_endsPiece : MethodName := ⟨RX12, "endsPiece", "()V"⟩
abbrev cX12_lands : ByteArray := prog_14_method_38_code
def yX12_lands : MethodName := ⟨RX12, "lands", "(Z)V"⟩
abbrev cX12_jumps : ByteArray := prog_14_method_39_code
def yX12_jumps : MethodName := ⟨RX12, "jumps", "(I)V"⟩
abbrev cX12_readsCompared : ByteArray := prog_14_method_40_code
def yX12_readsCompared : MethodName := ⟨RX12, "readsCompared", "()Z"⟩
abbrev cX12_readsCondition : ByteArray := prog_14_method_41_code
def yX12_readsCondition : MethodName := ⟨RX12, "readsCondition", "()Z"⟩
abbrev cX12_readsClause : ByteArray := prog_14_method_42_code
def yX12_readsClause : MethodName := ⟨RX12, "readsClause", "()Z"⟩
abbrev cX12_law : ByteArray := prog_14_method_43_code
def yX12_law : MethodName := ⟨RX12, "law", "(I)I"⟩
abbrev cX12_reckon : ByteArray := prog_14_method_44_code
def yX12_reckon : MethodName := ⟨RX12, "reckon", "(III)I"⟩
abbrev cX12_comesTo : ByteArray := prog_14_method_45_code
def yX12_comesTo : MethodName := ⟨RX12, "comesTo", "(II)I"⟩
abbrev cX12_byLaw : ByteArray := prog_14_method_46_code
def yX12_byLaw : MethodName := ⟨RX12, "byLaw", "(II)I"⟩
abbrev cX12_nextLevel : ByteArray := prog_14_method_47_code
def yX12_nextLevel : MethodName := ⟨RX12, "nextLevel", "(I)I"⟩
abbrev cX12_feels : ByteArray := prog_14_method_48_code
def yX12_feels : MethodName := ⟨RX12, "feels", "(IIIII)V"⟩
abbrev cX12_movesTo : ByteArray := prog_14_method_49_code
def yX12_movesTo : MethodName := ⟨RX12, "movesTo", "(IIIII)I"⟩
abbrev cX12_saysOf : ByteArray := prog_14_method_50_code
def yX12_saysOf : MethodName := ⟨RX12, "saysOf", "(IIIII)I"⟩
abbrev cX12_draws : ByteArray := prog_14_method_51_code
def yX12_draws : MethodName := ⟨RX12, "draws", "()I"⟩
abbrev cX12_nightGoes : ByteArray := prog_14_method_52_code
def yX12_nightGoes : MethodName := ⟨RX12, "nightGoes", "(I)I"⟩
abbrev cX12_night : ByteArray := prog_14_method_53_code
def yX12_night : MethodName := ⟨RX12, "night", "(I)I"⟩
abbrev cX12_tried : ByteArray := prog_14_method_54_code
def yX12_tried : MethodName := ⟨RX12, "tried", "(II)I"⟩
abbrev cX12_begins : ByteArray := prog_14_method_55_code
def yX12_begins : MethodName := ⟨RX12, "begins", "()V"⟩
abbrev cX12_kindOf : ByteArray := prog_14_method_56_code
def yX12_kindOf : MethodName := ⟨RX12, "kindOf", "(I)I"⟩
abbrev cX12_digitsFor : ByteArray := prog_14_method_57_code
def yX12_digitsFor : MethodName := ⟨RX12, "digitsFor", "(I)I"⟩
abbrev cX12_readsAct : ByteArray := prog_14_method_58_code
def yX12_readsAct : MethodName := ⟨RX12, "readsAct", "()Z"⟩
abbrev cX12_isFree : ByteArray := prog_14_method_59_code
def yX12_isFree : MethodName := ⟨RX12, "isFree", "(II)Z"⟩
abbrev cX12_canOpen : ByteArray := prog_14_method_60_code
def yX12_canOpen : MethodName := ⟨RX12, "canOpen", "(IIIII)Z"⟩
abbrev cX12_beastFor : ByteArray := prog_14_method_61_code
def yX12_beastFor : MethodName := ⟨RX12, "beastFor", "(II)I"⟩
abbrev cX12_does : ByteArray := prog_14_method_62_code
def yX12_does : MethodName := ⟨RX12, "does", "(II)Z"⟩
abbrev cX12_aims : ByteArray := prog_14_method_63_code
def yX12_aims : MethodName := ⟨RX12, "aims", "()I"⟩
abbrev cX12_isHad : ByteArray := prog_14_method_64_code
def yX12_isHad : MethodName := ⟨RX12, "isHad", "(I)Z"⟩
abbrev cX12_tale : ByteArray := prog_14_method_65_code
def yX12_tale : MethodName := ⟨RX12, "tale", "(II)I"⟩
abbrev cX12_standOf : ByteArray := prog_14_method_66_code
def yX12_standOf : MethodName := ⟨RX12, "standOf", "(II)I"⟩
abbrev cX12_unitOf : ByteArray := prog_14_method_67_code
def yX12_unitOf : MethodName := ⟨RX12, "unitOf", "(I)I"⟩
abbrev cX12_stateOf : ByteArray := prog_14_method_68_code
def yX12_stateOf : MethodName := ⟨RX12, "stateOf", "(III)I"⟩
abbrev cX12_keysWith : ByteArray := prog_14_method_69_code
def yX12_keysWith : MethodName := ⟨RX12, "keysWith", "(II)I"⟩
abbrev cX12_behind : ByteArray := prog_14_method_70_code
def yX12_behind : MethodName := ⟨RX12, "behind", "(IIIIII)I"⟩
abbrev cX12_costOf : ByteArray := prog_14_method_71_code
def yX12_costOf : MethodName := ⟨RX12, "costOf", "(III)I"⟩
abbrev cX12_bestBy : ByteArray := prog_14_method_72_code
def yX12_bestBy : MethodName := ⟨RX12, "bestBy", "(IIII)I"⟩
abbrev cX12_laysFor : ByteArray := prog_14_method_73_code
def yX12_laysFor : MethodName := ⟨RX12, "laysFor", "(II)V"⟩
abbrev cX12_solves : ByteArray := prog_14_method_74_code
def yX12_solves : MethodName := ⟨RX12, "solves", "(Z)I"⟩
abbrev cX12_soonest : ByteArray := prog_14_method_75_code
def yX12_soonest : MethodName := ⟨RX12, "soonest", "(I)I"⟩
abbrev cX12_plan : ByteArray := prog_14_method_76_code
def yX12_plan : MethodName := ⟨RX12, "plan", "(I)I"⟩
abbrev cX12_firstAct : ByteArray := prog_14_method_77_code
def yX12_firstAct : MethodName := ⟨RX12, "firstAct", "(I)I"⟩
abbrev cX12_missed : ByteArray := prog_14_method_78_code
def yX12_missed : MethodName := ⟨RX12, "missed", "(I)I"⟩
abbrev cX12_readsRow : ByteArray := prog_14_method_79_code
def yX12_readsRow : MethodName := ⟨RX12, "readsRow", "(I)Z"⟩
abbrev cX12_hides : ByteArray := prog_14_method_80_code
def yX12_hides : MethodName := ⟨RX12, "hides", "()V"⟩
abbrev cX12_comesBack : ByteArray := prog_14_method_81_code
def yX12_comesBack : MethodName := ⟨RX12, "comesBack", "()V"⟩
abbrev cX12_hidden : ByteArray := prog_14_method_82_code
def yX12_hidden : MethodName := ⟨RX12, "hidden", "(II)I"⟩
abbrev cX12_readsNight : ByteArray := prog_14_method_83_code
def yX12_readsNight : MethodName := ⟨RX12, "readsNight", "()Z"⟩
abbrev cX12_readsStory : ByteArray := prog_14_method_84_code
def yX12_readsStory : MethodName := ⟨RX12, "readsStory", "(I)Z"⟩
abbrev cX12_spreads : ByteArray := prog_14_method_85_code
def yX12_spreads : MethodName := ⟨RX12, "spreads", "(III)V"⟩
abbrev cX12_weights : ByteArray := prog_14_method_86_code
def yX12_weights : MethodName := ⟨RX12, "weights", "()J"⟩
abbrev cX12_goesThrough : ByteArray := prog_14_method_87_code
def yX12_goesThrough : MethodName := ⟨RX12, "goesThrough", "(I)J"⟩
abbrev cX12_arePlaces : ByteArray := prog_14_method_88_code
def yX12_arePlaces : MethodName := ⟨RX12, "arePlaces", "(I)Z"⟩
abbrev cX12_story : ByteArray := prog_14_method_89_code
def yX12_story : MethodName := ⟨RX12, "story", "(III)J"⟩
abbrev cX12_guessed : ByteArray := prog_14_method_90_code
def yX12_guessed : MethodName := ⟨RX12, "guessed", "(I)J"⟩
abbrev cX12_toDust : ByteArray := prog_14_method_91_code
def yX12_toDust : MethodName := ⟨RX12, "toDust", "(III)J"⟩
abbrev cX12_lots : ByteArray := prog_14_method_92_code
def yX12_lots : MethodName := ⟨RX12, "lots", "(II)J"⟩
abbrev cX12_egg : ByteArray := prog_14_method_93_code
def yX12_egg : MethodName := ⟨RX12, "egg", "(IZ)Z"⟩
abbrev cX12_test : ByteArray := prog_14_method_94_code
def yX12_test : MethodName := ⟨RX12, "test", "(II)Z"⟩
abbrev cX12_areAlike : ByteArray := prog_14_method_95_code
def yX12_areAlike : MethodName := ⟨RX12, "areAlike", "(III)Z"⟩
abbrev cX12_tellsAll : ByteArray := prog_14_method_96_code
def yX12_tellsAll : MethodName := ⟨RX12, "tellsAll", "(I)Z"⟩
abbrev cX12_apart : ByteArray := prog_14_method_97_code
def yX12_apart : MethodName := ⟨RX12, "apart", "(I)I"⟩
abbrev cX12_alike : ByteArray := prog_14_method_98_code
def yX12_alike : MethodName := ⟨RX12, "alike", "(II)I"⟩
abbrev cX12_owes : ByteArray := prog_14_method_99_code
def yX12_owes : MethodName := ⟨RX12, "owes", "(II)Z"⟩
abbrev cX12_ringOf : ByteArray := prog_14_method_100_code
def yX12_ringOf : MethodName := ⟨RX12, "ringOf", "(I)I"⟩
abbrev cX12_rings : ByteArray := prog_14_method_101_code
def yX12_rings : MethodName := ⟨RX12, "rings", "(II)I"⟩
abbrev cX12_isLowest : ByteArray := prog_14_method_102_code
def yX12_isLowest : MethodName := ⟨RX12, "isLowest", "(I)Z"⟩
abbrev cX12_seed : ByteArray := prog_14_method_103_code
def yX12_seed : MethodName := ⟨RX12, "seed", "(I)Z"⟩
abbrev cX12_copies : ByteArray := prog_14_method_104_code
def yX12_copies : MethodName := ⟨RX12, "copies", "([I[II)V"⟩
abbrev cX12_keep : ByteArray := prog_14_method_105_code
def yX12_keep : MethodName := ⟨RX12, "keep", "()I"⟩
abbrev cX12_undo : ByteArray := prog_14_method_106_code
def yX12_undo : MethodName := ⟨RX12, "undo", "()Z"⟩
abbrev cX12_tapeNumber : ByteArray := prog_14_method_107_code
def yX12_tapeNumber : MethodName := ⟨RX12, "tapeNumber", "(I)I"⟩
abbrev cX12_check : ByteArray := prog_14_method_108_code
def yX12_check : MethodName := ⟨RX12, "check", "(I)I"⟩
abbrev cX12_count : ByteArray := prog_14_method_109_code
def yX12_count : MethodName := ⟨RX12, "count", "(I)I"⟩
def RJ11 : String := "java/lang/Character"
def TJ11 : u_T := fun k => match k with
  | _ => ("", "", "", false)
def tyJ11 : Nat → FieldType := fun k => match k with
  | _ => .int
abbrev wsJ110 : List Cond := u_ws RJ11 TJ11 0
theorem nmJ11 : ∀ a, a < 0 → ∀ b, b < 0 → a ≠ b → (TJ11 a).2.1 ≠ (TJ11 b).2.1 := by decide +kernel
theorem tyJ11_ok : ∀ k, k < 0 → parseFieldDescriptor (TJ11 k).2.2.1 = some (tyJ11 k) := by decide +kernel
abbrev cJ11_isValidCodePoint_9a6ad : ByteArray := prog_15_method_11_code
def yJ11_isValidCodePoint_9a6ad : MethodName := ⟨RJ11, "isValidCodePoint", "(I)Z"⟩
abbrev cJ11_highSurrogate_5068e : ByteArray := prog_15_method_28_code
def yJ11_highSurrogate_5068e : MethodName := ⟨RJ11, "highSurrogate", "(I)C"⟩
abbrev cJ11_lowSurrogate_5068e : ByteArray := prog_15_method_29_code
def yJ11_lowSurrogate_5068e : MethodName := ⟨RJ11, "lowSurrogate", "(I)C"⟩
def RJ6 : String := "java/lang/Integer"
def TJ6 : u_T := fun k => match k with
  | _ => ("", "", "", false)
def tyJ6 : Nat → FieldType := fun k => match k with
  | _ => .int
abbrev wsJ60 : List Cond := u_ws RJ6 TJ6 0
theorem nmJ6 : ∀ a, a < 0 → ∀ b, b < 0 → a ≠ b → (TJ6 a).2.1 ≠ (TJ6 b).2.1 := by decide +kernel
theorem tyJ6_ok : ∀ k, k < 0 → parseFieldDescriptor (TJ6 k).2.2.1 = some (tyJ6 k) := by decide +kernel
abbrev cJ6_bitCount_0f7a4 : ByteArray := prog_16_method_49_code
def yJ6_bitCount_0f7a4 : MethodName := ⟨RJ6, "bitCount", "(I)I"⟩
def RJ9 : String := "java/lang/Math"
def TJ9 : u_T := fun k => match k with
  | _ => ("", "", "", false)
def tyJ9 : Nat → FieldType := fun k => match k with
  | _ => .int
abbrev wsJ90 : List Cond := u_ws RJ9 TJ9 0
theorem nmJ9 : ∀ a, a < 0 → ∀ b, b < 0 → a ≠ b → (TJ9 a).2.1 ≠ (TJ9 b).2.1 := by decide +kernel
theorem tyJ9_ok : ∀ k, k < 0 → parseFieldDescriptor (TJ9 k).2.2.1 = some (tyJ9 k) := by decide +kernel
abbrev cJ9_max_7cf53 : ByteArray := prog_17_method_65_code
def yJ9_max_7cf53 : MethodName := ⟨RJ9, "max", "(II)I"⟩
abbrev cJ9_max_f86c9 : ByteArray := prog_17_method_66_code
def yJ9_max_f86c9 : MethodName := ⟨RJ9, "max", "(JJ)J"⟩
abbrev cJ9_min_7cf53 : ByteArray := prog_17_method_69_code
def yJ9_min_7cf53 : MethodName := ⟨RJ9, "min", "(II)I"⟩
def RJ0 : String := "java/lang/String"
def TJ0 : u_T := fun k => match k with
  | _ => ("", "", "", false)
def tyJ0 : Nat → FieldType := fun k => match k with
  | _ => .int
abbrev wsJ00 : List Cond := u_ws RJ0 TJ0 0
theorem nmJ0 : ∀ a, a < 0 → ∀ b, b < 0 → a ≠ b → (TJ0 a).2.1 ≠ (TJ0 b).2.1 := by decide +kernel
theorem tyJ0_ok : ∀ k, k < 0 → parseFieldDescriptor (TJ0 k).2.2.1 = some (tyJ0 k) := by decide +kernel
abbrev cJ0_length_8abf5 : ByteArray := prog_18_method_54_code
def yJ0_length_8abf5 : MethodName := ⟨RJ0, "length", "()I"⟩
abbrev cJ0_indexOf_0f7a4 : ByteArray := prog_18_method_79_code
def yJ0_indexOf_0f7a4 : MethodName := ⟨RJ0, "indexOf", "(I)I"⟩
abbrev cJ0_indexOf_7cf53 : ByteArray := prog_18_method_80_code
def yJ0_indexOf_7cf53 : MethodName := ⟨RJ0, "indexOf", "(II)I"⟩
abbrev cJ0_coder_7d493 : ByteArray := prog_18_method_152_code
def yJ0_coder_7d493 : MethodName := ⟨RJ0, "coder", "()B"⟩
abbrev cJ0_isLatin1_aae02 : ByteArray := prog_18_method_154_code
def yJ0_isLatin1_aae02 : MethodName := ⟨RJ0, "isLatin1", "()Z"⟩
abbrev cJ0_checkBoundsBeginEnd_23922 : ByteArray := prog_18_method_158_code
def yJ0_checkBoundsBeginEnd_23922 : MethodName := ⟨RJ0, "checkBoundsBeginEnd", "(III)V"⟩
def RJ1 : String := "java/lang/StringLatin1"
def TJ1 : u_T := fun k => match k with
  | _ => ("", "", "", false)
def tyJ1 : Nat → FieldType := fun k => match k with
  | _ => .int
abbrev wsJ10 : List Cond := u_ws RJ1 TJ1 0
theorem nmJ1 : ∀ a, a < 0 → ∀ b, b < 0 → a ≠ b → (TJ1 a).2.1 ≠ (TJ1 b).2.1 := by decide +kernel
theorem tyJ1_ok : ∀ k, k < 0 → parseFieldDescriptor (TJ1 k).2.2.1 = some (tyJ1 k) := by decide +kernel
abbrev cJ1_canEncode_9a6ad : ByteArray := prog_19_method_4_code
def yJ1_canEncode_9a6ad : MethodName := ⟨RJ1, "canEncode", "(I)Z"⟩
abbrev cJ1_indexOf_4cfef : ByteArray := prog_19_method_22_code
def yJ1_indexOf_4cfef : MethodName := ⟨RJ1, "indexOf", "([BIII)I"⟩
abbrev cJ1_indexOfChar_4cfef : ByteArray := prog_19_method_23_code
def yJ1_indexOfChar_4cfef : MethodName := ⟨RJ1, "indexOfChar", "([BIII)I"⟩
def RJ2 : String := "java/lang/StringUTF16"
def TJ2 : u_T := fun k => match k with
  | _ => ("", "", "", false)
def tyJ2 : Nat → FieldType := fun k => match k with
  | _ => .int
abbrev wsJ20 : List Cond := u_ws RJ2 TJ2 0
theorem nmJ2 : ∀ a, a < 0 → ∀ b, b < 0 → a ≠ b → (TJ2 a).2.1 ≠ (TJ2 b).2.1 := by decide +kernel
theorem tyJ2_ok : ∀ k, k < 0 → parseFieldDescriptor (TJ2 k).2.2.1 = some (tyJ2 k) := by decide +kernel
abbrev cJ2_getChar_3b067 : ByteArray := prog_20_method_5_code
def yJ2_getChar_3b067 : MethodName := ⟨RJ2, "getChar", "([BI)C"⟩
abbrev cJ2_length_9d52b : ByteArray := prog_20_method_6_code
def yJ2_length_9d52b : MethodName := ⟨RJ2, "length", "([B)I"⟩
abbrev cJ2_indexOf_4cfef : ByteArray := prog_20_method_40_code
def yJ2_indexOf_4cfef : MethodName := ⟨RJ2, "indexOf", "([BIII)I"⟩
abbrev cJ2_indexOfChar_4cfef : ByteArray := prog_20_method_47_code
def yJ2_indexOfChar_4cfef : MethodName := ⟨RJ2, "indexOfChar", "([BIII)I"⟩
abbrev cJ2_indexOfCharUnsafe_4cfef : ByteArray := prog_20_method_48_code
def yJ2_indexOfCharUnsafe_4cfef : MethodName := ⟨RJ2, "indexOfCharUnsafe", "([BIII)I"⟩
abbrev cJ2_indexOfSupplementary_4cfef : ByteArray := prog_20_method_49_code
def yJ2_indexOfSupplementary_4cfef : MethodName := ⟨RJ2, "indexOfSupplementary", "([BIII)I"⟩
abbrev cJ2_checkBoundsBeginEnd_d044e : ByteArray := prog_20_method_93_code
def yJ2_checkBoundsBeginEnd_d044e : MethodName := ⟨RJ2, "checkBoundsBeginEnd", "(II[B)V"⟩
def RJ10 : String := "java/lang/System"
def TJ10 : u_T := fun k => match k with
  | _ => ("", "", "", false)
def tyJ10 : Nat → FieldType := fun k => match k with
  | _ => .int
abbrev wsJ100 : List Cond := u_ws RJ10 TJ10 0
theorem nmJ10 : ∀ a, a < 0 → ∀ b, b < 0 → a ≠ b → (TJ10 a).2.1 ≠ (TJ10 b).2.1 := by decide +kernel
theorem tyJ10_ok : ∀ k, k < 0 → parseFieldDescriptor (TJ10 k).2.2.1 = some (tyJ10 k) := by decide +kernel
def RJ3 : String := "jdk/internal/util/Preconditions"
def TJ3 : u_T := fun k => match k with
  | _ => ("", "", "", false)
def tyJ3 : Nat → FieldType := fun k => match k with
  | _ => .int
abbrev wsJ30 : List Cond := u_ws RJ3 TJ3 0
theorem nmJ3 : ∀ a, a < 0 → ∀ b, b < 0 → a ≠ b → (TJ3 a).2.1 ≠ (TJ3 b).2.1 := by decide +kernel
theorem tyJ3_ok : ∀ k, k < 0 → parseFieldDescriptor (TJ3 k).2.2.1 = some (tyJ3 k) := by decide +kernel
abbrev cJ3_checkFromToIndex_8c36e : ByteArray := prog_22_method_12_code
def yJ3_checkFromToIndex_8c36e : MethodName := ⟨RJ3, "checkFromToIndex", "(IIILjava/util/function/BiFunction;)I"⟩
def RL : String := "GiantHeartLaw"
abbrev cL_law : ByteArray := code
def yL_law : MethodName := ⟨RL, "law", "([I)Z"⟩
abbrev vwCl : List vw_C := [(RX0, TX0, 2), (RX1, TX1, 14), (RX2, TX2, 4), (RX3, TX3, 7), (RX4, TX4, 14), (RX5, TX5, 16), (RX6, TX6, 9), (RX7, TX7, 3), (RX8, TX8, 3), (RX9, TX9, 1), (RX10, TX10, 13), (RX11, TX11, 14), (RX12, TX12, 76)]
