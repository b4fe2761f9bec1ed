section
-- ===== PART A: goes FIRST, ahead of the names: the tables' words, and 'selects' of the private methods out of them =====
/-- a private method of a class that the tables say can be made, by its rows of tables_1 -/
def lw_okq (q : MethodName × Nat) : Prop := (q.1.cls ≠ "java/lang/invoke/MethodHandle" ∧ q.1.cls ≠ "java/lang/invoke/VarHandle") ∧ Cond.instantiable q.1.cls q.2 ∈ tables_1 ∧ Cond.privateMethod q.1 ∈ tables_1 ∧ Cond.instanceMethod q.1 ∈ tables_1
theorem lw_p0 : lw_okq (⟨"ArcFactoredParser", "find", "(I)LArcFactoredParser$Sentence;"⟩, 10) := ⟨⟨by decide +kernel, by decide +kernel⟩, List.mem_of_getElem? (i := 14) (by decide +kernel), List.mem_of_getElem? (i := 323) (by decide +kernel), List.mem_of_getElem? (i := 324) (by decide +kernel)⟩
theorem lw_p1 : lw_okq (⟨"ArcFactoredParser", "rankTrees", "(LArcFactoredParser$Sentence;I)V"⟩, 10) := ⟨⟨by decide +kernel, by decide +kernel⟩, List.mem_of_getElem? (i := 14) (by decide +kernel), List.mem_of_getElem? (i := 366) (by decide +kernel), List.mem_of_getElem? (i := 367) (by decide +kernel)⟩
theorem lw_p2 : lw_okq (⟨"ArcFactoredParser", "offerArcs", "(LArcFactoredParser$Sentence;Z)V"⟩, 10) := ⟨⟨by decide +kernel, by decide +kernel⟩, List.mem_of_getElem? (i := 14) (by decide +kernel), List.mem_of_getElem? (i := 370) (by decide +kernel), List.mem_of_getElem? (i := 371) (by decide +kernel)⟩
theorem lw_p3 : lw_okq (⟨"ArcFactoredParser", "arcScore", "(LArcFactoredParser$Sentence;II)I"⟩, 10) := ⟨⟨by decide +kernel, by decide +kernel⟩, List.mem_of_getElem? (i := 14) (by decide +kernel), List.mem_of_getElem? (i := 395) (by decide +kernel), List.mem_of_getElem? (i := 396) (by decide +kernel)⟩
theorem lw_p4 : lw_okq (⟨"ArcFactoredParser$TreeSearch", "descend", "(IJZ)V"⟩, 10) := ⟨⟨by decide +kernel, by decide +kernel⟩, List.mem_of_getElem? (i := 115) (by decide +kernel), List.mem_of_getElem? (i := 426) (by decide +kernel), List.mem_of_getElem? (i := 427) (by decide +kernel)⟩
theorem lw_p5 : lw_okq (⟨"ArcFactoredParser$TreeSearch", "keep", "(J)V"⟩, 10) := ⟨⟨by decide +kernel, by decide +kernel⟩, List.mem_of_getElem? (i := 115) (by decide +kernel), List.mem_of_getElem? (i := 430) (by decide +kernel), List.mem_of_getElem? (i := 431) (by decide +kernel)⟩
theorem lw_p6 : lw_okq (⟨"ArcFactoredParser$TreeSearch", "closesCycle", "(II)Z"⟩, 10) := ⟨⟨by decide +kernel, by decide +kernel⟩, List.mem_of_getElem? (i := 115) (by decide +kernel), List.mem_of_getElem? (i := 434) (by decide +kernel), List.mem_of_getElem? (i := 435) (by decide +kernel)⟩
theorem lw_p7 : lw_okq (⟨"ArcFactoredParser$TreeSearch", "crossesEarlier", "(II)Z"⟩, 10) := ⟨⟨by decide +kernel, by decide +kernel⟩, List.mem_of_getElem? (i := 115) (by decide +kernel), List.mem_of_getElem? (i := 438) (by decide +kernel), List.mem_of_getElem? (i := 439) (by decide +kernel)⟩
theorem lw_p8 : lw_okq (⟨"ArcFactoredParser", "countAgreeing", "(LArcFactoredParser$Sentence;)I"⟩, 10) := ⟨⟨by decide +kernel, by decide +kernel⟩, List.mem_of_getElem? (i := 14) (by decide +kernel), List.mem_of_getElem? (i := 445) (by decide +kernel), List.mem_of_getElem? (i := 446) (by decide +kernel)⟩
theorem lw_p9 : lw_okq (⟨"ArcFactoredParser", "annotationScore", "(LArcFactoredParser$Sentence;)I"⟩, 10) := ⟨⟨by decide +kernel, by decide +kernel⟩, List.mem_of_getElem? (i := 14) (by decide +kernel), List.mem_of_getElem? (i := 540) (by decide +kernel), List.mem_of_getElem? (i := 541) (by decide +kernel)⟩
theorem lw_p10 : lw_okq (⟨"ArcFactoredParser", "countTrees", "(LArcFactoredParser$Sentence;)I"⟩, 10) := ⟨⟨by decide +kernel, by decide +kernel⟩, List.mem_of_getElem? (i := 14) (by decide +kernel), List.mem_of_getElem? (i := 552) (by decide +kernel), List.mem_of_getElem? (i := 553) (by decide +kernel)⟩
theorem lw_p11 : lw_okq (⟨"ArcFactoredParser", "setPotentials", "(LArcFactoredParser$Sentence;Z)V"⟩, 10) := ⟨⟨by decide +kernel, by decide +kernel⟩, List.mem_of_getElem? (i := 14) (by decide +kernel), List.mem_of_getElem? (i := 556) (by decide +kernel), List.mem_of_getElem? (i := 557) (by decide +kernel)⟩
theorem lw_p12 : lw_okq (⟨"ArcFactoredParser", "potential", "(LArcFactoredParser$Sentence;II)I"⟩, 10) := ⟨⟨by decide +kernel, by decide +kernel⟩, List.mem_of_getElem? (i := 14) (by decide +kernel), List.mem_of_getElem? (i := 564) (by decide +kernel), List.mem_of_getElem? (i := 565) (by decide +kernel)⟩
theorem lw_p13 : lw_okq (⟨"ArcFactoredParser$TreeSums", "addBranches", "(II)J"⟩, 8) := ⟨⟨by decide +kernel, by decide +kernel⟩, List.mem_of_getElem? (i := 157) (by decide +kernel), List.mem_of_getElem? (i := 584) (by decide +kernel), List.mem_of_getElem? (i := 585) (by decide +kernel)⟩
theorem lw_p14 : lw_okq (⟨"ArcFactoredParser$TreeSums", "mayBranch", "(I)Z"⟩, 8) := ⟨⟨by decide +kernel, by decide +kernel⟩, List.mem_of_getElem? (i := 157) (by decide +kernel), List.mem_of_getElem? (i := 588) (by decide +kernel), List.mem_of_getElem? (i := 589) (by decide +kernel)⟩
theorem lw_p15 : lw_okq (⟨"ArcFactoredParser$TreeSums", "addForests", "(II)J"⟩, 8) := ⟨⟨by decide +kernel, by decide +kernel⟩, List.mem_of_getElem? (i := 157) (by decide +kernel), List.mem_of_getElem? (i := 592) (by decide +kernel), List.mem_of_getElem? (i := 593) (by decide +kernel)⟩
def lw_privs_1 : List (MethodName × Nat) := [(⟨"ArcFactoredParser", "find", "(I)LArcFactoredParser$Sentence;"⟩, 10), (⟨"ArcFactoredParser", "rankTrees", "(LArcFactoredParser$Sentence;I)V"⟩, 10), (⟨"ArcFactoredParser", "offerArcs", "(LArcFactoredParser$Sentence;Z)V"⟩, 10), (⟨"ArcFactoredParser", "arcScore", "(LArcFactoredParser$Sentence;II)I"⟩, 10), (⟨"ArcFactoredParser$TreeSearch", "descend", "(IJZ)V"⟩, 10), (⟨"ArcFactoredParser$TreeSearch", "keep", "(J)V"⟩, 10), (⟨"ArcFactoredParser$TreeSearch", "closesCycle", "(II)Z"⟩, 10), (⟨"ArcFactoredParser$TreeSearch", "crossesEarlier", "(II)Z"⟩, 10), (⟨"ArcFactoredParser", "countAgreeing", "(LArcFactoredParser$Sentence;)I"⟩, 10), (⟨"ArcFactoredParser", "annotationScore", "(LArcFactoredParser$Sentence;)I"⟩, 10), (⟨"ArcFactoredParser", "countTrees", "(LArcFactoredParser$Sentence;)I"⟩, 10), (⟨"ArcFactoredParser", "setPotentials", "(LArcFactoredParser$Sentence;Z)V"⟩, 10), (⟨"ArcFactoredParser", "potential", "(LArcFactoredParser$Sentence;II)I"⟩, 10), (⟨"ArcFactoredParser$TreeSums", "addBranches", "(II)J"⟩, 8), (⟨"ArcFactoredParser$TreeSums", "mayBranch", "(I)Z"⟩, 8), (⟨"ArcFactoredParser$TreeSums", "addForests", "(II)J"⟩, 8)]
theorem lw_r1 : ∀ q ∈ lw_privs_1, lw_okq q := List.forall_mem_cons.mpr ⟨lw_p0, List.forall_mem_cons.mpr ⟨lw_p1, List.forall_mem_cons.mpr ⟨lw_p2, List.forall_mem_cons.mpr ⟨lw_p3, List.forall_mem_cons.mpr ⟨lw_p4, List.forall_mem_cons.mpr ⟨lw_p5, List.forall_mem_cons.mpr ⟨lw_p6, List.forall_mem_cons.mpr ⟨lw_p7, List.forall_mem_cons.mpr ⟨lw_p8, List.forall_mem_cons.mpr ⟨lw_p9, List.forall_mem_cons.mpr ⟨lw_p10, List.forall_mem_cons.mpr ⟨lw_p11, List.forall_mem_cons.mpr ⟨lw_p12, List.forall_mem_cons.mpr ⟨lw_p13, List.forall_mem_cons.mpr ⟨lw_p14, List.forall_mem_cons.mpr ⟨lw_p15, fun _ h => absurd h List.not_mem_nil⟩⟩⟩⟩⟩⟩⟩⟩⟩⟩⟩⟩⟩⟩⟩⟩
theorem lw_p16 : lw_okq (⟨"ArcFactoredParser", "sumWeights", "(LArcFactoredParser$Sentence;)J"⟩, 10) := ⟨⟨by decide +kernel, by decide +kernel⟩, List.mem_of_getElem? (i := 14) (by decide +kernel), List.mem_of_getElem? (i := 601) (by decide +kernel), List.mem_of_getElem? (i := 602) (by decide +kernel)⟩
theorem lw_p17 : lw_okq (⟨"ArcFactoredParser$TreeSums", "clearGains", "()V"⟩, 8) := ⟨⟨by decide +kernel, by decide +kernel⟩, List.mem_of_getElem? (i := 157) (by decide +kernel), List.mem_of_getElem? (i := 614) (by decide +kernel), List.mem_of_getElem? (i := 615) (by decide +kernel)⟩
theorem lw_p18 : lw_okq (⟨"ArcFactoredParser$TreeSums", "spreadForest", "(II)V"⟩, 8) := ⟨⟨by decide +kernel, by decide +kernel⟩, List.mem_of_getElem? (i := 157) (by decide +kernel), List.mem_of_getElem? (i := 618) (by decide +kernel), List.mem_of_getElem? (i := 619) (by decide +kernel)⟩
theorem lw_p19 : lw_okq (⟨"ArcFactoredParser$TreeSums", "spreadBranch", "(II)V"⟩, 8) := ⟨⟨by decide +kernel, by decide +kernel⟩, List.mem_of_getElem? (i := 157) (by decide +kernel), List.mem_of_getElem? (i := 622) (by decide +kernel), List.mem_of_getElem? (i := 623) (by decide +kernel)⟩
theorem lw_p20 : lw_okq (⟨"ArcFactoredParser$TransitionRun", "visit", "(II)V"⟩, 12) := ⟨⟨by decide +kernel, by decide +kernel⟩, List.mem_of_getElem? (i := 189) (by decide +kernel), List.mem_of_getElem? (i := 656) (by decide +kernel), List.mem_of_getElem? (i := 657) (by decide +kernel)⟩
theorem lw_p21 : lw_okq (⟨"ArcFactoredParser", "countTransitions", "(LArcFactoredParser$Sentence;)I"⟩, 10) := ⟨⟨by decide +kernel, by decide +kernel⟩, List.mem_of_getElem? (i := 14) (by decide +kernel), List.mem_of_getElem? (i := 664) (by decide +kernel), List.mem_of_getElem? (i := 665) (by decide +kernel)⟩
theorem lw_p22 : lw_okq (⟨"ArcFactoredParser$TransitionRun", "choose", "()I"⟩, 12) := ⟨⟨by decide +kernel, by decide +kernel⟩, List.mem_of_getElem? (i := 189) (by decide +kernel), List.mem_of_getElem? (i := 672) (by decide +kernel), List.mem_of_getElem? (i := 673) (by decide +kernel)⟩
theorem lw_p23 : lw_okq (⟨"ArcFactoredParser$TransitionRun", "isComplete", "(I)Z"⟩, 12) := ⟨⟨by decide +kernel, by decide +kernel⟩, List.mem_of_getElem? (i := 189) (by decide +kernel), List.mem_of_getElem? (i := 676) (by decide +kernel), List.mem_of_getElem? (i := 677) (by decide +kernel)⟩
theorem lw_p24 : lw_okq (⟨"ArcFactoredParser$TransitionRun", "apply", "(I)V"⟩, 12) := ⟨⟨by decide +kernel, by decide +kernel⟩, List.mem_of_getElem? (i := 189) (by decide +kernel), List.mem_of_getElem? (i := 680) (by decide +kernel), List.mem_of_getElem? (i := 681) (by decide +kernel)⟩
theorem lw_p25 : lw_okq (⟨"ArcFactoredParser", "learn", "(LArcFactoredParser$Sentence;)I"⟩, 10) := ⟨⟨by decide +kernel, by decide +kernel⟩, List.mem_of_getElem? (i := 14) (by decide +kernel), List.mem_of_getElem? (i := 692) (by decide +kernel), List.mem_of_getElem? (i := 693) (by decide +kernel)⟩
theorem lw_p26 : lw_okq (⟨"ArcFactoredParser", "mixSentence", "(JLArcFactoredParser$Sentence;)J"⟩, 10) := ⟨⟨by decide +kernel, by decide +kernel⟩, List.mem_of_getElem? (i := 14) (by decide +kernel), List.mem_of_getElem? (i := 735) (by decide +kernel), List.mem_of_getElem? (i := 736) (by decide +kernel)⟩
theorem lw_p27 : lw_okq (⟨"ArcFactoredParserModel", "faultOf", "()I"⟩, 40) := ⟨⟨by decide +kernel, by decide +kernel⟩, List.mem_of_getElem? (i := 744) (by decide +kernel), List.mem_of_getElem? (i := 888) (by decide +kernel), List.mem_of_getElem? (i := 889) (by decide +kernel)⟩
theorem lw_p28 : lw_okq (⟨"ArcFactoredParserModel", "isSentence", "(I)Z"⟩, 40) := ⟨⟨by decide +kernel, by decide +kernel⟩, List.mem_of_getElem? (i := 744) (by decide +kernel), List.mem_of_getElem? (i := 908) (by decide +kernel), List.mem_of_getElem? (i := 909) (by decide +kernel)⟩
theorem lw_p29 : lw_okq (⟨"ArcFactoredParserModel", "isWord", "(II)Z"⟩, 40) := ⟨⟨by decide +kernel, by decide +kernel⟩, List.mem_of_getElem? (i := 744) (by decide +kernel), List.mem_of_getElem? (i := 925) (by decide +kernel), List.mem_of_getElem? (i := 926) (by decide +kernel)⟩
theorem lw_p30 : lw_okq (⟨"ArcFactoredParserModel", "isArc", "(III)Z"⟩, 40) := ⟨⟨by decide +kernel, by decide +kernel⟩, List.mem_of_getElem? (i := 744) (by decide +kernel), List.mem_of_getElem? (i := 937) (by decide +kernel), List.mem_of_getElem? (i := 938) (by decide +kernel)⟩
theorem lw_p31 : lw_okq (⟨"ArcFactoredParserModel", "sets", "(II)I"⟩, 40) := ⟨⟨by decide +kernel, by decide +kernel⟩, List.mem_of_getElem? (i := 744) (by decide +kernel), List.mem_of_getElem? (i := 951) (by decide +kernel), List.mem_of_getElem? (i := 952) (by decide +kernel)⟩
def lw_privs_2 : List (MethodName × Nat) := [(⟨"ArcFactoredParser", "sumWeights", "(LArcFactoredParser$Sentence;)J"⟩, 10), (⟨"ArcFactoredParser$TreeSums", "clearGains", "()V"⟩, 8), (⟨"ArcFactoredParser$TreeSums", "spreadForest", "(II)V"⟩, 8), (⟨"ArcFactoredParser$TreeSums", "spreadBranch", "(II)V"⟩, 8), (⟨"ArcFactoredParser$TransitionRun", "visit", "(II)V"⟩, 12), (⟨"ArcFactoredParser", "countTransitions", "(LArcFactoredParser$Sentence;)I"⟩, 10), (⟨"ArcFactoredParser$TransitionRun", "choose", "()I"⟩, 12), (⟨"ArcFactoredParser$TransitionRun", "isComplete", "(I)Z"⟩, 12), (⟨"ArcFactoredParser$TransitionRun", "apply", "(I)V"⟩, 12), (⟨"ArcFactoredParser", "learn", "(LArcFactoredParser$Sentence;)I"⟩, 10), (⟨"ArcFactoredParser", "mixSentence", "(JLArcFactoredParser$Sentence;)J"⟩, 10), (⟨"ArcFactoredParserModel", "faultOf", "()I"⟩, 40), (⟨"ArcFactoredParserModel", "isSentence", "(I)Z"⟩, 40), (⟨"ArcFactoredParserModel", "isWord", "(II)Z"⟩, 40), (⟨"ArcFactoredParserModel", "isArc", "(III)Z"⟩, 40), (⟨"ArcFactoredParserModel", "sets", "(II)I"⟩, 40)]
theorem lw_r2 : ∀ q ∈ lw_privs_2, lw_okq q := List.forall_mem_cons.mpr ⟨lw_p16, List.forall_mem_cons.mpr ⟨lw_p17, List.forall_mem_cons.mpr ⟨lw_p18, List.forall_mem_cons.mpr ⟨lw_p19, List.forall_mem_cons.mpr ⟨lw_p20, List.forall_mem_cons.mpr ⟨lw_p21, List.forall_mem_cons.mpr ⟨lw_p22, List.forall_mem_cons.mpr ⟨lw_p23, List.forall_mem_cons.mpr ⟨lw_p24, List.forall_mem_cons.mpr ⟨lw_p25, List.forall_mem_cons.mpr ⟨lw_p26, List.forall_mem_cons.mpr ⟨lw_p27, List.forall_mem_cons.mpr ⟨lw_p28, List.forall_mem_cons.mpr ⟨lw_p29, List.forall_mem_cons.mpr ⟨lw_p30, List.forall_mem_cons.mpr ⟨lw_p31, fun _ h => absurd h List.not_mem_nil⟩⟩⟩⟩⟩⟩⟩⟩⟩⟩⟩⟩⟩⟩⟩⟩
theorem lw_p32 : lw_okq (⟨"ArcFactoredParserModel", "scoreOf", "(III)I"⟩, 40) := ⟨⟨by decide +kernel, by decide +kernel⟩, List.mem_of_getElem? (i := 744) (by decide +kernel), List.mem_of_getElem? (i := 1000) (by decide +kernel), List.mem_of_getElem? (i := 1001) (by decide +kernel)⟩
theorem lw_p33 : lw_okq (⟨"ArcFactoredParserModel", "tagPlaceOf", "(III)I"⟩, 40) := ⟨⟨by decide +kernel, by decide +kernel⟩, List.mem_of_getElem? (i := 744) (by decide +kernel), List.mem_of_getElem? (i := 1004) (by decide +kernel), List.mem_of_getElem? (i := 1005) (by decide +kernel)⟩
theorem lw_p34 : lw_okq (⟨"ArcFactoredParserModel", "tagOf", "(II)I"⟩, 40) := ⟨⟨by decide +kernel, by decide +kernel⟩, List.mem_of_getElem? (i := 744) (by decide +kernel), List.mem_of_getElem? (i := 1008) (by decide +kernel), List.mem_of_getElem? (i := 1009) (by decide +kernel)⟩
theorem lw_p35 : lw_okq (⟨"ArcFactoredParserModel", "looks", "(I)V"⟩, 40) := ⟨⟨by decide +kernel, by decide +kernel⟩, List.mem_of_getElem? (i := 744) (by decide +kernel), List.mem_of_getElem? (i := 1019) (by decide +kernel), List.mem_of_getElem? (i := 1020) (by decide +kernel)⟩
theorem lw_p36 : lw_okq (⟨"ArcFactoredParserModel", "prepares", "(I)V"⟩, 40) := ⟨⟨by decide +kernel, by decide +kernel⟩, List.mem_of_getElem? (i := 744) (by decide +kernel), List.mem_of_getElem? (i := 1023) (by decide +kernel), List.mem_of_getElem? (i := 1024) (by decide +kernel)⟩
theorem lw_p37 : lw_okq (⟨"ArcFactoredParserModel", "begins", "()V"⟩, 40) := ⟨⟨by decide +kernel, by decide +kernel⟩, List.mem_of_getElem? (i := 744) (by decide +kernel), List.mem_of_getElem? (i := 1029) (by decide +kernel), List.mem_of_getElem? (i := 1030) (by decide +kernel)⟩
theorem lw_p38 : lw_okq (⟨"ArcFactoredParserModel", "isAdmissible", "(I)Z"⟩, 40) := ⟨⟨by decide +kernel, by decide +kernel⟩, List.mem_of_getElem? (i := 744) (by decide +kernel), List.mem_of_getElem? (i := 1033) (by decide +kernel), List.mem_of_getElem? (i := 1034) (by decide +kernel)⟩
theorem lw_p39 : lw_okq (⟨"ArcFactoredParserModel", "meets", "(I)V"⟩, 40) := ⟨⟨by decide +kernel, by decide +kernel⟩, List.mem_of_getElem? (i := 744) (by decide +kernel), List.mem_of_getElem? (i := 1043) (by decide +kernel), List.mem_of_getElem? (i := 1044) (by decide +kernel)⟩
theorem lw_p40 : lw_okq (⟨"ArcFactoredParserModel", "sumOf", "(I)I"⟩, 40) := ⟨⟨by decide +kernel, by decide +kernel⟩, List.mem_of_getElem? (i := 744) (by decide +kernel), List.mem_of_getElem? (i := 1047) (by decide +kernel), List.mem_of_getElem? (i := 1048) (by decide +kernel)⟩
theorem lw_p41 : lw_okq (⟨"ArcFactoredParserModel", "isAnnotation", "(I)Z"⟩, 40) := ⟨⟨by decide +kernel, by decide +kernel⟩, List.mem_of_getElem? (i := 744) (by decide +kernel), List.mem_of_getElem? (i := 1051) (by decide +kernel), List.mem_of_getElem? (i := 1052) (by decide +kernel)⟩
theorem lw_p42 : lw_okq (⟨"ArcFactoredParserModel", "ranks", "(II)V"⟩, 40) := ⟨⟨by decide +kernel, by decide +kernel⟩, List.mem_of_getElem? (i := 744) (by decide +kernel), List.mem_of_getElem? (i := 1055) (by decide +kernel), List.mem_of_getElem? (i := 1056) (by decide +kernel)⟩
theorem lw_p43 : lw_okq (⟨"ArcFactoredParserModel", "steps", "(I)Z"⟩, 40) := ⟨⟨by decide +kernel, by decide +kernel⟩, List.mem_of_getElem? (i := 744) (by decide +kernel), List.mem_of_getElem? (i := 1059) (by decide +kernel), List.mem_of_getElem? (i := 1060) (by decide +kernel)⟩
theorem lw_p44 : lw_okq (⟨"ArcFactoredParserModel", "right", "(I)I"⟩, 40) := ⟨⟨by decide +kernel, by decide +kernel⟩, List.mem_of_getElem? (i := 744) (by decide +kernel), List.mem_of_getElem? (i := 1087) (by decide +kernel), List.mem_of_getElem? (i := 1088) (by decide +kernel)⟩
theorem lw_p45 : lw_okq (⟨"ArcFactoredParserModel", "looksForRisk", "(I)V"⟩, 40) := ⟨⟨by decide +kernel, by decide +kernel⟩, List.mem_of_getElem? (i := 744) (by decide +kernel), List.mem_of_getElem? (i := 1113) (by decide +kernel), List.mem_of_getElem? (i := 1114) (by decide +kernel)⟩
theorem lw_p46 : lw_okq (⟨"ArcFactoredParserModel", "risks", "(I)V"⟩, 40) := ⟨⟨by decide +kernel, by decide +kernel⟩, List.mem_of_getElem? (i := 744) (by decide +kernel), List.mem_of_getElem? (i := 1117) (by decide +kernel), List.mem_of_getElem? (i := 1118) (by decide +kernel)⟩
theorem lw_p47 : lw_okq (⟨"ArcFactoredParserModel", "orders", "(I)V"⟩, 40) := ⟨⟨by decide +kernel, by decide +kernel⟩, List.mem_of_getElem? (i := 744) (by decide +kernel), List.mem_of_getElem? (i := 1133) (by decide +kernel), List.mem_of_getElem? (i := 1134) (by decide +kernel)⟩
def lw_privs_3 : List (MethodName × Nat) := [(⟨"ArcFactoredParserModel", "scoreOf", "(III)I"⟩, 40), (⟨"ArcFactoredParserModel", "tagPlaceOf", "(III)I"⟩, 40), (⟨"ArcFactoredParserModel", "tagOf", "(II)I"⟩, 40), (⟨"ArcFactoredParserModel", "looks", "(I)V"⟩, 40), (⟨"ArcFactoredParserModel", "prepares", "(I)V"⟩, 40), (⟨"ArcFactoredParserModel", "begins", "()V"⟩, 40), (⟨"ArcFactoredParserModel", "isAdmissible", "(I)Z"⟩, 40), (⟨"ArcFactoredParserModel", "meets", "(I)V"⟩, 40), (⟨"ArcFactoredParserModel", "sumOf", "(I)I"⟩, 40), (⟨"ArcFactoredParserModel", "isAnnotation", "(I)Z"⟩, 40), (⟨"ArcFactoredParserModel", "ranks", "(II)V"⟩, 40), (⟨"ArcFactoredParserModel", "steps", "(I)Z"⟩, 40), (⟨"ArcFactoredParserModel", "right", "(I)I"⟩, 40), (⟨"ArcFactoredParserModel", "looksForRisk", "(I)V"⟩, 40), (⟨"ArcFactoredParserModel", "risks", "(I)V"⟩, 40), (⟨"ArcFactoredParserModel", "orders", "(I)V"⟩, 40)]
theorem lw_r3 : ∀ q ∈ lw_privs_3, lw_okq q := List.forall_mem_cons.mpr ⟨lw_p32, List.forall_mem_cons.mpr ⟨lw_p33, List.forall_mem_cons.mpr ⟨lw_p34, List.forall_mem_cons.mpr ⟨lw_p35, List.forall_mem_cons.mpr ⟨lw_p36, List.forall_mem_cons.mpr ⟨lw_p37, List.forall_mem_cons.mpr ⟨lw_p38, List.forall_mem_cons.mpr ⟨lw_p39, List.forall_mem_cons.mpr ⟨lw_p40, List.forall_mem_cons.mpr ⟨lw_p41, List.forall_mem_cons.mpr ⟨lw_p42, List.forall_mem_cons.mpr ⟨lw_p43, List.forall_mem_cons.mpr ⟨lw_p44, List.forall_mem_cons.mpr ⟨lw_p45, List.forall_mem_cons.mpr ⟨lw_p46, List.forall_mem_cons.mpr ⟨lw_p47, fun _ h => absurd h List.not_mem_nil⟩⟩⟩⟩⟩⟩⟩⟩⟩⟩⟩⟩⟩⟩⟩⟩
theorem lw_p48 : lw_okq (⟨"ArcFactoredParserModel", "placeOf", "(II)I"⟩, 40) := ⟨⟨by decide +kernel, by decide +kernel⟩, List.mem_of_getElem? (i := 744) (by decide +kernel), List.mem_of_getElem? (i := 1137) (by decide +kernel), List.mem_of_getElem? (i := 1138) (by decide +kernel)⟩
theorem lw_p49 : lw_okq (⟨"ArcFactoredParserModel", "inserts", "(III)V"⟩, 40) := ⟨⟨by decide +kernel, by decide +kernel⟩, List.mem_of_getElem? (i := 744) (by decide +kernel), List.mem_of_getElem? (i := 1141) (by decide +kernel), List.mem_of_getElem? (i := 1142) (by decide +kernel)⟩
theorem lw_p50 : lw_okq (⟨"ArcFactoredParserModel", "moves", "(I)V"⟩, 40) := ⟨⟨by decide +kernel, by decide +kernel⟩, List.mem_of_getElem? (i := 744) (by decide +kernel), List.mem_of_getElem? (i := 1149) (by decide +kernel), List.mem_of_getElem? (i := 1150) (by decide +kernel)⟩
theorem lw_p51 : lw_okq (⟨"ArcFactoredParserModel", "next", "(I)I"⟩, 40) := ⟨⟨by decide +kernel, by decide +kernel⟩, List.mem_of_getElem? (i := 744) (by decide +kernel), List.mem_of_getElem? (i := 1153) (by decide +kernel), List.mem_of_getElem? (i := 1154) (by decide +kernel)⟩
theorem lw_p52 : lw_okq (⟨"ArcFactoredParserModel", "isReady", "(II)Z"⟩, 40) := ⟨⟨by decide +kernel, by decide +kernel⟩, List.mem_of_getElem? (i := 744) (by decide +kernel), List.mem_of_getElem? (i := 1157) (by decide +kernel), List.mem_of_getElem? (i := 1158) (by decide +kernel)⟩
theorem lw_p53 : lw_okq (⟨"ArcFactoredParserModel", "trains", "(I)I"⟩, 40) := ⟨⟨by decide +kernel, by decide +kernel⟩, List.mem_of_getElem? (i := 744) (by decide +kernel), List.mem_of_getElem? (i := 1169) (by decide +kernel), List.mem_of_getElem? (i := 1170) (by decide +kernel)⟩
theorem lw_p54 : lw_okq (⟨"ArcFactoredParserModel", "changes", "(II)V"⟩, 40) := ⟨⟨by decide +kernel, by decide +kernel⟩, List.mem_of_getElem? (i := 744) (by decide +kernel), List.mem_of_getElem? (i := 1173) (by decide +kernel), List.mem_of_getElem? (i := 1174) (by decide +kernel)⟩
theorem lw_p55 : lw_okq (⟨"ArcFactoredParserModel", "used", "()I"⟩, 40) := ⟨⟨by decide +kernel, by decide +kernel⟩, List.mem_of_getElem? (i := 744) (by decide +kernel), List.mem_of_getElem? (i := 1185) (by decide +kernel), List.mem_of_getElem? (i := 1186) (by decide +kernel)⟩
def lw_privs_4 : List (MethodName × Nat) := [(⟨"ArcFactoredParserModel", "placeOf", "(II)I"⟩, 40), (⟨"ArcFactoredParserModel", "inserts", "(III)V"⟩, 40), (⟨"ArcFactoredParserModel", "moves", "(I)V"⟩, 40), (⟨"ArcFactoredParserModel", "next", "(I)I"⟩, 40), (⟨"ArcFactoredParserModel", "isReady", "(II)Z"⟩, 40), (⟨"ArcFactoredParserModel", "trains", "(I)I"⟩, 40), (⟨"ArcFactoredParserModel", "changes", "(II)V"⟩, 40), (⟨"ArcFactoredParserModel", "used", "()I"⟩, 40)]
theorem lw_r4 : ∀ q ∈ lw_privs_4, lw_okq q := List.forall_mem_cons.mpr ⟨lw_p48, List.forall_mem_cons.mpr ⟨lw_p49, List.forall_mem_cons.mpr ⟨lw_p50, List.forall_mem_cons.mpr ⟨lw_p51, List.forall_mem_cons.mpr ⟨lw_p52, List.forall_mem_cons.mpr ⟨lw_p53, List.forall_mem_cons.mpr ⟨lw_p54, List.forall_mem_cons.mpr ⟨lw_p55, fun _ h => absurd h List.not_mem_nil⟩⟩⟩⟩⟩⟩⟩⟩
def lw_privs : List (MethodName × Nat) := lw_privs_1 ++ (lw_privs_2 ++ (lw_privs_3 ++ (lw_privs_4)))
def lw_tbl : List Cond := k2_sels lw_privs ++ tables_1
theorem lw_privs_ok : ∀ q ∈ lw_privs, lw_okq q := by
  show ∀ q ∈ lw_privs_1 ++ (lw_privs_2 ++ (lw_privs_3 ++ (lw_privs_4))), lw_okq q
  exact List.forall_mem_append.mpr ⟨lw_r1, List.forall_mem_append.mpr ⟨lw_r2, List.forall_mem_append.mpr ⟨lw_r3, lw_r4⟩⟩⟩

def RX0 : String := "ArcFactoredParser$Sentence"
def TX0 : u_T := fun k => match k with
  | 0 => ("ArcFactoredParser$Sentence", "size", "I", false)
  | 1 => ("ArcFactoredParser$Sentence", "tags", "[I", true)
  | 2 => ("ArcFactoredParser$Sentence", "heads", "[I", true)
  | 3 => ("ArcFactoredParser$Sentence", "biases", "[[I", true)
  | _ => ("ArcFactoredParser$Sentence", "constraints", "[[I", true)
def tyX0 : Nat → FieldType := fun k => match k with
  | 0 => .int
  | 1 => .array .int
  | 2 => .array .int
  | 3 => .array (.array .int)
  | _ => .array (.array .int)
abbrev wsX00 : List Cond := u_ws RX0 TX0 5
theorem nmX0 : ∀ a, a < 5 → ∀ b, b < 5 → a ≠ b → (TX0 a).2.1 ≠ (TX0 b).2.1 := by decide +kernel
theorem tyX0_ok : ∀ k, k < 5 → parseFieldDescriptor (TX0 k).2.2.1 = some (tyX0 k) := by decide +kernel
abbrev cX0_init : ByteArray := prog_2_method_1_code
def yX0_init : MethodName := ⟨RX0, "<init>", "()V"⟩
abbrev cX0_blank : ByteArray := prog_2_method_2_code
def yX0_blank : MethodName := ⟨RX0, "blank", "()V"⟩
abbrev cX0_addWord : ByteArray := prog_2_method_3_code
def yX0_addWord : MethodName := ⟨RX0, "addWord", "(II)V"⟩
abbrev cX0_hasWord : ByteArray := prog_2_method_4_code
def yX0_hasWord : MethodName := ⟨RX0, "hasWord", "(I)Z"⟩
abbrev cX0_hasArc : ByteArray := prog_2_method_5_code
def yX0_hasArc : MethodName := ⟨RX0, "hasArc", "(II)Z"⟩
abbrev cX0_headChoices : ByteArray := prog_2_method_6_code
def yX0_headChoices : MethodName := ⟨RX0, "headChoices", "(I)I"⟩
def RX1 : String := "ArcFactoredParser$Settings"
def TX1 : u_T := fun k => match k with
  | 0 => ("ArcFactoredParser$Settings", "singleRoot", "Z", false)
  | 1 => ("ArcFactoredParser$Settings", "projective", "Z", false)
  | _ => ("ArcFactoredParser$Settings", "shift", "I", false)
def tyX1 : Nat → FieldType := fun k => match k with
  | 0 => .boolean
  | 1 => .boolean
  | _ => .int
abbrev wsX10 : List Cond := u_ws RX1 TX1 3
theorem nmX1 : ∀ a, a < 3 → ∀ b, b < 3 → a ≠ b → (TX1 a).2.1 ≠ (TX1 b).2.1 := by decide +kernel
theorem tyX1_ok : ∀ k, k < 3 → parseFieldDescriptor (TX1 k).2.2.1 = some (tyX1 k) := by decide +kernel
abbrev cX1_init : ByteArray := prog_3_method_1_code
def yX1_init : MethodName := ⟨RX1, "<init>", "()V"⟩
def RX2 : String := "ArcFactoredParser$Text"
def TX2 : u_T := fun k => match k with
  | 0 => ("ArcFactoredParser$Text", "letters", "[I", true)
  | 1 => ("ArcFactoredParser$Text", "length", "I", false)
  | _ => ("ArcFactoredParser$Text", "heads", "[I", true)
def tyX2 : Nat → FieldType := fun k => match k with
  | 0 => .array .int
  | 1 => .int
  | _ => .array .int
abbrev wsX20 : List Cond := u_ws RX2 TX2 3
theorem nmX2 : ∀ a, a < 3 → ∀ b, b < 3 → a ≠ b → (TX2 a).2.1 ≠ (TX2 b).2.1 := by decide +kernel
theorem tyX2_ok : ∀ k, k < 3 → parseFieldDescriptor (TX2 k).2.2.1 = some (tyX2 k) := by decide +kernel
abbrev cX2_init : ByteArray := prog_4_method_1_code
def yX2_init : MethodName := ⟨RX2, "<init>", "()V"⟩
abbrev cX2_add : ByteArray := prog_4_method_2_code
def yX2_add : MethodName := ⟨RX2, "add", "(I)Z"⟩
abbrev cX2_findFault : ByteArray := prog_4_method_3_code
def yX2_findFault : MethodName := ⟨RX2, "findFault", "()I"⟩
abbrev cX2_isHeadOf : ByteArray := prog_4_method_4_code
def yX2_isHeadOf : MethodName := ⟨RX2, "isHeadOf", "(II)Z"⟩
abbrev cX2_isDigit : ByteArray := prog_4_method_5_code
def yX2_isDigit : MethodName := ⟨RX2, "isDigit", "(I)Z"⟩
abbrev cX2_isTagLetter : ByteArray := prog_4_method_6_code
def yX2_isTagLetter : MethodName := ⟨RX2, "isTagLetter", "(I)Z"⟩
abbrev cX2_countSentences : ByteArray := prog_4_method_7_code
def yX2_countSentences : MethodName := ⟨RX2, "countSentences", "()I"⟩
def RX3 : String := "ArcFactoredParser$TransitionRun"
def TX3 : u_T := fun k => match k with
  | 0 => ("ArcFactoredParser$TransitionRun", "size", "I", false)
  | 1 => ("ArcFactoredParser$TransitionRun", "heads", "[I", true)
  | 2 => ("ArcFactoredParser$TransitionRun", "order", "[I", true)
  | 3 => ("ArcFactoredParser$TransitionRun", "ordered", "I", false)
  | 4 => ("ArcFactoredParser$TransitionRun", "places", "[I", true)
  | 5 => ("ArcFactoredParser$TransitionRun", "sequence", "[I", true)
  | 6 => ("ArcFactoredParser$TransitionRun", "length", "I", false)
  | 7 => ("ArcFactoredParser$TransitionRun", "stack", "[I", true)
  | 8 => ("ArcFactoredParser$TransitionRun", "stacked", "I", false)
  | 9 => ("ArcFactoredParser$TransitionRun", "buffer", "[I", true)
  | 10 => ("ArcFactoredParser$TransitionRun", "waiting", "I", false)
  | _ => ("ArcFactoredParser$TransitionRun", "attached", "[Z", true)
def tyX3 : Nat → FieldType := fun k => match k with
  | 0 => .int
  | 1 => .array .int
  | 2 => .array .int
  | 3 => .int
  | 4 => .array .int
  | 5 => .array .int
  | 6 => .int
  | 7 => .array .int
  | 8 => .int
  | 9 => .array .int
  | 10 => .int
  | _ => .array .boolean
abbrev wsX30 : List Cond := u_ws RX3 TX3 12
theorem nmX3 : ∀ a, a < 12 → ∀ b, b < 12 → a ≠ b → (TX3 a).2.1 ≠ (TX3 b).2.1 := by decide +kernel
theorem tyX3_ok : ∀ k, k < 12 → parseFieldDescriptor (TX3 k).2.2.1 = some (tyX3 k) := by decide +kernel
abbrev cX3_init : ByteArray := prog_5_method_1_code
def yX3_init : MethodName := ⟨RX3, "<init>", "()V"⟩
abbrev cX3_arrange : ByteArray := prog_5_method_2_code
def yX3_arrange : MethodName := ⟨RX3, "arrange", "(LArcFactoredParser$Sentence;)V"⟩
abbrev cX3_visit : ByteArray := prog_5_method_3_code
def yX3_visit : MethodName := ⟨RX3, "visit", "(II)V"⟩
abbrev cX3_perform : ByteArray := prog_5_method_4_code
def yX3_perform : MethodName := ⟨RX3, "perform", "()V"⟩
abbrev cX3_choose : ByteArray := prog_5_method_5_code
def yX3_choose : MethodName := ⟨RX3, "choose", "()I"⟩
abbrev cX3_isComplete : ByteArray := prog_5_method_6_code
def yX3_isComplete : MethodName := ⟨RX3, "isComplete", "(I)Z"⟩
abbrev cX3_apply : ByteArray := prog_5_method_7_code
def yX3_apply : MethodName := ⟨RX3, "apply", "(I)V"⟩
def RX4 : String := "ArcFactoredParser$TreeSearch"
def TX4 : u_T := fun k => match k with
  | 0 => ("ArcFactoredParser$TreeSearch", "settings", "LArcFactoredParser$Settings;", true)
  | 1 => ("ArcFactoredParser$TreeSearch", "size", "I", false)
  | 2 => ("ArcFactoredParser$TreeSearch", "values", "[[J", true)
  | 3 => ("ArcFactoredParser$TreeSearch", "offered", "[[I", true)
  | 4 => ("ArcFactoredParser$TreeSearch", "offers", "[I", true)
  | 5 => ("ArcFactoredParser$TreeSearch", "rest", "[J", true)
  | 6 => ("ArcFactoredParser$TreeSearch", "heads", "[I", true)
  | 7 => ("ArcFactoredParser$TreeSearch", "kept", "[J", true)
  | 8 => ("ArcFactoredParser$TreeSearch", "wanted", "I", false)
  | _ => ("ArcFactoredParser$TreeSearch", "found", "I", false)
def tyX4 : Nat → FieldType := fun k => match k with
  | 0 => .object "ArcFactoredParser$Settings"
  | 1 => .int
  | 2 => .array (.array .long)
  | 3 => .array (.array .int)
  | 4 => .array .int
  | 5 => .array .long
  | 6 => .array .int
  | 7 => .array .long
  | 8 => .int
  | _ => .int
abbrev wsX40 : List Cond := u_ws RX4 TX4 10
theorem nmX4 : ∀ a, a < 10 → ∀ b, b < 10 → a ≠ b → (TX4 a).2.1 ≠ (TX4 b).2.1 := by decide +kernel
theorem tyX4_ok : ∀ k, k < 10 → parseFieldDescriptor (TX4 k).2.2.1 = some (tyX4 k) := by decide +kernel
abbrev cX4_init : ByteArray := prog_6_method_1_code
def yX4_init : MethodName := ⟨RX4, "<init>", "(LArcFactoredParser$Settings;)V"⟩
abbrev cX4_begin : ByteArray := prog_6_method_2_code
def yX4_begin : MethodName := ⟨RX4, "begin", "(I)V"⟩
abbrev cX4_offer : ByteArray := prog_6_method_3_code
def yX4_offer : MethodName := ⟨RX4, "offer", "(IIJ)V"⟩
abbrev cX4_keepOnly : ByteArray := prog_6_method_4_code
def yX4_keepOnly : MethodName := ⟨RX4, "keepOnly", "(II)V"⟩
abbrev cX4_seek : ByteArray := prog_6_method_5_code
def yX4_seek : MethodName := ⟨RX4, "seek", "(I)V"⟩
abbrev cX4_descend : ByteArray := prog_6_method_6_code
def yX4_descend : MethodName := ⟨RX4, "descend", "(IJZ)V"⟩
abbrev cX4_closesCycle : ByteArray := prog_6_method_7_code
def yX4_closesCycle : MethodName := ⟨RX4, "closesCycle", "(II)Z"⟩
abbrev cX4_crossesEarlier : ByteArray := prog_6_method_8_code
def yX4_crossesEarlier : MethodName := ⟨RX4, "crossesEarlier", "(II)Z"⟩
abbrev cX4_keep : ByteArray := prog_6_method_9_code
def yX4_keep : MethodName := ⟨RX4, "keep", "(J)V"⟩
abbrev cX4_scoreAt : ByteArray := prog_6_method_10_code
def yX4_scoreAt : MethodName := ⟨RX4, "scoreAt", "(I)I"⟩
abbrev cX4_headAt : ByteArray := prog_6_method_11_code
def yX4_headAt : MethodName := ⟨RX4, "headAt", "(II)I"⟩
def RX5 : String := "ArcFactoredParser$TreeSums"
def TX5 : u_T := fun k => match k with
  | 0 => ("ArcFactoredParser$TreeSums", "settings", "LArcFactoredParser$Settings;", true)
  | 1 => ("ArcFactoredParser$TreeSums", "size", "I", false)
  | 2 => ("ArcFactoredParser$TreeSums", "potentials", "[[J", true)
  | 3 => ("ArcFactoredParser$TreeSums", "branches", "[[J", true)
  | 4 => ("ArcFactoredParser$TreeSums", "forests", "[[J", true)
  | 5 => ("ArcFactoredParser$TreeSums", "branchGains", "[[J", true)
  | 6 => ("ArcFactoredParser$TreeSums", "forestGains", "[[J", true)
  | _ => ("ArcFactoredParser$TreeSums", "arcGains", "[[J", true)
def tyX5 : Nat → FieldType := fun k => match k with
  | 0 => .object "ArcFactoredParser$Settings"
  | 1 => .int
  | 2 => .array (.array .long)
  | 3 => .array (.array .long)
  | 4 => .array (.array .long)
  | 5 => .array (.array .long)
  | 6 => .array (.array .long)
  | _ => .array (.array .long)
abbrev wsX50 : List Cond := u_ws RX5 TX5 8
theorem nmX5 : ∀ a, a < 8 → ∀ b, b < 8 → a ≠ b → (TX5 a).2.1 ≠ (TX5 b).2.1 := by decide +kernel
theorem tyX5_ok : ∀ k, k < 8 → parseFieldDescriptor (TX5 k).2.2.1 = some (tyX5 k) := by decide +kernel
abbrev cX5_init : ByteArray := prog_7_method_1_code
def yX5_init : MethodName := ⟨RX5, "<init>", "(LArcFactoredParser$Settings;)V"⟩
abbrev cX5_begin : ByteArray := prog_7_method_2_code
def yX5_begin : MethodName := ⟨RX5, "begin", "(I)V"⟩
abbrev cX5_setPotential : ByteArray := prog_7_method_3_code
def yX5_setPotential : MethodName := ⟨RX5, "setPotential", "(III)V"⟩
abbrev cX5_addUp : ByteArray := prog_7_method_4_code
def yX5_addUp : MethodName := ⟨RX5, "addUp", "()J"⟩
abbrev cX5_addBranches : ByteArray := prog_7_method_5_code
def yX5_addBranches : MethodName := ⟨RX5, "addBranches", "(II)J"⟩
abbrev cX5_addForests : ByteArray := prog_7_method_6_code
def yX5_addForests : MethodName := ⟨RX5, "addForests", "(II)J"⟩
abbrev cX5_spread : ByteArray := prog_7_method_7_code
def yX5_spread : MethodName := ⟨RX5, "spread", "()V"⟩
abbrev cX5_clearGains : ByteArray := prog_7_method_8_code
def yX5_clearGains : MethodName := ⟨RX5, "clearGains", "()V"⟩
abbrev cX5_spreadForest : ByteArray := prog_7_method_9_code
def yX5_spreadForest : MethodName := ⟨RX5, "spreadForest", "(II)V"⟩
abbrev cX5_spreadBranch : ByteArray := prog_7_method_10_code
def yX5_spreadBranch : MethodName := ⟨RX5, "spreadBranch", "(II)V"⟩
abbrev cX5_arcSum : ByteArray := prog_7_method_11_code
def yX5_arcSum : MethodName := ⟨RX5, "arcSum", "(II)J"⟩
abbrev cX5_mayBranch : ByteArray := prog_7_method_12_code
def yX5_mayBranch : MethodName := ⟨RX5, "mayBranch", "(I)Z"⟩
abbrev cX5_bit : ByteArray := prog_7_method_13_code
def yX5_bit : MethodName := ⟨RX5, "bit", "(I)I"⟩
abbrev cX5_hasNode : ByteArray := prog_7_method_14_code
def yX5_hasNode : MethodName := ⟨RX5, "hasNode", "(II)Z"⟩
def RX6 : String := "ArcFactoredParser$Weights"
def TX6 : u_T := fun k => match k with
  | 0 => ("ArcFactoredParser$Weights", "byTags", "[[I", true)
  | _ => ("ArcFactoredParser$Weights", "byDistance", "[[I", true)
def tyX6 : Nat → FieldType := fun k => match k with
  | 0 => .array (.array .int)
  | _ => .array (.array .int)
abbrev wsX60 : List Cond := u_ws RX6 TX6 2
theorem nmX6 : ∀ a, a < 2 → ∀ b, b < 2 → a ≠ b → (TX6 a).2.1 ≠ (TX6 b).2.1 := by decide +kernel
theorem tyX6_ok : ∀ k, k < 2 → parseFieldDescriptor (TX6 k).2.2.1 = some (tyX6 k) := by decide +kernel
abbrev cX6_init : ByteArray := prog_8_method_1_code
def yX6_init : MethodName := ⟨RX6, "<init>", "()V"⟩
abbrev cX6_ofArc : ByteArray := prog_8_method_2_code
def yX6_ofArc : MethodName := ⟨RX6, "ofArc", "(LArcFactoredParser$Sentence;II)I"⟩
abbrev cX6_nudge : ByteArray := prog_8_method_3_code
def yX6_nudge : MethodName := ⟨RX6, "nudge", "(LArcFactoredParser$Sentence;III)V"⟩
abbrev cX6_direction : ByteArray := prog_8_method_4_code
def yX6_direction : MethodName := ⟨RX6, "direction", "(II)I"⟩
abbrev cX6_clamp : ByteArray := prog_8_method_5_code
def yX6_clamp : MethodName := ⟨RX6, "clamp", "(I)I"⟩
abbrev cX6_copyFrom : ByteArray := prog_8_method_6_code
def yX6_copyFrom : MethodName := ⟨RX6, "copyFrom", "(LArcFactoredParser$Weights;)V"⟩
abbrev cX6_countNonZero : ByteArray := prog_8_method_7_code
def yX6_countNonZero : MethodName := ⟨RX6, "countNonZero", "()I"⟩
abbrev cX6_mixInto : ByteArray := prog_8_method_8_code
def yX6_mixInto : MethodName := ⟨RX6, "mixInto", "(J)J"⟩
def RX7 : String := "ArcFactoredParser"
def TX7 : u_T := fun k => match k with
  | 0 => ("ArcFactoredParser", "text", "LArcFactoredParser$Text;", true)
  | 1 => ("ArcFactoredParser", "stored", "[LArcFactoredParser$Sentence;", true)
  | 2 => ("ArcFactoredParser", "storedCount", "I", false)
  | 3 => ("ArcFactoredParser", "weights", "LArcFactoredParser$Weights;", true)
  | 4 => ("ArcFactoredParser", "slots", "[LArcFactoredParser$Weights;", true)
  | 5 => ("ArcFactoredParser", "slotUsed", "[Z", true)
  | 6 => ("ArcFactoredParser", "settings", "LArcFactoredParser$Settings;", true)
  | 7 => ("ArcFactoredParser", "search", "LArcFactoredParser$TreeSearch;", true)
  | 8 => ("ArcFactoredParser", "sums", "LArcFactoredParser$TreeSums;", true)
  | _ => ("ArcFactoredParser", "transitionRun", "LArcFactoredParser$TransitionRun;", true)
def tyX7 : Nat → FieldType := fun k => match k with
  | 0 => .object "ArcFactoredParser$Text"
  | 1 => .array (.object "ArcFactoredParser$Sentence")
  | 2 => .int
  | 3 => .object "ArcFactoredParser$Weights"
  | 4 => .array (.object "ArcFactoredParser$Weights")
  | 5 => .array .boolean
  | 6 => .object "ArcFactoredParser$Settings"
  | 7 => .object "ArcFactoredParser$TreeSearch"
  | 8 => .object "ArcFactoredParser$TreeSums"
  | _ => .object "ArcFactoredParser$TransitionRun"
abbrev wsX70 : List Cond := u_ws RX7 TX7 10
theorem nmX7 : ∀ a, a < 10 → ∀ b, b < 10 → a ≠ b → (TX7 a).2.1 ≠ (TX7 b).2.1 := by decide +kernel
theorem tyX7_ok : ∀ k, k < 10 → parseFieldDescriptor (TX7 k).2.2.1 = some (tyX7 k) := by decide +kernel
abbrev cX7_init : ByteArray := prog_1_method_1_code
def yX7_init : MethodName := ⟨RX7, "<init>", "()V"⟩
abbrev cX7_append : ByteArray := prog_1_method_2_code
def yX7_append : MethodName := ⟨RX7, "append", "(I)I"⟩
abbrev cX7_clearText : ByteArray := prog_1_method_3_code
def yX7_clearText : MethodName := ⟨RX7, "clearText", "()I"⟩
abbrev cX7_faultPosition : ByteArray := prog_1_method_4_code
def yX7_faultPosition : MethodName := ⟨RX7, "faultPosition", "()I"⟩
abbrev cX7_read : ByteArray := prog_1_method_5_code
def yX7_read : MethodName := ⟨RX7, "read", "()I"⟩
abbrev cX7_remove : ByteArray := prog_1_method_6_code
def yX7_remove : MethodName := ⟨RX7, "remove", "(I)I"⟩
abbrev cX7_sentences : ByteArray := prog_1_method_7_code
def yX7_sentences : MethodName := ⟨RX7, "sentences", "()I"⟩
abbrev cX7_words : ByteArray := prog_1_method_8_code
def yX7_words : MethodName := ⟨RX7, "words", "(I)I"⟩
abbrev cX7_tag : ByteArray := prog_1_method_9_code
def yX7_tag : MethodName := ⟨RX7, "tag", "(II)I"⟩
abbrev cX7_annotatedHead : ByteArray := prog_1_method_10_code
def yX7_annotatedHead : MethodName := ⟨RX7, "annotatedHead", "(II)I"⟩
abbrev cX7_annotate : ByteArray := prog_1_method_11_code
def yX7_annotate : MethodName := ⟨RX7, "annotate", "(III)I"⟩
abbrev cX7_acceptBest : ByteArray := prog_1_method_12_code
def yX7_acceptBest : MethodName := ⟨RX7, "acceptBest", "(I)I"⟩
abbrev cX7_setTagWeight : ByteArray := prog_1_method_13_code
def yX7_setTagWeight : MethodName := ⟨RX7, "setTagWeight", "(III)I"⟩
abbrev cX7_setDistanceWeight : ByteArray := prog_1_method_14_code
def yX7_setDistanceWeight : MethodName := ⟨RX7, "setDistanceWeight", "(III)I"⟩
abbrev cX7_setBias : ByteArray := prog_1_method_15_code
def yX7_setBias : MethodName := ⟨RX7, "setBias", "(IIII)I"⟩
abbrev cX7_constrain : ByteArray := prog_1_method_16_code
def yX7_constrain : MethodName := ⟨RX7, "constrain", "(IIII)I"⟩
abbrev cX7_setSingleRoot : ByteArray := prog_1_method_17_code
def yX7_setSingleRoot : MethodName := ⟨RX7, "setSingleRoot", "(Z)I"⟩
abbrev cX7_setProjective : ByteArray := prog_1_method_18_code
def yX7_setProjective : MethodName := ⟨RX7, "setProjective", "(Z)I"⟩
abbrev cX7_setShift : ByteArray := prog_1_method_19_code
def yX7_setShift : MethodName := ⟨RX7, "setShift", "(I)I"⟩
abbrev cX7_tagWeight : ByteArray := prog_1_method_20_code
def yX7_tagWeight : MethodName := ⟨RX7, "tagWeight", "(II)I"⟩
abbrev cX7_distanceWeight : ByteArray := prog_1_method_21_code
def yX7_distanceWeight : MethodName := ⟨RX7, "distanceWeight", "(II)I"⟩
abbrev cX7_score : ByteArray := prog_1_method_22_code
def yX7_score : MethodName := ⟨RX7, "score", "(III)I"⟩
abbrev cX7_bestScore : ByteArray := prog_1_method_23_code
def yX7_bestScore : MethodName := ⟨RX7, "bestScore", "(I)I"⟩
abbrev cX7_bestHead : ByteArray := prog_1_method_24_code
def yX7_bestHead : MethodName := ⟨RX7, "bestHead", "(II)I"⟩
abbrev cX7_rankedScore : ByteArray := prog_1_method_25_code
def yX7_rankedScore : MethodName := ⟨RX7, "rankedScore", "(II)I"⟩
abbrev cX7_rankedHead : ByteArray := prog_1_method_26_code
def yX7_rankedHead : MethodName := ⟨RX7, "rankedHead", "(III)I"⟩
abbrev cX7_regret : ByteArray := prog_1_method_27_code
def yX7_regret : MethodName := ⟨RX7, "regret", "(III)I"⟩
abbrev cX7_margin : ByteArray := prog_1_method_28_code
def yX7_margin : MethodName := ⟨RX7, "margin", "(I)I"⟩
abbrev cX7_correct : ByteArray := prog_1_method_29_code
def yX7_correct : MethodName := ⟨RX7, "correct", "(I)I"⟩
abbrev cX7_treeCount : ByteArray := prog_1_method_30_code
def yX7_treeCount : MethodName := ⟨RX7, "treeCount", "(I)I"⟩
abbrev cX7_weightSum : ByteArray := prog_1_method_31_code
def yX7_weightSum : MethodName := ⟨RX7, "weightSum", "(I)J"⟩
abbrev cX7_chance : ByteArray := prog_1_method_32_code
def yX7_chance : MethodName := ⟨RX7, "chance", "(IIIZ)J"⟩
abbrev cX7_riskHead : ByteArray := prog_1_method_33_code
def yX7_riskHead : MethodName := ⟨RX7, "riskHead", "(II)I"⟩
abbrev cX7_crossings : ByteArray := prog_1_method_34_code
def yX7_crossings : MethodName := ⟨RX7, "crossings", "(I)I"⟩
abbrev cX7_depth : ByteArray := prog_1_method_35_code
def yX7_depth : MethodName := ⟨RX7, "depth", "(II)I"⟩
abbrev cX7_projectiveOrder : ByteArray := prog_1_method_36_code
def yX7_projectiveOrder : MethodName := ⟨RX7, "projectiveOrder", "(II)I"⟩
abbrev cX7_transitions : ByteArray := prog_1_method_37_code
def yX7_transitions : MethodName := ⟨RX7, "transitions", "(I)I"⟩
abbrev cX7_transition : ByteArray := prog_1_method_38_code
def yX7_transition : MethodName := ⟨RX7, "transition", "(II)I"⟩
abbrev cX7_train : ByteArray := prog_1_method_39_code
def yX7_train : MethodName := ⟨RX7, "train", "(I)I"⟩
abbrev cX7_trainAll : ByteArray := prog_1_method_40_code
def yX7_trainAll : MethodName := ⟨RX7, "trainAll", "(I)I"⟩
abbrev cX7_save : ByteArray := prog_1_method_41_code
def yX7_save : MethodName := ⟨RX7, "save", "(I)I"⟩
abbrev cX7_restore : ByteArray := prog_1_method_42_code
def yX7_restore : MethodName := ⟨RX7, "restore", "(I)I"⟩
abbrev cX7_checksum : ByteArray := prog_1_method_43_code
def yX7_checksum : MethodName := ⟨RX7, "checksum", "()J"⟩
abbrev cX7_find : ByteArray := prog_1_method_44_code
def yX7_find : MethodName := ⟨RX7, "find", "(I)LArcFactoredParser$Sentence;"⟩
abbrev cX7_isWithin : ByteArray := prog_1_method_45_code
def yX7_isWithin : MethodName := ⟨RX7, "isWithin", "(II)Z"⟩
abbrev cX7_isTagPair : ByteArray := prog_1_method_46_code
def yX7_isTagPair : MethodName := ⟨RX7, "isTagPair", "(II)Z"⟩
abbrev cX7_isDistance : ByteArray := prog_1_method_47_code
def yX7_isDistance : MethodName := ⟨RX7, "isDistance", "(II)Z"⟩
abbrev cX7_arcScore : ByteArray := prog_1_method_48_code
def yX7_arcScore : MethodName := ⟨RX7, "arcScore", "(LArcFactoredParser$Sentence;II)I"⟩
abbrev cX7_annotationScore : ByteArray := prog_1_method_49_code
def yX7_annotationScore : MethodName := ⟨RX7, "annotationScore", "(LArcFactoredParser$Sentence;)I"⟩
abbrev cX7_rankTrees : ByteArray := prog_1_method_50_code
def yX7_rankTrees : MethodName := ⟨RX7, "rankTrees", "(LArcFactoredParser$Sentence;I)V"⟩
abbrev cX7_offerArcs : ByteArray := prog_1_method_51_code
def yX7_offerArcs : MethodName := ⟨RX7, "offerArcs", "(LArcFactoredParser$Sentence;Z)V"⟩
abbrev cX7_countAgreeing : ByteArray := prog_1_method_52_code
def yX7_countAgreeing : MethodName := ⟨RX7, "countAgreeing", "(LArcFactoredParser$Sentence;)I"⟩
abbrev cX7_countTrees : ByteArray := prog_1_method_53_code
def yX7_countTrees : MethodName := ⟨RX7, "countTrees", "(LArcFactoredParser$Sentence;)I"⟩
abbrev cX7_sumWeights : ByteArray := prog_1_method_54_code
def yX7_sumWeights : MethodName := ⟨RX7, "sumWeights", "(LArcFactoredParser$Sentence;)J"⟩
abbrev cX7_setPotentials : ByteArray := prog_1_method_55_code
def yX7_setPotentials : MethodName := ⟨RX7, "setPotentials", "(LArcFactoredParser$Sentence;Z)V"⟩
abbrev cX7_potential : ByteArray := prog_1_method_56_code
def yX7_potential : MethodName := ⟨RX7, "potential", "(LArcFactoredParser$Sentence;II)I"⟩
abbrev cX7_greatestCommonDivisor : ByteArray := prog_1_method_57_code
def yX7_greatestCommonDivisor : MethodName := ⟨RX7, "greatestCommonDivisor", "(JJ)J"⟩
abbrev cX7_countCrossings : ByteArray := prog_1_method_58_code
def yX7_countCrossings : MethodName := ⟨RX7, "countCrossings", "(LArcFactoredParser$Sentence;)I"⟩
abbrev cX7_countTransitions : ByteArray := prog_1_method_59_code
def yX7_countTransitions : MethodName := ⟨RX7, "countTransitions", "(LArcFactoredParser$Sentence;)I"⟩
abbrev cX7_learn : ByteArray := prog_1_method_60_code
def yX7_learn : MethodName := ⟨RX7, "learn", "(LArcFactoredParser$Sentence;)I"⟩
abbrev cX7_mix : ByteArray := prog_1_method_61_code
def yX7_mix : MethodName := ⟨RX7, "mix", "(JJ)J"⟩
abbrev cX7_mixSentence : ByteArray := prog_1_method_62_code
def yX7_mixSentence : MethodName := ⟨RX7, "mixSentence", "(JLArcFactoredParser$Sentence;)J"⟩
abbrev cX7_holds : ByteArray := prog_1_method_63_code
def yX7_holds : MethodName := ⟨RX7, "holds", "(II)Z"⟩
abbrev cX7_cross : ByteArray := prog_1_method_64_code
def yX7_cross : MethodName := ⟨RX7, "cross", "(IIII)Z"⟩
abbrev cX7_countStepsToRoot : ByteArray := prog_1_method_65_code
def yX7_countStepsToRoot : MethodName := ⟨RX7, "countStepsToRoot", "([III)I"⟩
abbrev cX7_formTree : ByteArray := prog_1_method_66_code
def yX7_formTree : MethodName := ⟨RX7, "formTree", "([II)Z"⟩
def RX8 : String := "ArcFactoredParserModel"
def TX8 : u_T := fun k => match k with
  | 0 => ("ArcFactoredParserModel", "text", "[I", true)
  | 1 => ("ArcFactoredParserModel", "length", "I", false)
  | 2 => ("ArcFactoredParserModel", "many", "I", false)
  | 3 => ("ArcFactoredParserModel", "words", "[I", true)
  | 4 => ("ArcFactoredParserModel", "tags", "[I", true)
  | 5 => ("ArcFactoredParserModel", "heads", "[I", true)
  | 6 => ("ArcFactoredParserModel", "biases", "[I", true)
  | 7 => ("ArcFactoredParserModel", "constraints", "[I", true)
  | 8 => ("ArcFactoredParserModel", "weights", "[I", true)
  | 9 => ("ArcFactoredParserModel", "kept", "[I", true)
  | 10 => ("ArcFactoredParserModel", "isKept", "[Z", true)
  | 11 => ("ArcFactoredParserModel", "isSingle", "Z", false)
  | 12 => ("ArcFactoredParserModel", "isProjective", "Z", false)
  | 13 => ("ArcFactoredParserModel", "shift", "I", false)
  | 14 => ("ArcFactoredParserModel", "told", "I", false)
  | 15 => ("ArcFactoredParserModel", "toldWords", "[I", true)
  | 16 => ("ArcFactoredParserModel", "begins", "[I", true)
  | 17 => ("ArcFactoredParserModel", "row", "[I", true)
  | 18 => ("ArcFactoredParserModel", "scores", "[I", true)
  | 19 => ("ArcFactoredParserModel", "potentials", "[I", true)
  | 20 => ("ArcFactoredParserModel", "tried", "[I", true)
  | 21 => ("ArcFactoredParserModel", "ranked", "I", false)
  | 22 => ("ArcFactoredParserModel", "rankScores", "[I", true)
  | 23 => ("ArcFactoredParserModel", "rankHeads", "[I", true)
  | 24 => ("ArcFactoredParserModel", "count", "I", false)
  | 25 => ("ArcFactoredParserModel", "weightAll", "J", false)
  | 26 => ("ArcFactoredParserModel", "arcBest", "[I", true)
  | 27 => ("ArcFactoredParserModel", "arcWeight", "[J", true)
  | 28 => ("ArcFactoredParserModel", "bestOther", "I", false)
  | 29 => ("ArcFactoredParserModel", "risk", "J", false)
  | 30 => ("ArcFactoredParserModel", "riskHeads", "[I", true)
  | 31 => ("ArcFactoredParserModel", "order", "[I", true)
  | 32 => ("ArcFactoredParserModel", "places", "[I", true)
  | 33 => ("ArcFactoredParserModel", "moves", "I", false)
  | 34 => ("ArcFactoredParserModel", "moved", "[I", true)
  | 35 => ("ArcFactoredParserModel", "stack", "[I", true)
  | 36 => ("ArcFactoredParserModel", "height", "I", false)
  | 37 => ("ArcFactoredParserModel", "buffer", "[I", true)
  | 38 => ("ArcFactoredParserModel", "left", "I", false)
  | _ => ("ArcFactoredParserModel", "attached", "I", false)
def tyX8 : Nat → FieldType := fun k => match k with
  | 0 => .array .int
  | 1 => .int
  | 2 => .int
  | 3 => .array .int
  | 4 => .array .int
  | 5 => .array .int
  | 6 => .array .int
  | 7 => .array .int
  | 8 => .array .int
  | 9 => .array .int
  | 10 => .array .boolean
  | 11 => .boolean
  | 12 => .boolean
  | 13 => .int
  | 14 => .int
  | 15 => .array .int
  | 16 => .array .int
  | 17 => .array .int
  | 18 => .array .int
  | 19 => .array .int
  | 20 => .array .int
  | 21 => .int
  | 22 => .array .int
  | 23 => .array .int
  | 24 => .int
  | 25 => .long
  | 26 => .array .int
  | 27 => .array .long
  | 28 => .int
  | 29 => .long
  | 30 => .array .int
  | 31 => .array .int
  | 32 => .array .int
  | 33 => .int
  | 34 => .array .int
  | 35 => .array .int
  | 36 => .int
  | 37 => .array .int
  | 38 => .int
  | _ => .int
abbrev wsX80 : List Cond := u_ws RX8 TX8 40
theorem nmX8 : ∀ a, a < 40 → ∀ b, b < 40 → a ≠ b → (TX8 a).2.1 ≠ (TX8 b).2.1 := by decide +kernel
theorem tyX8_ok : ∀ k, k < 40 → parseFieldDescriptor (TX8 k).2.2.1 = some (tyX8 k) := by decide +kernel
abbrev cX8_init : ByteArray := prog_10_method_1_code
def yX8_init : MethodName := ⟨RX8, "<init>", "()V"⟩
abbrev cX8_in : ByteArray := prog_10_method_3_code
def yX8_in : MethodName := ⟨RX8, "in", "(III)Z"⟩
abbrev cX8_isSentence : ByteArray := prog_10_method_4_code
def yX8_isSentence : MethodName := ⟨RX8, "isSentence", "(I)Z"⟩
abbrev cX8_isWord : ByteArray := prog_10_method_5_code
def yX8_isWord : MethodName := ⟨RX8, "isWord", "(II)Z"⟩
abbrev cX8_isArc : ByteArray := prog_10_method_6_code
def yX8_isArc : MethodName := ⟨RX8, "isArc", "(III)Z"⟩
abbrev cX8_word : ByteArray := prog_10_method_7_code
def yX8_word : MethodName := ⟨RX8, "word", "(II)I"⟩
abbrev cX8_arc : ByteArray := prog_10_method_8_code
def yX8_arc : MethodName := ⟨RX8, "arc", "(III)I"⟩
abbrev cX8_append : ByteArray := prog_10_method_9_code
def yX8_append : MethodName := ⟨RX8, "append", "(I)I"⟩
abbrev cX8_clearText : ByteArray := prog_10_method_10_code
def yX8_clearText : MethodName := ⟨RX8, "clearText", "()I"⟩
abbrev cX8_isTree : ByteArray := prog_10_method_11_code
def yX8_isTree : MethodName := ⟨RX8, "isTree", "([III)Z"⟩
abbrev cX8_faultOf : ByteArray := prog_10_method_12_code
def yX8_faultOf : MethodName := ⟨RX8, "faultOf", "()I"⟩
abbrev cX8_faultPosition : ByteArray := prog_10_method_13_code
def yX8_faultPosition : MethodName := ⟨RX8, "faultPosition", "()I"⟩
abbrev cX8_read : ByteArray := prog_10_method_14_code
def yX8_read : MethodName := ⟨RX8, "read", "()I"⟩
abbrev cX8_remove : ByteArray := prog_10_method_15_code
def yX8_remove : MethodName := ⟨RX8, "remove", "(I)I"⟩
abbrev cX8_sentences : ByteArray := prog_10_method_16_code
def yX8_sentences : MethodName := ⟨RX8, "sentences", "()I"⟩
abbrev cX8_words : ByteArray := prog_10_method_17_code
def yX8_words : MethodName := ⟨RX8, "words", "(I)I"⟩
abbrev cX8_tag : ByteArray := prog_10_method_18_code
def yX8_tag : MethodName := ⟨RX8, "tag", "(II)I"⟩
abbrev cX8_annotatedHead : ByteArray := prog_10_method_19_code
def yX8_annotatedHead : MethodName := ⟨RX8, "annotatedHead", "(II)I"⟩
abbrev cX8_annotate : ByteArray := prog_10_method_20_code
def yX8_annotate : MethodName := ⟨RX8, "annotate", "(III)I"⟩
abbrev cX8_tagPlace : ByteArray := prog_10_method_21_code
def yX8_tagPlace : MethodName := ⟨RX8, "tagPlace", "(II)I"⟩
abbrev cX8_distancePlace : ByteArray := prog_10_method_22_code
def yX8_distancePlace : MethodName := ⟨RX8, "distancePlace", "(II)I"⟩
abbrev cX8_areTags : ByteArray := prog_10_method_23_code
def yX8_areTags : MethodName := ⟨RX8, "areTags", "(II)Z"⟩
abbrev cX8_isDistance : ByteArray := prog_10_method_24_code
def yX8_isDistance : MethodName := ⟨RX8, "isDistance", "(II)Z"⟩
abbrev cX8_sets : ByteArray := prog_10_method_25_code
def yX8_sets : MethodName := ⟨RX8, "sets", "(II)I"⟩
abbrev cX8_setTagWeight : ByteArray := prog_10_method_26_code
def yX8_setTagWeight : MethodName := ⟨RX8, "setTagWeight", "(III)I"⟩
abbrev cX8_setDistanceWeight : ByteArray := prog_10_method_27_code
def yX8_setDistanceWeight : MethodName := ⟨RX8, "setDistanceWeight", "(III)I"⟩
abbrev cX8_tagWeight : ByteArray := prog_10_method_28_code
def yX8_tagWeight : MethodName := ⟨RX8, "tagWeight", "(II)I"⟩
abbrev cX8_distanceWeight : ByteArray := prog_10_method_29_code
def yX8_distanceWeight : MethodName := ⟨RX8, "distanceWeight", "(II)I"⟩
abbrev cX8_setBias : ByteArray := prog_10_method_30_code
def yX8_setBias : MethodName := ⟨RX8, "setBias", "(IIII)I"⟩
abbrev cX8_constrain : ByteArray := prog_10_method_31_code
def yX8_constrain : MethodName := ⟨RX8, "constrain", "(IIII)I"⟩
abbrev cX8_setSingleRoot : ByteArray := prog_10_method_32_code
def yX8_setSingleRoot : MethodName := ⟨RX8, "setSingleRoot", "(Z)I"⟩
abbrev cX8_setProjective : ByteArray := prog_10_method_33_code
def yX8_setProjective : MethodName := ⟨RX8, "setProjective", "(Z)I"⟩
abbrev cX8_setShift : ByteArray := prog_10_method_34_code
def yX8_setShift : MethodName := ⟨RX8, "setShift", "(I)I"⟩
abbrev cX8_tagOf : ByteArray := prog_10_method_35_code
def yX8_tagOf : MethodName := ⟨RX8, "tagOf", "(II)I"⟩
abbrev cX8_tagPlaceOf : ByteArray := prog_10_method_36_code
def yX8_tagPlaceOf : MethodName := ⟨RX8, "tagPlaceOf", "(III)I"⟩
abbrev cX8_distancePlaceOf : ByteArray := prog_10_method_37_code
def yX8_distancePlaceOf : MethodName := ⟨RX8, "distancePlaceOf", "(II)I"⟩
abbrev cX8_scoreOf : ByteArray := prog_10_method_38_code
def yX8_scoreOf : MethodName := ⟨RX8, "scoreOf", "(III)I"⟩
abbrev cX8_score : ByteArray := prog_10_method_39_code
def yX8_score : MethodName := ⟨RX8, "score", "(III)I"⟩
abbrev cX8_prepares : ByteArray := prog_10_method_40_code
def yX8_prepares : MethodName := ⟨RX8, "prepares", "(I)V"⟩
abbrev cX8_crosses : ByteArray := prog_10_method_41_code
def yX8_crosses : MethodName := ⟨RX8, "crosses", "(IIII)Z"⟩
abbrev cX8_crossed : ByteArray := prog_10_method_42_code
def yX8_crossed : MethodName := ⟨RX8, "crossed", "([III)I"⟩
abbrev cX8_isAdmissible : ByteArray := prog_10_method_43_code
def yX8_isAdmissible : MethodName := ⟨RX8, "isAdmissible", "(I)Z"⟩
abbrev cX8_sumOf : ByteArray := prog_10_method_44_code
def yX8_sumOf : MethodName := ⟨RX8, "sumOf", "(I)I"⟩
abbrev cX8_ranks : ByteArray := prog_10_method_45_code
def yX8_ranks : MethodName := ⟨RX8, "ranks", "(II)V"⟩
abbrev cX8_isAnnotation : ByteArray := prog_10_method_46_code
def yX8_isAnnotation : MethodName := ⟨RX8, "isAnnotation", "(I)Z"⟩
abbrev cX8_meets : ByteArray := prog_10_method_47_code
def yX8_meets : MethodName := ⟨RX8, "meets", "(I)V"⟩
abbrev cX8_risks : ByteArray := prog_10_method_48_code
def yX8_risks : MethodName := ⟨RX8, "risks", "(I)V"⟩
abbrev cX8_steps : ByteArray := prog_10_method_49_code
def yX8_steps : MethodName := ⟨RX8, "steps", "(I)Z"⟩
abbrev cX8_begins : ByteArray := prog_10_method_50_code
def yX8_begins : MethodName := ⟨RX8, "begins", "()V"⟩
abbrev cX8_looks : ByteArray := prog_10_method_51_code
def yX8_looks : MethodName := ⟨RX8, "looks", "(I)V"⟩
abbrev cX8_looksForRisk : ByteArray := prog_10_method_52_code
def yX8_looksForRisk : MethodName := ⟨RX8, "looksForRisk", "(I)V"⟩
abbrev cX8_bestScore : ByteArray := prog_10_method_53_code
def yX8_bestScore : MethodName := ⟨RX8, "bestScore", "(I)I"⟩
abbrev cX8_bestHead : ByteArray := prog_10_method_54_code
def yX8_bestHead : MethodName := ⟨RX8, "bestHead", "(II)I"⟩
abbrev cX8_rankedScore : ByteArray := prog_10_method_55_code
def yX8_rankedScore : MethodName := ⟨RX8, "rankedScore", "(II)I"⟩
abbrev cX8_rankedHead : ByteArray := prog_10_method_56_code
def yX8_rankedHead : MethodName := ⟨RX8, "rankedHead", "(III)I"⟩
abbrev cX8_regret : ByteArray := prog_10_method_57_code
def yX8_regret : MethodName := ⟨RX8, "regret", "(III)I"⟩
abbrev cX8_margin : ByteArray := prog_10_method_58_code
def yX8_margin : MethodName := ⟨RX8, "margin", "(I)I"⟩
abbrev cX8_right : ByteArray := prog_10_method_59_code
def yX8_right : MethodName := ⟨RX8, "right", "(I)I"⟩
abbrev cX8_correct : ByteArray := prog_10_method_60_code
def yX8_correct : MethodName := ⟨RX8, "correct", "(I)I"⟩
abbrev cX8_treeCount : ByteArray := prog_10_method_61_code
def yX8_treeCount : MethodName := ⟨RX8, "treeCount", "(I)I"⟩
abbrev cX8_acceptBest : ByteArray := prog_10_method_62_code
def yX8_acceptBest : MethodName := ⟨RX8, "acceptBest", "(I)I"⟩
abbrev cX8_weightSum : ByteArray := prog_10_method_63_code
def yX8_weightSum : MethodName := ⟨RX8, "weightSum", "(I)J"⟩
abbrev cX8_chance : ByteArray := prog_10_method_64_code
def yX8_chance : MethodName := ⟨RX8, "chance", "(IIIZ)J"⟩
abbrev cX8_riskHead : ByteArray := prog_10_method_65_code
def yX8_riskHead : MethodName := ⟨RX8, "riskHead", "(II)I"⟩
abbrev cX8_crossings : ByteArray := prog_10_method_66_code
def yX8_crossings : MethodName := ⟨RX8, "crossings", "(I)I"⟩
abbrev cX8_depth : ByteArray := prog_10_method_67_code
def yX8_depth : MethodName := ⟨RX8, "depth", "(II)I"⟩
abbrev cX8_inserts : ByteArray := prog_10_method_68_code
def yX8_inserts : MethodName := ⟨RX8, "inserts", "(III)V"⟩
abbrev cX8_placeOf : ByteArray := prog_10_method_69_code
def yX8_placeOf : MethodName := ⟨RX8, "placeOf", "(II)I"⟩
abbrev cX8_orders : ByteArray := prog_10_method_70_code
def yX8_orders : MethodName := ⟨RX8, "orders", "(I)V"⟩
abbrev cX8_projectiveOrder : ByteArray := prog_10_method_71_code
def yX8_projectiveOrder : MethodName := ⟨RX8, "projectiveOrder", "(II)I"⟩
abbrev cX8_isReady : ByteArray := prog_10_method_72_code
def yX8_isReady : MethodName := ⟨RX8, "isReady", "(II)Z"⟩
abbrev cX8_next : ByteArray := prog_10_method_73_code
def yX8_next : MethodName := ⟨RX8, "next", "(I)I"⟩
abbrev cX8_moves : ByteArray := prog_10_method_74_code
def yX8_moves : MethodName := ⟨RX8, "moves", "(I)V"⟩
abbrev cX8_transitions : ByteArray := prog_10_method_75_code
def yX8_transitions : MethodName := ⟨RX8, "transitions", "(I)I"⟩
abbrev cX8_transition : ByteArray := prog_10_method_76_code
def yX8_transition : MethodName := ⟨RX8, "transition", "(II)I"⟩
abbrev cX8_changes : ByteArray := prog_10_method_77_code
def yX8_changes : MethodName := ⟨RX8, "changes", "(II)V"⟩
abbrev cX8_trains : ByteArray := prog_10_method_78_code
def yX8_trains : MethodName := ⟨RX8, "trains", "(I)I"⟩
abbrev cX8_train : ByteArray := prog_10_method_79_code
def yX8_train : MethodName := ⟨RX8, "train", "(I)I"⟩
abbrev cX8_trainAll : ByteArray := prog_10_method_80_code
def yX8_trainAll : MethodName := ⟨RX8, "trainAll", "(I)I"⟩
abbrev cX8_used : ByteArray := prog_10_method_81_code
def yX8_used : MethodName := ⟨RX8, "used", "()I"⟩
abbrev cX8_save : ByteArray := prog_10_method_82_code
def yX8_save : MethodName := ⟨RX8, "save", "(I)I"⟩
abbrev cX8_restore : ByteArray := prog_10_method_83_code
def yX8_restore : MethodName := ⟨RX8, "restore", "(I)I"⟩
abbrev cX8_checksum : ByteArray := prog_10_method_84_code
def yX8_checksum : MethodName := ⟨RX8, "checksum", "()J"⟩
def RJ6 : String := "java/lang/Integer"
def TJ6 : u_T := fun k => match k with
  | _ => ("", "", "", false)
def tyJ6 : Nat → FieldType := fun k => match k with
  | _ => .int
abbrev wsJ60 : List Cond := u_ws RJ6 TJ6 0
theorem nmJ6 : ∀ a, a < 0 → ∀ b, b < 0 → a ≠ b → (TJ6 a).2.1 ≠ (TJ6 b).2.1 := by decide +kernel
theorem tyJ6_ok : ∀ k, k < 0 → parseFieldDescriptor (TJ6 k).2.2.1 = some (tyJ6 k) := by decide +kernel
abbrev cJ6_bitCount_0f7a4 : ByteArray := prog_11_method_49_code
def yJ6_bitCount_0f7a4 : MethodName := ⟨RJ6, "bitCount", "(I)I"⟩
def RJ9 : String := "java/lang/Math"
def TJ9 : u_T := fun k => match k with
  | _ => ("", "", "", false)
def tyJ9 : Nat → FieldType := fun k => match k with
  | _ => .int
abbrev wsJ90 : List Cond := u_ws RJ9 TJ9 0
theorem nmJ9 : ∀ a, a < 0 → ∀ b, b < 0 → a ≠ b → (TJ9 a).2.1 ≠ (TJ9 b).2.1 := by decide +kernel
theorem tyJ9_ok : ∀ k, k < 0 → parseFieldDescriptor (TJ9 k).2.2.1 = some (tyJ9 k) := by decide +kernel
abbrev cJ9_floorDiv_f86c9 : ByteArray := prog_12_method_49_code
def yJ9_floorDiv_f86c9 : MethodName := ⟨RJ9, "floorDiv", "(JJ)J"⟩
abbrev cJ9_floorMod_f86c9 : ByteArray := prog_12_method_52_code
def yJ9_floorMod_f86c9 : MethodName := ⟨RJ9, "floorMod", "(JJ)J"⟩
abbrev cJ9_abs_0f7a4 : ByteArray := prog_12_method_59_code
def yJ9_abs_0f7a4 : MethodName := ⟨RJ9, "abs", "(I)I"⟩
abbrev cJ9_max_7cf53 : ByteArray := prog_12_method_65_code
def yJ9_max_7cf53 : MethodName := ⟨RJ9, "max", "(II)I"⟩
abbrev cJ9_min_7cf53 : ByteArray := prog_12_method_69_code
def yJ9_min_7cf53 : MethodName := ⟨RJ9, "min", "(II)I"⟩
def RJ10 : String := "java/lang/System"
def TJ10 : u_T := fun k => match k with
  | _ => ("", "", "", false)
def tyJ10 : Nat → FieldType := fun k => match k with
  | _ => .int
abbrev wsJ100 : List Cond := u_ws RJ10 TJ10 0
theorem nmJ10 : ∀ a, a < 0 → ∀ b, b < 0 → a ≠ b → (TJ10 a).2.1 ≠ (TJ10 b).2.1 := by decide +kernel
theorem tyJ10_ok : ∀ k, k < 0 → parseFieldDescriptor (TJ10 k).2.2.1 = some (tyJ10 k) := by decide +kernel
def RL : String := "ArcFactoredParserLaw"
abbrev cL_law : ByteArray := code
def yL_law : MethodName := ⟨RL, "law", "([I)Z"⟩
abbrev vwCl : List vw_C := [(RX0, TX0, 5), (RX1, TX1, 3), (RX2, TX2, 3), (RX3, TX3, 12), (RX4, TX4, 10), (RX5, TX5, 8), (RX6, TX6, 2), (RX7, TX7, 10), (RX8, TX8, 40)]
/-- the words that every state on the way keeps -/
def gtbl : List Cond := lw_tbl.filter goodWord
theorem gt_mem {w : Cond} (i : Nat) (h : tables_1[i]? = some w) (hg : goodWord w = true) : w ∈ gtbl := List.mem_filter.mpr ⟨List.mem_append_right _ (List.mem_of_getElem? h), hg⟩
theorem gt_sel {w : Cond} (i : Nat) (h : (k2_sels lw_privs)[i]? = some w) (hg : goodWord w = true) : w ∈ gtbl := List.mem_filter.mpr ⟨List.mem_append_left _ (List.mem_of_getElem? h), hg⟩
set_option maxRecDepth 20000 in
theorem inX0_a : ∀ i, i < 5 → tables_1[([62, 64, 66, 68, 70] : List Nat).getD i 0]? = wsX00[i]? := by decide +kernel
set_option maxRecDepth 20000 in
theorem inX0_b : ∀ w ∈ wsX00, goodWord w = true := by decide +kernel
theorem inX0 : ∀ w ∈ wsX00, w ∈ gtbl := fun w h => by
  obtain ⟨i, hi⟩ := List.getElem?_of_mem h
  exact gt_mem (([62, 64, 66, 68, 70] : List Nat).getD i 0) ((inX0_a i (List.getElem?_eq_some_iff.mp hi).1).trans hi) (inX0_b w h)
set_option maxRecDepth 20000 in
theorem inX1_a : ∀ i, i < 3 → tables_1[([106, 108, 110] : List Nat).getD i 0]? = wsX10[i]? := by decide +kernel
set_option maxRecDepth 20000 in
theorem inX1_b : ∀ w ∈ wsX10, goodWord w = true := by decide +kernel
theorem inX1 : ∀ w ∈ wsX10, w ∈ gtbl := fun w h => by
  obtain ⟨i, hi⟩ := List.getElem?_of_mem h
  exact gt_mem (([106, 108, 110] : List Nat).getD i 0) ((inX1_a i (List.getElem?_eq_some_iff.mp hi).1).trans hi) (inX1_b w h)
set_option maxRecDepth 20000 in
theorem inX2_a : ∀ i, i < 3 → tables_1[([32, 34, 36] : List Nat).getD i 0]? = wsX20[i]? := by decide +kernel
set_option maxRecDepth 20000 in
theorem inX2_b : ∀ w ∈ wsX20, goodWord w = true := by decide +kernel
theorem inX2 : ∀ w ∈ wsX20, w ∈ gtbl := fun w h => by
  obtain ⟨i, hi⟩ := List.getElem?_of_mem h
  exact gt_mem (([32, 34, 36] : List Nat).getD i 0) ((inX2_a i (List.getElem?_eq_some_iff.mp hi).1).trans hi) (inX2_b w h)
set_option maxRecDepth 20000 in
theorem inX3_a : ∀ i, i < 12 → tables_1[([209, 211, 213, 215, 217, 219, 221, 223, 225, 227, 229, 231] : List Nat).getD i 0]? = wsX30[i]? := by decide +kernel
set_option maxRecDepth 20000 in
theorem inX3_b : ∀ w ∈ wsX30, goodWord w = true := by decide +kernel
theorem inX3 : ∀ w ∈ wsX30, w ∈ gtbl := fun w h => by
  obtain ⟨i, hi⟩ := List.getElem?_of_mem h
  exact gt_mem (([209, 211, 213, 215, 217, 219, 221, 223, 225, 227, 229, 231] : List Nat).getD i 0) ((inX3_a i (List.getElem?_eq_some_iff.mp hi).1).trans hi) (inX3_b w h)
set_option maxRecDepth 20000 in
theorem inX4_a : ∀ i, i < 10 → tables_1[([134, 136, 138, 140, 142, 144, 146, 148, 150, 152] : List Nat).getD i 0]? = wsX40[i]? := by decide +kernel
set_option maxRecDepth 20000 in
theorem inX4_b : ∀ w ∈ wsX40, goodWord w = true := by decide +kernel
theorem inX4 : ∀ w ∈ wsX40, w ∈ gtbl := fun w h => by
  obtain ⟨i, hi⟩ := List.getElem?_of_mem h
  exact gt_mem (([134, 136, 138, 140, 142, 144, 146, 148, 150, 152] : List Nat).getD i 0) ((inX4_a i (List.getElem?_eq_some_iff.mp hi).1).trans hi) (inX4_b w h)
set_option maxRecDepth 20000 in
theorem inX5_a : ∀ i, i < 8 → tables_1[([171, 173, 175, 177, 179, 181, 183, 185] : List Nat).getD i 0]? = wsX50[i]? := by decide +kernel
set_option maxRecDepth 20000 in
theorem inX5_b : ∀ w ∈ wsX50, goodWord w = true := by decide +kernel
theorem inX5 : ∀ w ∈ wsX50, w ∈ gtbl := fun w h => by
  obtain ⟨i, hi⟩ := List.getElem?_of_mem h
  exact gt_mem (([171, 173, 175, 177, 179, 181, 183, 185] : List Nat).getD i 0) ((inX5_a i (List.getElem?_eq_some_iff.mp hi).1).trans hi) (inX5_b w h)
set_option maxRecDepth 20000 in
theorem inX6_a : ∀ i, i < 2 → tables_1[([84, 86] : List Nat).getD i 0]? = wsX60[i]? := by decide +kernel
set_option maxRecDepth 20000 in
theorem inX6_b : ∀ w ∈ wsX60, goodWord w = true := by decide +kernel
theorem inX6 : ∀ w ∈ wsX60, w ∈ gtbl := fun w h => by
  obtain ⟨i, hi⟩ := List.getElem?_of_mem h
  exact gt_mem (([84, 86] : List Nat).getD i 0) ((inX6_a i (List.getElem?_eq_some_iff.mp hi).1).trans hi) (inX6_b w h)
set_option maxRecDepth 20000 in
theorem inX7_a : ∀ i, i < 10 → tables_1[([244, 246, 248, 250, 252, 254, 256, 258, 260, 262] : List Nat).getD i 0]? = wsX70[i]? := by decide +kernel
set_option maxRecDepth 20000 in
theorem inX7_b : ∀ w ∈ wsX70, goodWord w = true := by decide +kernel
theorem inX7 : ∀ w ∈ wsX70, w ∈ gtbl := fun w h => by
  obtain ⟨i, hi⟩ := List.getElem?_of_mem h
  exact gt_mem (([244, 246, 248, 250, 252, 254, 256, 258, 260, 262] : List Nat).getD i 0) ((inX7_a i (List.getElem?_eq_some_iff.mp hi).1).trans hi) (inX7_b w h)
set_option maxRecDepth 20000 in
theorem inX8_a : ∀ i, i < 40 → tables_1[([789, 791, 793, 795, 797, 799, 801, 803, 805, 807, 809, 811, 813, 815, 817, 819, 821, 823, 825, 827, 829, 831, 833, 835, 837, 839, 841, 843, 845, 847, 849, 851, 853, 855, 857, 859, 861, 863, 865, 867] : List Nat).getD i 0]? = wsX80[i]? := by decide +kernel
set_option maxRecDepth 20000 in
theorem inX8_b : ∀ w ∈ wsX80, goodWord w = true := by decide +kernel
theorem inX8 : ∀ w ∈ wsX80, w ∈ gtbl := fun w h => by
  obtain ⟨i, hi⟩ := List.getElem?_of_mem h
  exact gt_mem (([789, 791, 793, 795, 797, 799, 801, 803, 805, 807, 809, 811, 813, 815, 817, 819, 821, 823, 825, 827, 829, 831, 833, 835, 837, 839, 841, 843, 845, 847, 849, 851, 853, 855, 857, 859, 861, 863, 865, 867] : List Nat).getD i 0) ((inX8_a i (List.getElem?_eq_some_iff.mp hi).1).trans hi) (inX8_b w h)
end
section
abbrev DT : Type := List (Nat × Instr × Nat)
theorem dt_get {cc : ByteArray} {t : DT} (h : (t.all fun e => decide (decode cc e.1 = .ok e.2)) = true) (i : Nat) {pc : Nat} {q : Instr × Nat} (hi : t[i]? = some (pc, q)) : decode cc pc = .ok q := of_decide_eq_true (List.all_eq_true.mp h (pc, q) (List.mem_of_getElem? hi))
def dtX0_init_p0 : DT := [(0, .aload_n 0, 1), (1, .invokespecial 3, 3), (4, .aload_n 0, 1), (5, .iconst 0, 1), (6, .putfield 9, 3), (9, .aload_n 0, 1), (10, .bipush 7, 2), (12, .newarray .int, 2), (14, .putfield 15, 3), (17, .aload_n 0, 1), (18, .bipush 7, 2), (20, .newarray .int, 2), (22, .putfield 19, 3), (25, .aload_n 0, 1), (26, .bipush 7, 2), (28, .bipush 7, 2), (30, .multianewarray 22 2, 4), (34, .putfield 24, 3), (37, .aload_n 0, 1), (38, .bipush 7, 2), (40, .bipush 7, 2), (42, .multianewarray 22 2, 4), (46, .putfield 27, 3), (49, .aload_n 0, 1), (50, .getfield 15, 3), (53, .iconst 0, 1), (54, .bipush 8, 2), (56, .iastore, 1), (57, .return_, 1)]
set_option maxRecDepth 100000 in
theorem dX0_init_p0_ok : (dtX0_init_p0.all fun e => decide (decode cX0_init e.1 = .ok e.2)) = true := by decide +kernel
theorem dX0_init_p0 (i : Nat) {pc : Nat} {q : Instr × Nat} (hi : dtX0_init_p0[i]? = some (pc, q)) : decode cX0_init pc = .ok q := dt_get dX0_init_p0_ok i hi
def dtX0_blank_p0 : DT := [(0, .aload_n 0, 1), (1, .iconst 0, 1), (2, .putfield 9, 3), (5, .iconst 0, 1), (6, .istore_n 1, 1), (7, .iload_n 1, 1), (8, .bipush 7, 2), (10, .if_icmp .ge 41, 3), (13, .iconst 0, 1), (14, .istore_n 2, 1), (15, .iload_n 2, 1), (16, .bipush 7, 2), (18, .if_icmp .ge 27, 3), (21, .aload_n 0, 1), (22, .getfield 24, 3), (25, .iload_n 1, 1), (26, .aaload, 1), (27, .iload_n 2, 1), (28, .iconst 0, 1), (29, .iastore, 1), (30, .aload_n 0, 1), (31, .getfield 27, 3), (34, .iload_n 1, 1), (35, .aaload, 1), (36, .iload_n 2, 1), (37, .iconst 0, 1), (38, .iastore, 1), (39, .iinc 2 1, 3), (42, .goto (-27), 3), (45, .iinc 1 1, 3), (48, .goto (-41), 3), (51, .return_, 1)]
set_option maxRecDepth 100000 in
theorem dX0_blank_p0_ok : (dtX0_blank_p0.all fun e => decide (decode cX0_blank e.1 = .ok e.2)) = true := by decide +kernel
theorem dX0_blank_p0 (i : Nat) {pc : Nat} {q : Instr × Nat} (hi : dtX0_blank_p0[i]? = some (pc, q)) : decode cX0_blank pc = .ok q := dt_get dX0_blank_p0_ok i hi
def dtX0_addWord_p0 : DT := [(0, .aload_n 0, 1), (1, .getfield 9, 3), (4, .bipush 6, 2), (6, .if_icmp .ge 33, 3), (9, .aload_n 0, 1), (10, .dup, 1), (11, .getfield 9, 3), (14, .iconst 1, 1), (15, .iadd, 1), (16, .putfield 9, 3), (19, .aload_n 0, 1), (20, .getfield 15, 3), (23, .aload_n 0, 1), (24, .getfield 9, 3), (27, .iload_n 1, 1), (28, .iastore, 1), (29, .aload_n 0, 1), (30, .getfield 19, 3), (33, .aload_n 0, 1), (34, .getfield 9, 3), (37, .iload_n 2, 1), (38, .iastore, 1), (39, .return_, 1)]
set_option maxRecDepth 100000 in
theorem dX0_addWord_p0_ok : (dtX0_addWord_p0.all fun e => decide (decode cX0_addWord e.1 = .ok e.2)) = true := by decide +kernel
theorem dX0_addWord_p0 (i : Nat) {pc : Nat} {q : Instr × Nat} (hi : dtX0_addWord_p0[i]? = some (pc, q)) : decode cX0_addWord pc = .ok q := dt_get dX0_addWord_p0_ok i hi
def dtX0_hasWord_p0 : DT := [(0, .iload_n 1, 1), (1, .iconst 1, 1), (2, .if_icmp .lt 15, 3), (5, .iload_n 1, 1), (6, .aload_n 0, 1), (7, .getfield 9, 3), (10, .if_icmp .gt 7, 3), (13, .iconst 1, 1), (14, .goto 4, 3), (17, .iconst 0, 1), (18, .ireturn, 1)]
set_option maxRecDepth 100000 in
theorem dX0_hasWord_p0_ok : (dtX0_hasWord_p0.all fun e => decide (decode cX0_hasWord e.1 = .ok e.2)) = true := by decide +kernel
theorem dX0_hasWord_p0 (i : Nat) {pc : Nat} {q : Instr × Nat} (hi : dtX0_hasWord_p0[i]? = some (pc, q)) : decode cX0_hasWord pc = .ok q := dt_get dX0_hasWord_p0_ok i hi
def dtX0_hasArc_p0 : DT := [(0, .aload_n 0, 1), (1, .iload_n 2, 1), (2, .invokevirtual 30, 3), (5, .ifCond .eq 24, 3), (8, .iload_n 1, 1), (9, .ifCond .lt 20, 3), (12, .iload_n 1, 1), (13, .aload_n 0, 1), (14, .getfield 9, 3), (17, .if_icmp .gt 12, 3), (20, .iload_n 1, 1), (21, .iload_n 2, 1), (22, .if_icmp .eq 7, 3), (25, .iconst 1, 1), (26, .goto 4, 3), (29, .iconst 0, 1), (30, .ireturn, 1)]
set_option maxRecDepth 100000 in
theorem dX0_hasArc_p0_ok : (dtX0_hasArc_p0.all fun e => decide (decode cX0_hasArc e.1 = .ok e.2)) = true := by decide +kernel
theorem dX0_hasArc_p0 (i : Nat) {pc : Nat} {q : Instr × Nat} (hi : dtX0_hasArc_p0[i]? = some (pc, q)) : decode cX0_hasArc pc = .ok q := dt_get dX0_hasArc_p0_ok i hi
def dtX0_headChoices_p0 : DT := [(0, .iconst 0, 1), (1, .istore_n 2, 1), (2, .iconst 0, 1), (3, .istore_n 3, 1), (4, .iconst 0, 1), (5, .istore 4, 2), (7, .iload 4, 2), (9, .aload_n 0, 1), (10, .getfield 9, 3), (13, .if_icmp .gt 63, 3), (16, .iload 4, 2), (18, .iload_n 1, 1), (19, .if_icmp .eq 26, 3), (22, .aload_n 0, 1), (23, .getfield 27, 3), (26, .iload 4, 2), (28, .aaload, 1), (29, .iload_n 1, 1), (30, .iaload, 1), (31, .iconst 1, 1), (32, .if_icmp .ne 13, 3), (35, .iload_n 3, 1), (36, .iconst 1, 1), (37, .iload 4, 2), (39, .ishl, 1), (40, .ior, 1), (41, .istore_n 3, 1), (42, .goto 28, 3), (45, .iload 4, 2), (47, .iload_n 1, 1), (48, .if_icmp .eq 22, 3), (51, .aload_n 0, 1), (52, .getfield 27, 3), (55, .iload 4, 2), (57, .aaload, 1), (58, .iload_n 1, 1), (59, .iaload, 1), (60, .ifCond .ne 10, 3), (63, .iload_n 2, 1), (64, .iconst 1, 1), (65, .iload 4, 2), (67, .ishl, 1), (68, .ior, 1), (69, .istore_n 2, 1), (70, .iinc 4 1, 3), (73, .goto (-66), 3), (76, .iload_n 3, 1), (77, .ifCond .ne 5, 3), (80, .iload_n 2, 1), (81, .ireturn, 1), (82, .iload_n 3, 1), (83, .invokestatic 34, 3), (86, .iconst 1, 1), (87, .if_icmp .ne 7, 3), (90, .iload_n 3, 1), (91, .goto 4, 3), (94, .iconst 0, 1), (95, .ireturn, 1)]
set_option maxRecDepth 100000 in
theorem dX0_headChoices_p0_ok : (dtX0_headChoices_p0.all fun e => decide (decode cX0_headChoices e.1 = .ok e.2)) = true := by decide +kernel
theorem dX0_headChoices_p0 (i : Nat) {pc : Nat} {q : Instr × Nat} (hi : dtX0_headChoices_p0[i]? = some (pc, q)) : decode cX0_headChoices pc = .ok q := dt_get dX0_headChoices_p0_ok i hi
def dtX1_init_p0 : DT := [(0, .aload_n 0, 1), (1, .invokespecial 3, 3), (4, .aload_n 0, 1), (5, .iconst 0, 1), (6, .putfield 9, 3), (9, .aload_n 0, 1), (10, .iconst 0, 1), (11, .putfield 15, 3), (14, .aload_n 0, 1), (15, .bipush 10, 2), (17, .putfield 18, 3), (20, .return_, 1)]
set_option maxRecDepth 100000 in
theorem dX1_init_p0_ok : (dtX1_init_p0.all fun e => decide (decode cX1_init e.1 = .ok e.2)) = true := by decide +kernel
theorem dX1_init_p0 (i : Nat) {pc : Nat} {q : Instr × Nat} (hi : dtX1_init_p0[i]? = some (pc, q)) : decode cX1_init pc = .ok q := dt_get dX1_init_p0_ok i hi
def dtX2_init_p0 : DT := [(0, .aload_n 0, 1), (1, .invokespecial 3, 3), (4, .aload_n 0, 1), (5, .bipush 100, 2), (7, .newarray .int, 2), (9, .putfield 9, 3), (12, .aload_n 0, 1), (13, .iconst 0, 1), (14, .putfield 15, 3), (17, .aload_n 0, 1), (18, .bipush 7, 2), (20, .newarray .int, 2), (22, .putfield 19, 3), (25, .return_, 1)]
set_option maxRecDepth 100000 in
theorem dX2_init_p0_ok : (dtX2_init_p0.all fun e => decide (decode cX2_init e.1 = .ok e.2)) = true := by decide +kernel
theorem dX2_init_p0 (i : Nat) {pc : Nat} {q : Instr × Nat} (hi : dtX2_init_p0[i]? = some (pc, q)) : decode cX2_init pc = .ok q := dt_get dX2_init_p0_ok i hi
def dtX2_add_p0 : DT := [(0, .aload_n 0, 1), (1, .getfield 15, 3), (4, .bipush 100, 2), (6, .if_icmp .lt 5, 3), (9, .iconst 0, 1), (10, .ireturn, 1), (11, .aload_n 0, 1), (12, .getfield 9, 3), (15, .aload_n 0, 1), (16, .getfield 15, 3), (19, .iload_n 1, 1), (20, .iastore, 1), (21, .aload_n 0, 1), (22, .dup, 1), (23, .getfield 15, 3), (26, .iconst 1, 1), (27, .iadd, 1), (28, .putfield 15, 3), (31, .iconst 1, 1), (32, .ireturn, 1)]
set_option maxRecDepth 100000 in
theorem dX2_add_p0_ok : (dtX2_add_p0.all fun e => decide (decode cX2_add e.1 = .ok e.2)) = true := by decide +kernel
theorem dX2_add_p0 (i : Nat) {pc : Nat} {q : Instr × Nat} (hi : dtX2_add_p0[i]? = some (pc, q)) : decode cX2_add pc = .ok q := dt_get dX2_add_p0_ok i hi
def dtX2_findFault_p0 : DT := [(0, .iconst 0, 1), (1, .istore_n 1, 1), (2, .iconst 0, 1), (3, .istore_n 2, 1), (4, .iconst 0, 1), (5, .istore_n 3, 1), (6, .iload_n 3, 1), (7, .aload_n 0, 1), (8, .getfield 15, 3), (11, .if_icmp .ge 98, 3), (14, .aload_n 0, 1), (15, .getfield 9, 3), (18, .iload_n 3, 1), (19, .iaload, 1), (20, .istore 4, 2), (22, .iload_n 2, 1), (23, .ifCond .eq 30, 3), (26, .iload 4, 2), (28, .iload_n 1, 1), (29, .invokestatic 22, 3), (32, .ifCond .ne 5, 3), (35, .iload_n 3, 1), (36, .ireturn, 1), (37, .aload_n 0, 1), (38, .getfield 19, 3), (41, .iload_n 1, 1), (42, .iload 4, 2), (44, .bipush 48, 2), (46, .isub, 1), (47, .iastore, 1), (48, .iconst 0, 1), (49, .istore_n 2, 1), (50, .goto 53, 3), (53, .iload 4, 2), (55, .bipush 59, 2), (57, .if_icmp .ne 25, 3), (60, .iload_n 1, 1), (61, .ifCond .eq 14, 3), (64, .aload_n 0, 1), (65, .getfield 19, 3), (68, .iload_n 1, 1), (69, .invokestatic 26, 3), (72, .ifCond .ne 5, 3), (75, .iload_n 3, 1), (76, .ireturn, 1), (77, .iconst 0, 1), (78, .istore_n 1, 1), (79, .goto 24, 3), (82, .iload 4, 2), (84, .invokestatic 30, 3), (87, .ifCond .eq 9, 3), (90, .iload_n 1, 1), (91, .bipush 6, 2), (93, .if_icmp .lt 5, 3), (96, .iload_n 3, 1), (97, .ireturn, 1), (98, .iinc 1 1, 3), (101, .iconst 1, 1), (102, .istore_n 2, 1), (103, .iinc 3 1, 3), (106, .goto (-100), 3), (109, .aload_n 0, 1), (110, .getfield 15, 3), (113, .ifCond .eq 7, 3)]
set_option maxRecDepth 100000 in
theorem dX2_findFault_p0_ok : (dtX2_findFault_p0.all fun e => decide (decode cX2_findFault e.1 = .ok e.2)) = true := by decide +kernel
theorem dX2_findFault_p0 (i : Nat) {pc : Nat} {q : Instr × Nat} (hi : dtX2_findFault_p0[i]? = some (pc, q)) : decode cX2_findFault pc = .ok q := dt_get dX2_findFault_p0_ok i hi
def dtX2_findFault_p1 : DT := [(116, .iload_n 1, 1), (117, .ifCond .le 10, 3), (120, .aload_n 0, 1), (121, .getfield 15, 3), (124, .goto 5, 3), (127, .ldc 34, 2), (129, .ireturn, 1)]
set_option maxRecDepth 100000 in
theorem dX2_findFault_p1_ok : (dtX2_findFault_p1.all fun e => decide (decode cX2_findFault e.1 = .ok e.2)) = true := by decide +kernel
theorem dX2_findFault_p1 (i : Nat) {pc : Nat} {q : Instr × Nat} (hi : dtX2_findFault_p1[i]? = some (pc, q)) : decode cX2_findFault pc = .ok q := dt_get dX2_findFault_p1_ok i hi
def dtX2_isHeadOf_p0 : DT := [(0, .iload_n 0, 1), (1, .invokestatic 35, 3), (4, .ifCond .eq 15, 3), (7, .iload_n 0, 1), (8, .bipush 48, 2), (10, .isub, 1), (11, .iload_n 1, 1), (12, .if_icmp .eq 7, 3), (15, .iconst 1, 1), (16, .goto 4, 3), (19, .iconst 0, 1), (20, .ireturn, 1)]
set_option maxRecDepth 100000 in
theorem dX2_isHeadOf_p0_ok : (dtX2_isHeadOf_p0.all fun e => decide (decode cX2_isHeadOf e.1 = .ok e.2)) = true := by decide +kernel
theorem dX2_isHeadOf_p0 (i : Nat) {pc : Nat} {q : Instr × Nat} (hi : dtX2_isHeadOf_p0[i]? = some (pc, q)) : decode cX2_isHeadOf pc = .ok q := dt_get dX2_isHeadOf_p0_ok i hi
def dtX2_isDigit_p0 : DT := [(0, .iload_n 0, 1), (1, .bipush 48, 2), (3, .if_icmp .lt 13, 3), (6, .iload_n 0, 1), (7, .bipush 57, 2), (9, .if_icmp .gt 7, 3), (12, .iconst 1, 1), (13, .goto 4, 3), (16, .iconst 0, 1), (17, .ireturn, 1)]
set_option maxRecDepth 100000 in
theorem dX2_isDigit_p0_ok : (dtX2_isDigit_p0.all fun e => decide (decode cX2_isDigit e.1 = .ok e.2)) = true := by decide +kernel
theorem dX2_isDigit_p0 (i : Nat) {pc : Nat} {q : Instr × Nat} (hi : dtX2_isDigit_p0[i]? = some (pc, q)) : decode cX2_isDigit pc = .ok q := dt_get dX2_isDigit_p0_ok i hi
def dtX2_isTagLetter_p0 : DT := [(0, .iload_n 0, 1), (1, .bipush 65, 2), (3, .if_icmp .lt 13, 3), (6, .iload_n 0, 1), (7, .bipush 73, 2), (9, .if_icmp .ge 7, 3), (12, .iconst 1, 1), (13, .goto 4, 3), (16, .iconst 0, 1), (17, .ireturn, 1)]
set_option maxRecDepth 100000 in
theorem dX2_isTagLetter_p0_ok : (dtX2_isTagLetter_p0.all fun e => decide (decode cX2_isTagLetter e.1 = .ok e.2)) = true := by decide +kernel
theorem dX2_isTagLetter_p0 (i : Nat) {pc : Nat} {q : Instr × Nat} (hi : dtX2_isTagLetter_p0[i]? = some (pc, q)) : decode cX2_isTagLetter pc = .ok q := dt_get dX2_isTagLetter_p0_ok i hi
def dtX2_countSentences_p0 : DT := [(0, .iconst 0, 1), (1, .istore_n 1, 1), (2, .iconst 0, 1), (3, .istore_n 2, 1), (4, .iload_n 2, 1), (5, .aload_n 0, 1), (6, .getfield 15, 3), (9, .if_icmp .ge 23, 3), (12, .aload_n 0, 1), (13, .getfield 9, 3), (16, .iload_n 2, 1), (17, .iaload, 1), (18, .bipush 59, 2), (20, .if_icmp .ne 6, 3), (23, .iinc 1 1, 3), (26, .iinc 2 1, 3), (29, .goto (-25), 3), (32, .iload_n 1, 1), (33, .ireturn, 1)]
set_option maxRecDepth 100000 in
theorem dX2_countSentences_p0_ok : (dtX2_countSentences_p0.all fun e => decide (decode cX2_countSentences e.1 = .ok e.2)) = true := by decide +kernel
theorem dX2_countSentences_p0 (i : Nat) {pc : Nat} {q : Instr × Nat} (hi : dtX2_countSentences_p0[i]? = some (pc, q)) : decode cX2_countSentences pc = .ok q := dt_get dX2_countSentences_p0_ok i hi
def dtX3_init_p0 : DT := [(0, .aload_n 0, 1), (1, .invokespecial 3, 3), (4, .aload_n 0, 1), (5, .iconst 0, 1), (6, .putfield 9, 3), (9, .aload_n 0, 1), (10, .bipush 7, 2), (12, .newarray .int, 2), (14, .putfield 15, 3), (17, .aload_n 0, 1), (18, .bipush 7, 2), (20, .newarray .int, 2), (22, .putfield 19, 3), (25, .aload_n 0, 1), (26, .iconst 0, 1), (27, .putfield 22, 3), (30, .aload_n 0, 1), (31, .bipush 7, 2), (33, .newarray .int, 2), (35, .putfield 25, 3), (38, .aload_n 0, 1), (39, .bipush 64, 2), (41, .newarray .int, 2), (43, .putfield 28, 3), (46, .aload_n 0, 1), (47, .iconst 0, 1), (48, .putfield 31, 3), (51, .aload_n 0, 1), (52, .bipush 7, 2), (54, .newarray .int, 2), (56, .putfield 34, 3), (59, .aload_n 0, 1), (60, .iconst 0, 1), (61, .putfield 37, 3), (64, .aload_n 0, 1), (65, .bipush 7, 2), (67, .newarray .int, 2), (69, .putfield 40, 3), (72, .aload_n 0, 1), (73, .iconst 0, 1), (74, .putfield 43, 3), (77, .aload_n 0, 1), (78, .bipush 7, 2), (80, .newarray .boolean, 2), (82, .putfield 46, 3), (85, .return_, 1)]
set_option maxRecDepth 100000 in
theorem dX3_init_p0_ok : (dtX3_init_p0.all fun e => decide (decode cX3_init e.1 = .ok e.2)) = true := by decide +kernel
theorem dX3_init_p0 (i : Nat) {pc : Nat} {q : Instr × Nat} (hi : dtX3_init_p0[i]? = some (pc, q)) : decode cX3_init pc = .ok q := dt_get dX3_init_p0_ok i hi
def dtX3_arrange_p0 : DT := [(0, .aload_n 0, 1), (1, .aload_n 1, 1), (2, .getfield 50, 3), (5, .putfield 9, 3), (8, .aload_n 1, 1), (9, .getfield 53, 3), (12, .iconst 0, 1), (13, .aload_n 0, 1), (14, .getfield 15, 3), (17, .iconst 0, 1), (18, .bipush 7, 2), (20, .invokestatic 54, 3), (23, .aload_n 0, 1), (24, .iconst 0, 1), (25, .putfield 22, 3), (28, .aload_n 0, 1), (29, .iconst 0, 1), (30, .iconst 0, 1), (31, .invokevirtual 60, 3), (34, .return_, 1)]
set_option maxRecDepth 100000 in
theorem dX3_arrange_p0_ok : (dtX3_arrange_p0.all fun e => decide (decode cX3_arrange e.1 = .ok e.2)) = true := by decide +kernel
theorem dX3_arrange_p0 (i : Nat) {pc : Nat} {q : Instr × Nat} (hi : dtX3_arrange_p0[i]? = some (pc, q)) : decode cX3_arrange pc = .ok q := dt_get dX3_arrange_p0_ok i hi
def dtX3_visit_p0 : DT := [(0, .iload_n 2, 1), (1, .aload_n 0, 1), (2, .getfield 9, 3), (5, .if_icmp .le 4, 3), (8, .return_, 1), (9, .iconst 1, 1), (10, .istore_n 3, 1), (11, .iload_n 3, 1), (12, .iload_n 1, 1), (13, .if_icmp .ge 27, 3), (16, .aload_n 0, 1), (17, .getfield 15, 3), (20, .iload_n 3, 1), (21, .iaload, 1), (22, .iload_n 1, 1), (23, .if_icmp .ne 11, 3), (26, .aload_n 0, 1), (27, .iload_n 3, 1), (28, .iload_n 2, 1), (29, .iconst 1, 1), (30, .iadd, 1), (31, .invokevirtual 60, 3), (34, .iinc 3 1, 3), (37, .goto (-26), 3), (40, .aload_n 0, 1), (41, .getfield 22, 3), (44, .bipush 7, 2), (46, .if_icmp .ge 33, 3), (49, .aload_n 0, 1), (50, .getfield 19, 3), (53, .aload_n 0, 1), (54, .getfield 22, 3), (57, .iload_n 1, 1), (58, .iastore, 1), (59, .aload_n 0, 1), (60, .getfield 25, 3), (63, .iload_n 1, 1), (64, .aload_n 0, 1), (65, .getfield 22, 3), (68, .iastore, 1), (69, .aload_n 0, 1), (70, .dup, 1), (71, .getfield 22, 3), (74, .iconst 1, 1), (75, .iadd, 1), (76, .putfield 22, 3), (79, .iload_n 1, 1), (80, .iconst 1, 1), (81, .iadd, 1), (82, .istore_n 3, 1), (83, .iload_n 3, 1), (84, .aload_n 0, 1), (85, .getfield 9, 3), (88, .if_icmp .gt 27, 3), (91, .aload_n 0, 1), (92, .getfield 15, 3), (95, .iload_n 3, 1), (96, .iaload, 1), (97, .iload_n 1, 1), (98, .if_icmp .ne 11, 3), (101, .aload_n 0, 1), (102, .iload_n 3, 1), (103, .iload_n 2, 1), (104, .iconst 1, 1)]
set_option maxRecDepth 100000 in
theorem dX3_visit_p0_ok : (dtX3_visit_p0.all fun e => decide (decode cX3_visit e.1 = .ok e.2)) = true := by decide +kernel
theorem dX3_visit_p0 (i : Nat) {pc : Nat} {q : Instr × Nat} (hi : dtX3_visit_p0[i]? = some (pc, q)) : decode cX3_visit pc = .ok q := dt_get dX3_visit_p0_ok i hi
def dtX3_visit_p1 : DT := [(105, .iadd, 1), (106, .invokevirtual 60, 3), (109, .iinc 3 1, 3), (112, .goto (-29), 3), (115, .return_, 1)]
set_option maxRecDepth 100000 in
theorem dX3_visit_p1_ok : (dtX3_visit_p1.all fun e => decide (decode cX3_visit e.1 = .ok e.2)) = true := by decide +kernel
theorem dX3_visit_p1 (i : Nat) {pc : Nat} {q : Instr × Nat} (hi : dtX3_visit_p1[i]? = some (pc, q)) : decode cX3_visit pc = .ok q := dt_get dX3_visit_p1_ok i hi
def dtX3_perform_p0 : DT := [(0, .aload_n 0, 1), (1, .iconst 0, 1), (2, .putfield 31, 3), (5, .aload_n 0, 1), (6, .getfield 34, 3), (9, .iconst 0, 1), (10, .iconst 0, 1), (11, .iastore, 1), (12, .aload_n 0, 1), (13, .iconst 1, 1), (14, .putfield 37, 3), (17, .aload_n 0, 1), (18, .iconst 0, 1), (19, .putfield 43, 3), (22, .aload_n 0, 1), (23, .getfield 9, 3), (26, .istore_n 1, 1), (27, .iload_n 1, 1), (28, .iconst 1, 1), (29, .if_icmp .lt 36, 3), (32, .aload_n 0, 1), (33, .getfield 46, 3), (36, .iload_n 1, 1), (37, .iconst 0, 1), (38, .bastore, 1), (39, .aload_n 0, 1), (40, .getfield 40, 3), (43, .aload_n 0, 1), (44, .getfield 43, 3), (47, .iload_n 1, 1), (48, .iastore, 1), (49, .aload_n 0, 1), (50, .dup, 1), (51, .getfield 43, 3), (54, .iconst 1, 1), (55, .iadd, 1), (56, .putfield 43, 3), (59, .iinc 1 (-1), 3), (62, .goto (-35), 3), (65, .iconst 0, 1), (66, .istore_n 1, 1), (67, .iload_n 1, 1), (68, .bipush 64, 2), (70, .if_icmp .ge 39, 3), (73, .aload_n 0, 1), (74, .invokevirtual 64, 3), (77, .istore_n 2, 1), (78, .iload_n 2, 1), (79, .iconst 4, 1), (80, .if_icmp .ne 4, 3), (83, .return_, 1), (84, .aload_n 0, 1), (85, .getfield 28, 3), (88, .iload_n 1, 1), (89, .iload_n 2, 1), (90, .iastore, 1), (91, .aload_n 0, 1), (92, .iload_n 1, 1), (93, .iconst 1, 1), (94, .iadd, 1), (95, .putfield 31, 3), (98, .aload_n 0, 1), (99, .iload_n 2, 1), (100, .invokevirtual 68, 3)]
set_option maxRecDepth 100000 in
theorem dX3_perform_p0_ok : (dtX3_perform_p0.all fun e => decide (decode cX3_perform e.1 = .ok e.2)) = true := by decide +kernel
theorem dX3_perform_p0 (i : Nat) {pc : Nat} {q : Instr × Nat} (hi : dtX3_perform_p0[i]? = some (pc, q)) : decode cX3_perform pc = .ok q := dt_get dX3_perform_p0_ok i hi
def dtX3_perform_p1 : DT := [(103, .iinc 1 1, 3), (106, .goto (-39), 3), (109, .return_, 1)]
set_option maxRecDepth 100000 in
theorem dX3_perform_p1_ok : (dtX3_perform_p1.all fun e => decide (decode cX3_perform e.1 = .ok e.2)) = true := by decide +kernel
theorem dX3_perform_p1 (i : Nat) {pc : Nat} {q : Instr × Nat} (hi : dtX3_perform_p1[i]? = some (pc, q)) : decode cX3_perform pc = .ok q := dt_get dX3_perform_p1_ok i hi
def dtX3_choose_p0 : DT := [(0, .aload_n 0, 1), (1, .getfield 37, 3), (4, .iconst 2, 1), (5, .if_icmp .lt 97, 3), (8, .aload_n 0, 1), (9, .getfield 34, 3), (12, .aload_n 0, 1), (13, .getfield 37, 3), (16, .iconst 1, 1), (17, .isub, 1), (18, .iaload, 1), (19, .istore_n 1, 1), (20, .aload_n 0, 1), (21, .getfield 34, 3), (24, .aload_n 0, 1), (25, .getfield 37, 3), (28, .iconst 2, 1), (29, .isub, 1), (30, .iaload, 1), (31, .istore_n 2, 1), (32, .iload_n 2, 1), (33, .ifCond .eq 23, 3), (36, .aload_n 0, 1), (37, .getfield 15, 3), (40, .iload_n 2, 1), (41, .iaload, 1), (42, .iload_n 1, 1), (43, .if_icmp .ne 13, 3), (46, .aload_n 0, 1), (47, .iload_n 2, 1), (48, .invokevirtual 72, 3), (51, .ifCond .eq 5, 3), (54, .iconst 1, 1), (55, .ireturn, 1), (56, .aload_n 0, 1), (57, .getfield 15, 3), (60, .iload_n 1, 1), (61, .iaload, 1), (62, .iload_n 2, 1), (63, .if_icmp .ne 13, 3), (66, .aload_n 0, 1), (67, .iload_n 1, 1), (68, .invokevirtual 72, 3), (71, .ifCond .eq 5, 3), (74, .iconst 2, 1), (75, .ireturn, 1), (76, .iload_n 2, 1), (77, .ifCond .eq 25, 3), (80, .iload_n 2, 1), (81, .iload_n 1, 1), (82, .if_icmp .ge 20, 3), (85, .aload_n 0, 1), (86, .getfield 25, 3), (89, .iload_n 2, 1), (90, .iaload, 1), (91, .aload_n 0, 1), (92, .getfield 25, 3), (95, .iload_n 1, 1), (96, .iaload, 1), (97, .if_icmp .le 5, 3), (100, .iconst 3, 1), (101, .ireturn, 1), (102, .aload_n 0, 1), (103, .getfield 43, 3)]
set_option maxRecDepth 100000 in
theorem dX3_choose_p0_ok : (dtX3_choose_p0.all fun e => decide (decode cX3_choose e.1 = .ok e.2)) = true := by decide +kernel
theorem dX3_choose_p0 (i : Nat) {pc : Nat} {q : Instr × Nat} (hi : dtX3_choose_p0[i]? = some (pc, q)) : decode cX3_choose pc = .ok q := dt_get dX3_choose_p0_ok i hi
def dtX3_choose_p1 : DT := [(106, .ifCond .le 7, 3), (109, .iconst 0, 1), (110, .goto 4, 3), (113, .iconst 4, 1), (114, .ireturn, 1)]
set_option maxRecDepth 100000 in
theorem dX3_choose_p1_ok : (dtX3_choose_p1.all fun e => decide (decode cX3_choose e.1 = .ok e.2)) = true := by decide +kernel
theorem dX3_choose_p1 (i : Nat) {pc : Nat} {q : Instr × Nat} (hi : dtX3_choose_p1[i]? = some (pc, q)) : decode cX3_choose pc = .ok q := dt_get dX3_choose_p1_ok i hi
def dtX3_isComplete_p0 : DT := [(0, .iconst 1, 1), (1, .istore_n 2, 1), (2, .iload_n 2, 1), (3, .aload_n 0, 1), (4, .getfield 9, 3), (7, .if_icmp .gt 30, 3), (10, .aload_n 0, 1), (11, .getfield 15, 3), (14, .iload_n 2, 1), (15, .iaload, 1), (16, .iload_n 1, 1), (17, .if_icmp .ne 14, 3), (20, .aload_n 0, 1), (21, .getfield 46, 3), (24, .iload_n 2, 1), (25, .baload, 1), (26, .ifCond .ne 5, 3), (29, .iconst 0, 1), (30, .ireturn, 1), (31, .iinc 2 1, 3), (34, .goto (-32), 3), (37, .iconst 1, 1), (38, .ireturn, 1)]
set_option maxRecDepth 100000 in
theorem dX3_isComplete_p0_ok : (dtX3_isComplete_p0.all fun e => decide (decode cX3_isComplete e.1 = .ok e.2)) = true := by decide +kernel
theorem dX3_isComplete_p0 (i : Nat) {pc : Nat} {q : Instr × Nat} (hi : dtX3_isComplete_p0[i]? = some (pc, q)) : decode cX3_isComplete pc = .ok q := dt_get dX3_isComplete_p0_ok i hi
def dtX3_apply_p0 : DT := [(0, .iload_n 1, 1), (1, .ifCond .ne 42, 3), (4, .aload_n 0, 1), (5, .dup, 1), (6, .getfield 43, 3), (9, .iconst 1, 1), (10, .isub, 1), (11, .putfield 43, 3), (14, .aload_n 0, 1), (15, .getfield 34, 3), (18, .aload_n 0, 1), (19, .getfield 37, 3), (22, .aload_n 0, 1), (23, .getfield 40, 3), (26, .aload_n 0, 1), (27, .getfield 43, 3), (30, .iaload, 1), (31, .iastore, 1), (32, .aload_n 0, 1), (33, .dup, 1), (34, .getfield 37, 3), (37, .iconst 1, 1), (38, .iadd, 1), (39, .putfield 37, 3), (42, .return_, 1), (43, .aload_n 0, 1), (44, .getfield 34, 3), (47, .aload_n 0, 1), (48, .getfield 37, 3), (51, .iconst 1, 1), (52, .isub, 1), (53, .iaload, 1), (54, .istore_n 2, 1), (55, .aload_n 0, 1), (56, .getfield 34, 3), (59, .aload_n 0, 1), (60, .getfield 37, 3), (63, .iconst 2, 1), (64, .isub, 1), (65, .iaload, 1), (66, .istore_n 3, 1), (67, .aload_n 0, 1), (68, .dup, 1), (69, .getfield 37, 3), (72, .iconst 1, 1), (73, .isub, 1), (74, .putfield 37, 3), (77, .iload_n 1, 1), (78, .iconst 2, 1), (79, .if_icmp .ne 11, 3), (82, .aload_n 0, 1), (83, .getfield 46, 3), (86, .iload_n 2, 1), (87, .iconst 1, 1), (88, .bastore, 1), (89, .return_, 1), (90, .aload_n 0, 1), (91, .getfield 34, 3), (94, .aload_n 0, 1), (95, .getfield 37, 3), (98, .iconst 1, 1), (99, .isub, 1), (100, .iload_n 2, 1), (101, .iastore, 1)]
set_option maxRecDepth 100000 in
theorem dX3_apply_p0_ok : (dtX3_apply_p0.all fun e => decide (decode cX3_apply e.1 = .ok e.2)) = true := by decide +kernel
theorem dX3_apply_p0 (i : Nat) {pc : Nat} {q : Instr × Nat} (hi : dtX3_apply_p0[i]? = some (pc, q)) : decode cX3_apply pc = .ok q := dt_get dX3_apply_p0_ok i hi
def dtX3_apply_p1 : DT := [(102, .iload_n 1, 1), (103, .iconst 1, 1), (104, .if_icmp .ne 13, 3), (107, .aload_n 0, 1), (108, .getfield 46, 3), (111, .iload_n 3, 1), (112, .iconst 1, 1), (113, .bastore, 1), (114, .goto 23, 3), (117, .aload_n 0, 1), (118, .getfield 40, 3), (121, .aload_n 0, 1), (122, .getfield 43, 3), (125, .iload_n 3, 1), (126, .iastore, 1), (127, .aload_n 0, 1), (128, .dup, 1), (129, .getfield 43, 3), (132, .iconst 1, 1), (133, .iadd, 1), (134, .putfield 43, 3), (137, .return_, 1)]
set_option maxRecDepth 100000 in
theorem dX3_apply_p1_ok : (dtX3_apply_p1.all fun e => decide (decode cX3_apply e.1 = .ok e.2)) = true := by decide +kernel
theorem dX3_apply_p1 (i : Nat) {pc : Nat} {q : Instr × Nat} (hi : dtX3_apply_p1[i]? = some (pc, q)) : decode cX3_apply pc = .ok q := dt_get dX3_apply_p1_ok i hi
def dtX4_init_p0 : DT := [(0, .aload_n 0, 1), (1, .invokespecial 3, 3), (4, .aload_n 0, 1), (5, .iconst 0, 1), (6, .putfield 9, 3), (9, .aload_n 0, 1), (10, .bipush 7, 2), (12, .bipush 7, 2), (14, .multianewarray 15 2, 4), (18, .putfield 17, 3), (21, .aload_n 0, 1), (22, .bipush 7, 2), (24, .bipush 7, 2), (26, .multianewarray 20 2, 4), (30, .putfield 22, 3), (33, .aload_n 0, 1), (34, .bipush 7, 2), (36, .newarray .int, 2), (38, .putfield 25, 3), (41, .aload_n 0, 1), (42, .bipush 8, 2), (44, .newarray .long, 2), (46, .putfield 29, 3), (49, .aload_n 0, 1), (50, .bipush 7, 2), (52, .newarray .int, 2), (54, .putfield 33, 3), (57, .aload_n 0, 1), (58, .bipush 6, 2), (60, .newarray .long, 2), (62, .putfield 36, 3), (65, .aload_n 0, 1), (66, .iconst 0, 1), (67, .putfield 39, 3), (70, .aload_n 0, 1), (71, .iconst 0, 1), (72, .putfield 42, 3), (75, .aload_n 0, 1), (76, .aload_n 1, 1), (77, .putfield 45, 3), (80, .return_, 1)]
set_option maxRecDepth 100000 in
theorem dX4_init_p0_ok : (dtX4_init_p0.all fun e => decide (decode cX4_init e.1 = .ok e.2)) = true := by decide +kernel
theorem dX4_init_p0 (i : Nat) {pc : Nat} {q : Instr × Nat} (hi : dtX4_init_p0[i]? = some (pc, q)) : decode cX4_init pc = .ok q := dt_get dX4_init_p0_ok i hi
def dtX4_begin_p0 : DT := [(0, .aload_n 0, 1), (1, .iload_n 1, 1), (2, .putfield 9, 3), (5, .iconst 0, 1), (6, .istore_n 2, 1), (7, .iload_n 2, 1), (8, .bipush 7, 2), (10, .if_icmp .ge 16, 3), (13, .aload_n 0, 1), (14, .getfield 25, 3), (17, .iload_n 2, 1), (18, .iconst 0, 1), (19, .iastore, 1), (20, .iinc 2 1, 3), (23, .goto (-16), 3), (26, .return_, 1)]
set_option maxRecDepth 100000 in
theorem dX4_begin_p0_ok : (dtX4_begin_p0.all fun e => decide (decode cX4_begin e.1 = .ok e.2)) = true := by decide +kernel
theorem dX4_begin_p0 (i : Nat) {pc : Nat} {q : Instr × Nat} (hi : dtX4_begin_p0[i]? = some (pc, q)) : decode cX4_begin pc = .ok q := dt_get dX4_begin_p0_ok i hi
def dtX4_offer_p0 : DT := [(0, .lload_n 3, 1), (1, .ldc2_w 49, 3), (4, .lmul, 1), (5, .iload_n 1, 1), (6, .getstatic 51, 3), (9, .iload_n 2, 1), (10, .iaload, 1), (11, .imul, 1), (12, .i2l, 1), (13, .lsub, 1), (14, .lstore 5, 2), (16, .aload_n 0, 1), (17, .getfield 22, 3), (20, .iload_n 2, 1), (21, .aaload, 1), (22, .astore 7, 2), (24, .aload_n 0, 1), (25, .getfield 25, 3), (28, .iload_n 2, 1), (29, .iaload, 1), (30, .istore 8, 2), (32, .iload 8, 2), (34, .ifCond .le 41, 3), (37, .aload_n 0, 1), (38, .getfield 17, 3), (41, .aload 7, 2), (43, .iload 8, 2), (45, .iconst 1, 1), (46, .isub, 1), (47, .iaload, 1), (48, .aaload, 1), (49, .iload_n 2, 1), (50, .laload, 1), (51, .lload 5, 2), (53, .lcmp, 1), (54, .ifCond .ge 21, 3), (57, .aload 7, 2), (59, .iload 8, 2), (61, .aload 7, 2), (63, .iload 8, 2), (65, .iconst 1, 1), (66, .isub, 1), (67, .iaload, 1), (68, .iastore, 1), (69, .iinc 8 (-1), 3), (72, .goto (-40), 3), (75, .aload 7, 2), (77, .iload 8, 2), (79, .iload_n 1, 1), (80, .iastore, 1), (81, .aload_n 0, 1), (82, .getfield 17, 3), (85, .iload_n 1, 1), (86, .aaload, 1), (87, .iload_n 2, 1), (88, .lload 5, 2), (90, .lastore, 1), (91, .aload_n 0, 1), (92, .getfield 25, 3), (95, .iload_n 2, 1), (96, .dup2, 1), (97, .iaload, 1), (98, .iconst 1, 1), (99, .iadd, 1)]
set_option maxRecDepth 100000 in
theorem dX4_offer_p0_ok : (dtX4_offer_p0.all fun e => decide (decode cX4_offer e.1 = .ok e.2)) = true := by decide +kernel
theorem dX4_offer_p0 (i : Nat) {pc : Nat} {q : Instr × Nat} (hi : dtX4_offer_p0[i]? = some (pc, q)) : decode cX4_offer pc = .ok q := dt_get dX4_offer_p0_ok i hi
def dtX4_offer_p1 : DT := [(100, .iastore, 1), (101, .return_, 1)]
set_option maxRecDepth 100000 in
theorem dX4_offer_p1_ok : (dtX4_offer_p1.all fun e => decide (decode cX4_offer e.1 = .ok e.2)) = true := by decide +kernel
theorem dX4_offer_p1 (i : Nat) {pc : Nat} {q : Instr × Nat} (hi : dtX4_offer_p1[i]? = some (pc, q)) : decode cX4_offer pc = .ok q := dt_get dX4_offer_p1_ok i hi
def dtX4_keepOnly_p0 : DT := [(0, .iconst 0, 1), (1, .istore_n 3, 1), (2, .iconst 0, 1), (3, .istore 4, 2), (5, .iload 4, 2), (7, .aload_n 0, 1), (8, .getfield 25, 3), (11, .iload_n 2, 1), (12, .iaload, 1), (13, .if_icmp .ge 24, 3), (16, .aload_n 0, 1), (17, .getfield 22, 3), (20, .iload_n 2, 1), (21, .aaload, 1), (22, .iload 4, 2), (24, .iaload, 1), (25, .iload_n 1, 1), (26, .if_icmp .ne 5, 3), (29, .iconst 1, 1), (30, .istore_n 3, 1), (31, .iinc 4 1, 3), (34, .goto (-29), 3), (37, .aload_n 0, 1), (38, .getfield 22, 3), (41, .iload_n 2, 1), (42, .aaload, 1), (43, .iconst 0, 1), (44, .iload_n 1, 1), (45, .iastore, 1), (46, .aload_n 0, 1), (47, .getfield 25, 3), (50, .iload_n 2, 1), (51, .iload_n 3, 1), (52, .iastore, 1), (53, .return_, 1)]
set_option maxRecDepth 100000 in
theorem dX4_keepOnly_p0_ok : (dtX4_keepOnly_p0.all fun e => decide (decode cX4_keepOnly e.1 = .ok e.2)) = true := by decide +kernel
theorem dX4_keepOnly_p0 (i : Nat) {pc : Nat} {q : Instr × Nat} (hi : dtX4_keepOnly_p0[i]? = some (pc, q)) : decode cX4_keepOnly pc = .ok q := dt_get dX4_keepOnly_p0_ok i hi
def dtX4_seek_p0 : DT := [(0, .aload_n 0, 1), (1, .iconst 1, 1), (2, .iload_n 1, 1), (3, .bipush 6, 2), (5, .invokestatic 54, 3), (8, .invokestatic 60, 3), (11, .putfield 39, 3), (14, .aload_n 0, 1), (15, .iconst 0, 1), (16, .putfield 42, 3), (19, .aload_n 0, 1), (20, .getfield 29, 3), (23, .aload_n 0, 1), (24, .getfield 9, 3), (27, .iconst 1, 1), (28, .iadd, 1), (29, .lconst 0, 1), (30, .lastore, 1), (31, .aload_n 0, 1), (32, .getfield 9, 3), (35, .istore_n 2, 1), (36, .iload_n 2, 1), (37, .iconst 1, 1), (38, .if_icmp .lt 49, 3), (41, .aload_n 0, 1), (42, .getfield 25, 3), (45, .iload_n 2, 1), (46, .iaload, 1), (47, .ifCond .ne 4, 3), (50, .return_, 1), (51, .aload_n 0, 1), (52, .getfield 29, 3), (55, .iload_n 2, 1), (56, .aload_n 0, 1), (57, .getfield 29, 3), (60, .iload_n 2, 1), (61, .iconst 1, 1), (62, .iadd, 1), (63, .laload, 1), (64, .aload_n 0, 1), (65, .getfield 17, 3), (68, .aload_n 0, 1), (69, .getfield 22, 3), (72, .iload_n 2, 1), (73, .aaload, 1), (74, .iconst 0, 1), (75, .iaload, 1), (76, .aaload, 1), (77, .iload_n 2, 1), (78, .laload, 1), (79, .ladd, 1), (80, .lastore, 1), (81, .iinc 2 (-1), 3), (84, .goto (-48), 3), (87, .aload_n 0, 1), (88, .iconst 1, 1), (89, .lconst 0, 1), (90, .iconst 0, 1), (91, .invokevirtual 63, 3), (94, .return_, 1)]
set_option maxRecDepth 100000 in
theorem dX4_seek_p0_ok : (dtX4_seek_p0.all fun e => decide (decode cX4_seek e.1 = .ok e.2)) = true := by decide +kernel
theorem dX4_seek_p0 (i : Nat) {pc : Nat} {q : Instr × Nat} (hi : dtX4_seek_p0[i]? = some (pc, q)) : decode cX4_seek pc = .ok q := dt_get dX4_seek_p0_ok i hi
def dtX4_descend_p0 : DT := [(0, .iload_n 1, 1), (1, .aload_n 0, 1), (2, .getfield 9, 3), (5, .if_icmp .le 9, 3), (8, .aload_n 0, 1), (9, .lload_n 2, 1), (10, .invokevirtual 67, 3), (13, .return_, 1), (14, .iconst 0, 1), (15, .istore 5, 2), (17, .iload 5, 2), (19, .aload_n 0, 1), (20, .getfield 25, 3), (23, .iload_n 1, 1), (24, .iaload, 1), (25, .if_icmp .ge 165, 3), (28, .aload_n 0, 1), (29, .getfield 22, 3), (32, .iload_n 1, 1), (33, .aaload, 1), (34, .iload 5, 2), (36, .iaload, 1), (37, .istore 6, 2), (39, .lload_n 2, 1), (40, .aload_n 0, 1), (41, .getfield 17, 3), (44, .iload 6, 2), (46, .aaload, 1), (47, .iload_n 1, 1), (48, .laload, 1), (49, .ladd, 1), (50, .lstore 7, 2), (52, .aload_n 0, 1), (53, .getfield 42, 3), (56, .aload_n 0, 1), (57, .getfield 39, 3), (60, .if_icmp .ne 30, 3), (63, .lload 7, 2), (65, .aload_n 0, 1), (66, .getfield 29, 3), (69, .iload_n 1, 1), (70, .iconst 1, 1), (71, .iadd, 1), (72, .laload, 1), (73, .ladd, 1), (74, .aload_n 0, 1), (75, .getfield 36, 3), (78, .aload_n 0, 1), (79, .getfield 39, 3), (82, .iconst 1, 1), (83, .isub, 1), (84, .laload, 1), (85, .lcmp, 1), (86, .ifCond .gt 4, 3), (89, .return_, 1), (90, .iload 6, 2), (92, .ifCond .ne 22, 3), (95, .iload 4, 2), (97, .ifCond .eq 17, 3), (100, .aload_n 0, 1), (101, .getfield 45, 3), (104, .getfield 71, 3), (107, .ifCond .eq 7, 3), (110, .iconst 1, 1)]
set_option maxRecDepth 100000 in
theorem dX4_descend_p0_ok : (dtX4_descend_p0.all fun e => decide (decode cX4_descend e.1 = .ok e.2)) = true := by decide +kernel
theorem dX4_descend_p0 (i : Nat) {pc : Nat} {q : Instr × Nat} (hi : dtX4_descend_p0[i]? = some (pc, q)) : decode cX4_descend pc = .ok q := dt_get dX4_descend_p0_ok i hi
def dtX4_descend_p1 : DT := [(111, .goto 4, 3), (114, .iconst 0, 1), (115, .istore 9, 2), (117, .iload 9, 2), (119, .ifCond .ne 65, 3), (122, .aload_n 0, 1), (123, .iload 6, 2), (125, .iload_n 1, 1), (126, .invokevirtual 77, 3), (129, .ifCond .ne 55, 3), (132, .aload_n 0, 1), (133, .getfield 45, 3), (136, .getfield 81, 3), (139, .ifCond .eq 13, 3), (142, .aload_n 0, 1), (143, .iload 6, 2), (145, .iload_n 1, 1), (146, .invokevirtual 84, 3), (149, .ifCond .ne 35, 3), (152, .aload_n 0, 1), (153, .getfield 33, 3), (156, .iload_n 1, 1), (157, .iload 6, 2), (159, .iastore, 1), (160, .aload_n 0, 1), (161, .iload_n 1, 1), (162, .iconst 1, 1), (163, .iadd, 1), (164, .lload 7, 2), (166, .iload 4, 2), (168, .ifCond .ne 8, 3), (171, .iload 6, 2), (173, .ifCond .ne 7, 3), (176, .iconst 1, 1), (177, .goto 4, 3), (180, .iconst 0, 1), (181, .invokevirtual 63, 3), (184, .iinc 5 1, 3), (187, .goto (-170), 3), (190, .return_, 1)]
set_option maxRecDepth 100000 in
theorem dX4_descend_p1_ok : (dtX4_descend_p1.all fun e => decide (decode cX4_descend e.1 = .ok e.2)) = true := by decide +kernel
theorem dX4_descend_p1 (i : Nat) {pc : Nat} {q : Instr × Nat} (hi : dtX4_descend_p1[i]? = some (pc, q)) : decode cX4_descend pc = .ok q := dt_get dX4_descend_p1_ok i hi
def dtX4_closesCycle_p0 : DT := [(0, .iload_n 1, 1), (1, .istore_n 3, 1), (2, .iconst 0, 1), (3, .istore 4, 2), (5, .iload 4, 2), (7, .iload_n 2, 1), (8, .if_icmp .ge 25, 3), (11, .iload_n 3, 1), (12, .ifCond .le 21, 3), (15, .iload_n 3, 1), (16, .iload_n 2, 1), (17, .if_icmp .ge 16, 3), (20, .aload_n 0, 1), (21, .getfield 33, 3), (24, .iload_n 3, 1), (25, .iaload, 1), (26, .istore_n 3, 1), (27, .iinc 4 1, 3), (30, .goto (-25), 3), (33, .iload_n 3, 1), (34, .iload_n 2, 1), (35, .if_icmp .ne 7, 3), (38, .iconst 1, 1), (39, .goto 4, 3), (42, .iconst 0, 1), (43, .ireturn, 1)]
set_option maxRecDepth 100000 in
theorem dX4_closesCycle_p0_ok : (dtX4_closesCycle_p0.all fun e => decide (decode cX4_closesCycle e.1 = .ok e.2)) = true := by decide +kernel
theorem dX4_closesCycle_p0 (i : Nat) {pc : Nat} {q : Instr × Nat} (hi : dtX4_closesCycle_p0[i]? = some (pc, q)) : decode cX4_closesCycle pc = .ok q := dt_get dX4_closesCycle_p0_ok i hi
def dtX4_crossesEarlier_p0 : DT := [(0, .iconst 1, 1), (1, .istore_n 3, 1), (2, .iload_n 3, 1), (3, .iload_n 2, 1), (4, .if_icmp .ge 26, 3), (7, .iload_n 1, 1), (8, .iload_n 2, 1), (9, .aload_n 0, 1), (10, .getfield 33, 3), (13, .iload_n 3, 1), (14, .iaload, 1), (15, .iload_n 3, 1), (16, .invokestatic 87, 3), (19, .ifCond .eq 5, 3), (22, .iconst 1, 1), (23, .ireturn, 1), (24, .iinc 3 1, 3), (27, .goto (-25), 3), (30, .iconst 0, 1), (31, .ireturn, 1)]
set_option maxRecDepth 100000 in
theorem dX4_crossesEarlier_p0_ok : (dtX4_crossesEarlier_p0.all fun e => decide (decode cX4_crossesEarlier e.1 = .ok e.2)) = true := by decide +kernel
theorem dX4_crossesEarlier_p0 (i : Nat) {pc : Nat} {q : Instr × Nat} (hi : dtX4_crossesEarlier_p0[i]? = some (pc, q)) : decode cX4_crossesEarlier pc = .ok q := dt_get dX4_crossesEarlier_p0_ok i hi
def dtX4_keep_p0 : DT := [(0, .aload_n 0, 1), (1, .getfield 42, 3), (4, .aload_n 0, 1), (5, .getfield 39, 3), (8, .if_icmp .ge 10, 3), (11, .aload_n 0, 1), (12, .getfield 42, 3), (15, .goto 9, 3), (18, .aload_n 0, 1), (19, .getfield 39, 3), (22, .iconst 1, 1), (23, .isub, 1), (24, .istore_n 3, 1), (25, .iload_n 3, 1), (26, .ifCond .le 36, 3), (29, .aload_n 0, 1), (30, .getfield 36, 3), (33, .iload_n 3, 1), (34, .iconst 1, 1), (35, .isub, 1), (36, .laload, 1), (37, .lload_n 1, 1), (38, .lcmp, 1), (39, .ifCond .ge 23, 3), (42, .aload_n 0, 1), (43, .getfield 36, 3), (46, .iload_n 3, 1), (47, .aload_n 0, 1), (48, .getfield 36, 3), (51, .iload_n 3, 1), (52, .iconst 1, 1), (53, .isub, 1), (54, .laload, 1), (55, .lastore, 1), (56, .iinc 3 (-1), 3), (59, .goto (-34), 3), (62, .aload_n 0, 1), (63, .getfield 36, 3), (66, .iload_n 3, 1), (67, .lload_n 1, 1), (68, .lastore, 1), (69, .aload_n 0, 1), (70, .aload_n 0, 1), (71, .getfield 42, 3), (74, .iconst 1, 1), (75, .iadd, 1), (76, .aload_n 0, 1), (77, .getfield 39, 3), (80, .invokestatic 54, 3), (83, .putfield 42, 3), (86, .return_, 1)]
set_option maxRecDepth 100000 in
theorem dX4_keep_p0_ok : (dtX4_keep_p0.all fun e => decide (decode cX4_keep e.1 = .ok e.2)) = true := by decide +kernel
theorem dX4_keep_p0 (i : Nat) {pc : Nat} {q : Instr × Nat} (hi : dtX4_keep_p0[i]? = some (pc, q)) : decode cX4_keep pc = .ok q := dt_get dX4_keep_p0_ok i hi
def dtX4_scoreAt_p0 : DT := [(0, .aload_n 0, 1), (1, .getfield 36, 3), (4, .iload_n 1, 1), (5, .laload, 1), (6, .lneg, 1), (7, .ldc2_w 49, 3), (10, .invokestatic 91, 3), (13, .lneg, 1), (14, .l2i, 1), (15, .ireturn, 1)]
set_option maxRecDepth 100000 in
theorem dX4_scoreAt_p0_ok : (dtX4_scoreAt_p0.all fun e => decide (decode cX4_scoreAt e.1 = .ok e.2)) = true := by decide +kernel
theorem dX4_scoreAt_p0 (i : Nat) {pc : Nat} {q : Instr × Nat} (hi : dtX4_scoreAt_p0[i]? = some (pc, q)) : decode cX4_scoreAt pc = .ok q := dt_get dX4_scoreAt_p0_ok i hi
def dtX4_headAt_p0 : DT := [(0, .aload_n 0, 1), (1, .getfield 36, 3), (4, .iload_n 1, 1), (5, .laload, 1), (6, .lneg, 1), (7, .ldc2_w 49, 3), (10, .invokestatic 95, 3), (13, .l2i, 1), (14, .istore_n 3, 1), (15, .bipush 6, 2), (17, .istore 4, 2), (19, .iload 4, 2), (21, .iload_n 2, 1), (22, .if_icmp .le 14, 3), (25, .iload_n 3, 1), (26, .bipush 7, 2), (28, .idiv, 1), (29, .istore_n 3, 1), (30, .iinc 4 (-1), 3), (33, .goto (-14), 3), (36, .iload_n 3, 1), (37, .bipush 7, 2), (39, .irem, 1), (40, .ireturn, 1)]
set_option maxRecDepth 100000 in
theorem dX4_headAt_p0_ok : (dtX4_headAt_p0.all fun e => decide (decode cX4_headAt e.1 = .ok e.2)) = true := by decide +kernel
theorem dX4_headAt_p0 (i : Nat) {pc : Nat} {q : Instr × Nat} (hi : dtX4_headAt_p0[i]? = some (pc, q)) : decode cX4_headAt pc = .ok q := dt_get dX4_headAt_p0_ok i hi
def dtX5_init_p0 : DT := [(0, .aload_n 0, 1), (1, .invokespecial 3, 3), (4, .aload_n 0, 1), (5, .iconst 0, 1), (6, .putfield 9, 3), (9, .aload_n 0, 1), (10, .bipush 7, 2), (12, .bipush 7, 2), (14, .multianewarray 15 2, 4), (18, .putfield 17, 3), (21, .aload_n 0, 1), (22, .bipush 7, 2), (24, .bipush 64, 2), (26, .multianewarray 15 2, 4), (30, .putfield 20, 3), (33, .aload_n 0, 1), (34, .bipush 7, 2), (36, .bipush 64, 2), (38, .multianewarray 15 2, 4), (42, .putfield 23, 3), (45, .aload_n 0, 1), (46, .bipush 7, 2), (48, .bipush 64, 2), (50, .multianewarray 15 2, 4), (54, .putfield 26, 3), (57, .aload_n 0, 1), (58, .bipush 7, 2), (60, .bipush 64, 2), (62, .multianewarray 15 2, 4), (66, .putfield 29, 3), (69, .aload_n 0, 1), (70, .bipush 7, 2), (72, .bipush 7, 2), (74, .multianewarray 15 2, 4), (78, .putfield 32, 3), (81, .aload_n 0, 1), (82, .aload_n 1, 1), (83, .putfield 35, 3), (86, .return_, 1)]
set_option maxRecDepth 100000 in
theorem dX5_init_p0_ok : (dtX5_init_p0.all fun e => decide (decode cX5_init e.1 = .ok e.2)) = true := by decide +kernel
theorem dX5_init_p0 (i : Nat) {pc : Nat} {q : Instr × Nat} (hi : dtX5_init_p0[i]? = some (pc, q)) : decode cX5_init pc = .ok q := dt_get dX5_init_p0_ok i hi
def dtX5_begin_p0 : DT := [(0, .aload_n 0, 1), (1, .iload_n 1, 1), (2, .putfield 9, 3), (5, .return_, 1)]
set_option maxRecDepth 100000 in
theorem dX5_begin_p0_ok : (dtX5_begin_p0.all fun e => decide (decode cX5_begin e.1 = .ok e.2)) = true := by decide +kernel
theorem dX5_begin_p0 (i : Nat) {pc : Nat} {q : Instr × Nat} (hi : dtX5_begin_p0[i]? = some (pc, q)) : decode cX5_begin pc = .ok q := dt_get dX5_begin_p0_ok i hi
def dtX5_setPotential_p0 : DT := [(0, .aload_n 0, 1), (1, .getfield 17, 3), (4, .iload_n 1, 1), (5, .aaload, 1), (6, .iload_n 2, 1), (7, .iload_n 3, 1), (8, .i2l, 1), (9, .lastore, 1), (10, .return_, 1)]
set_option maxRecDepth 100000 in
theorem dX5_setPotential_p0_ok : (dtX5_setPotential_p0.all fun e => decide (decode cX5_setPotential e.1 = .ok e.2)) = true := by decide +kernel
theorem dX5_setPotential_p0 (i : Nat) {pc : Nat} {q : Instr × Nat} (hi : dtX5_setPotential_p0[i]? = some (pc, q)) : decode cX5_setPotential pc = .ok q := dt_get dX5_setPotential_p0_ok i hi
def dtX5_addUp_p0 : DT := [(0, .iconst 1, 1), (1, .aload_n 0, 1), (2, .getfield 9, 3), (5, .ishl, 1), (6, .iconst 1, 1), (7, .isub, 1), (8, .istore_n 1, 1), (9, .iconst 0, 1), (10, .istore_n 2, 1), (11, .iload_n 2, 1), (12, .aload_n 0, 1), (13, .getfield 9, 3), (16, .if_icmp .gt 18, 3), (19, .aload_n 0, 1), (20, .getfield 23, 3), (23, .iload_n 2, 1), (24, .aaload, 1), (25, .iconst 0, 1), (26, .lconst 1, 1), (27, .lastore, 1), (28, .iinc 2 1, 3), (31, .goto (-20), 3), (34, .iconst 1, 1), (35, .istore_n 2, 1), (36, .iload_n 2, 1), (37, .iload_n 1, 1), (38, .if_icmp .gt 61, 3), (41, .iconst 0, 1), (42, .istore_n 3, 1), (43, .iload_n 3, 1), (44, .aload_n 0, 1), (45, .getfield 9, 3), (48, .if_icmp .gt 45, 3), (51, .iload_n 2, 1), (52, .iload_n 3, 1), (53, .invokestatic 39, 3), (56, .ifCond .ne 31, 3), (59, .aload_n 0, 1), (60, .getfield 20, 3), (63, .iload_n 3, 1), (64, .aaload, 1), (65, .iload_n 2, 1), (66, .aload_n 0, 1), (67, .iload_n 3, 1), (68, .iload_n 2, 1), (69, .invokevirtual 43, 3), (72, .lastore, 1), (73, .aload_n 0, 1), (74, .getfield 23, 3), (77, .iload_n 3, 1), (78, .aaload, 1), (79, .iload_n 2, 1), (80, .aload_n 0, 1), (81, .iload_n 3, 1), (82, .iload_n 2, 1), (83, .invokevirtual 47, 3), (86, .lastore, 1), (87, .iinc 3 1, 3), (90, .goto (-47), 3), (93, .iinc 2 1, 3), (96, .goto (-60), 3), (99, .aload_n 0, 1), (100, .getfield 35, 3), (103, .getfield 50, 3)]
set_option maxRecDepth 100000 in
theorem dX5_addUp_p0_ok : (dtX5_addUp_p0.all fun e => decide (decode cX5_addUp e.1 = .ok e.2)) = true := by decide +kernel
theorem dX5_addUp_p0 (i : Nat) {pc : Nat} {q : Instr × Nat} (hi : dtX5_addUp_p0[i]? = some (pc, q)) : decode cX5_addUp pc = .ok q := dt_get dX5_addUp_p0_ok i hi
def dtX5_addUp_p1 : DT := [(106, .ifCond .eq 14, 3), (109, .aload_n 0, 1), (110, .getfield 20, 3), (113, .iconst 0, 1), (114, .aaload, 1), (115, .iload_n 1, 1), (116, .laload, 1), (117, .goto 11, 3), (120, .aload_n 0, 1), (121, .getfield 23, 3), (124, .iconst 0, 1), (125, .aaload, 1), (126, .iload_n 1, 1), (127, .laload, 1), (128, .lreturn, 1)]
set_option maxRecDepth 100000 in
theorem dX5_addUp_p1_ok : (dtX5_addUp_p1.all fun e => decide (decode cX5_addUp e.1 = .ok e.2)) = true := by decide +kernel
theorem dX5_addUp_p1 (i : Nat) {pc : Nat} {q : Instr × Nat} (hi : dtX5_addUp_p1[i]? = some (pc, q)) : decode cX5_addUp pc = .ok q := dt_get dX5_addUp_p1_ok i hi
def dtX5_addBranches_p0 : DT := [(0, .aload_n 0, 1), (1, .iload_n 2, 1), (2, .invokevirtual 56, 3), (5, .ifCond .ne 5, 3), (8, .lconst 0, 1), (9, .lreturn, 1), (10, .lconst 0, 1), (11, .lstore_n 3, 1), (12, .iconst 1, 1), (13, .istore 5, 2), (15, .iload 5, 2), (17, .aload_n 0, 1), (18, .getfield 9, 3), (21, .if_icmp .gt 46, 3), (24, .iload_n 2, 1), (25, .iload 5, 2), (27, .invokestatic 39, 3), (30, .ifCond .eq 31, 3), (33, .lload_n 3, 1), (34, .aload_n 0, 1), (35, .getfield 17, 3), (38, .iload_n 1, 1), (39, .aaload, 1), (40, .iload 5, 2), (42, .laload, 1), (43, .aload_n 0, 1), (44, .getfield 23, 3), (47, .iload 5, 2), (49, .aaload, 1), (50, .iload_n 2, 1), (51, .iload 5, 2), (53, .invokestatic 60, 3), (56, .ixor, 1), (57, .laload, 1), (58, .lmul, 1), (59, .ladd, 1), (60, .lstore_n 3, 1), (61, .iinc 5 1, 3), (64, .goto (-49), 3), (67, .lload_n 3, 1), (68, .lreturn, 1)]
set_option maxRecDepth 100000 in
theorem dX5_addBranches_p0_ok : (dtX5_addBranches_p0.all fun e => decide (decode cX5_addBranches e.1 = .ok e.2)) = true := by decide +kernel
theorem dX5_addBranches_p0 (i : Nat) {pc : Nat} {q : Instr × Nat} (hi : dtX5_addBranches_p0[i]? = some (pc, q)) : decode cX5_addBranches pc = .ok q := dt_get dX5_addBranches_p0_ok i hi
def dtX5_addForests_p0 : DT := [(0, .iload_n 2, 1), (1, .iload_n 2, 1), (2, .ineg, 1), (3, .iand, 1), (4, .istore_n 3, 1), (5, .lconst 0, 1), (6, .lstore 4, 2), (8, .iload_n 2, 1), (9, .istore 6, 2), (11, .iload 6, 2), (13, .ifCond .le 47, 3), (16, .iload 6, 2), (18, .iload_n 3, 1), (19, .iand, 1), (20, .ifCond .eq 29, 3), (23, .lload 4, 2), (25, .aload_n 0, 1), (26, .getfield 20, 3), (29, .iload_n 1, 1), (30, .aaload, 1), (31, .iload 6, 2), (33, .laload, 1), (34, .aload_n 0, 1), (35, .getfield 23, 3), (38, .iload_n 1, 1), (39, .aaload, 1), (40, .iload_n 2, 1), (41, .iload 6, 2), (43, .ixor, 1), (44, .laload, 1), (45, .lmul, 1), (46, .ladd, 1), (47, .lstore 4, 2), (49, .iload 6, 2), (51, .iconst 1, 1), (52, .isub, 1), (53, .iload_n 2, 1), (54, .iand, 1), (55, .istore 6, 2), (57, .goto (-46), 3), (60, .lload 4, 2), (62, .lreturn, 1)]
set_option maxRecDepth 100000 in
theorem dX5_addForests_p0_ok : (dtX5_addForests_p0.all fun e => decide (decode cX5_addForests e.1 = .ok e.2)) = true := by decide +kernel
theorem dX5_addForests_p0 (i : Nat) {pc : Nat} {q : Instr × Nat} (hi : dtX5_addForests_p0[i]? = some (pc, q)) : decode cX5_addForests pc = .ok q := dt_get dX5_addForests_p0_ok i hi
def dtX5_spread_p0 : DT := [(0, .aload_n 0, 1), (1, .invokevirtual 64, 3), (4, .iconst 1, 1), (5, .aload_n 0, 1), (6, .getfield 9, 3), (9, .ishl, 1), (10, .iconst 1, 1), (11, .isub, 1), (12, .istore_n 1, 1), (13, .aload_n 0, 1), (14, .getfield 35, 3), (17, .getfield 50, 3), (20, .ifCond .eq 15, 3), (23, .aload_n 0, 1), (24, .getfield 26, 3), (27, .iconst 0, 1), (28, .aaload, 1), (29, .iload_n 1, 1), (30, .lconst 1, 1), (31, .lastore, 1), (32, .goto 12, 3), (35, .aload_n 0, 1), (36, .getfield 29, 3), (39, .iconst 0, 1), (40, .aaload, 1), (41, .iload_n 1, 1), (42, .lconst 1, 1), (43, .lastore, 1), (44, .iload_n 1, 1), (45, .istore_n 2, 1), (46, .iload_n 2, 1), (47, .iconst 1, 1), (48, .if_icmp .lt 45, 3), (51, .iconst 0, 1), (52, .istore_n 3, 1), (53, .iload_n 3, 1), (54, .aload_n 0, 1), (55, .getfield 9, 3), (58, .if_icmp .gt 29, 3), (61, .iload_n 2, 1), (62, .iload_n 3, 1), (63, .invokestatic 39, 3), (66, .ifCond .ne 15, 3), (69, .aload_n 0, 1), (70, .iload_n 3, 1), (71, .iload_n 2, 1), (72, .invokevirtual 67, 3), (75, .aload_n 0, 1), (76, .iload_n 3, 1), (77, .iload_n 2, 1), (78, .invokevirtual 71, 3), (81, .iinc 3 1, 3), (84, .goto (-31), 3), (87, .iinc 2 (-1), 3), (90, .goto (-44), 3), (93, .return_, 1)]
set_option maxRecDepth 100000 in
theorem dX5_spread_p0_ok : (dtX5_spread_p0.all fun e => decide (decode cX5_spread e.1 = .ok e.2)) = true := by decide +kernel
theorem dX5_spread_p0 (i : Nat) {pc : Nat} {q : Instr × Nat} (hi : dtX5_spread_p0[i]? = some (pc, q)) : decode cX5_spread pc = .ok q := dt_get dX5_spread_p0_ok i hi
def dtX5_clearGains_p0 : DT := [(0, .iconst 0, 1), (1, .istore_n 1, 1), (2, .iload_n 1, 1), (3, .bipush 7, 2), (5, .if_icmp .ge 64, 3), (8, .iconst 0, 1), (9, .istore_n 2, 1), (10, .iload_n 2, 1), (11, .bipush 64, 2), (13, .if_icmp .ge 27, 3), (16, .aload_n 0, 1), (17, .getfield 26, 3), (20, .iload_n 1, 1), (21, .aaload, 1), (22, .iload_n 2, 1), (23, .lconst 0, 1), (24, .lastore, 1), (25, .aload_n 0, 1), (26, .getfield 29, 3), (29, .iload_n 1, 1), (30, .aaload, 1), (31, .iload_n 2, 1), (32, .lconst 0, 1), (33, .lastore, 1), (34, .iinc 2 1, 3), (37, .goto (-27), 3), (40, .iconst 0, 1), (41, .istore_n 2, 1), (42, .iload_n 2, 1), (43, .bipush 7, 2), (45, .if_icmp .ge 18, 3), (48, .aload_n 0, 1), (49, .getfield 32, 3), (52, .iload_n 1, 1), (53, .aaload, 1), (54, .iload_n 2, 1), (55, .lconst 0, 1), (56, .lastore, 1), (57, .iinc 2 1, 3), (60, .goto (-18), 3), (63, .iinc 1 1, 3), (66, .goto (-64), 3), (69, .return_, 1)]
set_option maxRecDepth 100000 in
theorem dX5_clearGains_p0_ok : (dtX5_clearGains_p0.all fun e => decide (decode cX5_clearGains e.1 = .ok e.2)) = true := by decide +kernel
theorem dX5_clearGains_p0 (i : Nat) {pc : Nat} {q : Instr × Nat} (hi : dtX5_clearGains_p0[i]? = some (pc, q)) : decode cX5_clearGains pc = .ok q := dt_get dX5_clearGains_p0_ok i hi
def dtX5_spreadForest_p0 : DT := [(0, .aload_n 0, 1), (1, .getfield 29, 3), (4, .iload_n 1, 1), (5, .aaload, 1), (6, .iload_n 2, 1), (7, .laload, 1), (8, .lstore_n 3, 1), (9, .lload_n 3, 1), (10, .lconst 0, 1), (11, .lcmp, 1), (12, .ifCond .ne 4, 3), (15, .return_, 1), (16, .iload_n 2, 1), (17, .iload_n 2, 1), (18, .ineg, 1), (19, .iand, 1), (20, .istore 5, 2), (22, .iload_n 2, 1), (23, .istore 6, 2), (25, .iload 6, 2), (27, .ifCond .le 72, 3), (30, .iload 6, 2), (32, .iload 5, 2), (34, .iand, 1), (35, .ifCond .eq 53, 3), (38, .aload_n 0, 1), (39, .getfield 26, 3), (42, .iload_n 1, 1), (43, .aaload, 1), (44, .iload 6, 2), (46, .dup2, 1), (47, .laload, 1), (48, .lload_n 3, 1), (49, .aload_n 0, 1), (50, .getfield 23, 3), (53, .iload_n 1, 1), (54, .aaload, 1), (55, .iload_n 2, 1), (56, .iload 6, 2), (58, .ixor, 1), (59, .laload, 1), (60, .lmul, 1), (61, .ladd, 1), (62, .lastore, 1), (63, .aload_n 0, 1), (64, .getfield 29, 3), (67, .iload_n 1, 1), (68, .aaload, 1), (69, .iload_n 2, 1), (70, .iload 6, 2), (72, .ixor, 1), (73, .dup2, 1), (74, .laload, 1), (75, .lload_n 3, 1), (76, .aload_n 0, 1), (77, .getfield 20, 3), (80, .iload_n 1, 1), (81, .aaload, 1), (82, .iload 6, 2), (84, .laload, 1), (85, .lmul, 1), (86, .ladd, 1), (87, .lastore, 1), (88, .iload 6, 2)]
set_option maxRecDepth 100000 in
theorem dX5_spreadForest_p0_ok : (dtX5_spreadForest_p0.all fun e => decide (decode cX5_spreadForest e.1 = .ok e.2)) = true := by decide +kernel
theorem dX5_spreadForest_p0 (i : Nat) {pc : Nat} {q : Instr × Nat} (hi : dtX5_spreadForest_p0[i]? = some (pc, q)) : decode cX5_spreadForest pc = .ok q := dt_get dX5_spreadForest_p0_ok i hi
def dtX5_spreadForest_p1 : DT := [(90, .iconst 1, 1), (91, .isub, 1), (92, .iload_n 2, 1), (93, .iand, 1), (94, .istore 6, 2), (96, .goto (-71), 3), (99, .return_, 1)]
set_option maxRecDepth 100000 in
theorem dX5_spreadForest_p1_ok : (dtX5_spreadForest_p1.all fun e => decide (decode cX5_spreadForest e.1 = .ok e.2)) = true := by decide +kernel
theorem dX5_spreadForest_p1 (i : Nat) {pc : Nat} {q : Instr × Nat} (hi : dtX5_spreadForest_p1[i]? = some (pc, q)) : decode cX5_spreadForest pc = .ok q := dt_get dX5_spreadForest_p1_ok i hi
def dtX5_spreadBranch_p0 : DT := [(0, .aload_n 0, 1), (1, .getfield 26, 3), (4, .iload_n 1, 1), (5, .aaload, 1), (6, .iload_n 2, 1), (7, .laload, 1), (8, .lstore_n 3, 1), (9, .lload_n 3, 1), (10, .lconst 0, 1), (11, .lcmp, 1), (12, .ifCond .eq 11, 3), (15, .aload_n 0, 1), (16, .iload_n 2, 1), (17, .invokevirtual 56, 3), (20, .ifCond .ne 4, 3), (23, .return_, 1), (24, .iconst 1, 1), (25, .istore 5, 2), (27, .iload 5, 2), (29, .aload_n 0, 1), (30, .getfield 9, 3), (33, .if_icmp .gt 75, 3), (36, .iload_n 2, 1), (37, .iload 5, 2), (39, .invokestatic 39, 3), (42, .ifCond .eq 60, 3), (45, .iload_n 2, 1), (46, .iload 5, 2), (48, .invokestatic 60, 3), (51, .ixor, 1), (52, .istore 6, 2), (54, .aload_n 0, 1), (55, .getfield 32, 3), (58, .iload_n 1, 1), (59, .aaload, 1), (60, .iload 5, 2), (62, .dup2, 1), (63, .laload, 1), (64, .lload_n 3, 1), (65, .aload_n 0, 1), (66, .getfield 23, 3), (69, .iload 5, 2), (71, .aaload, 1), (72, .iload 6, 2), (74, .laload, 1), (75, .lmul, 1), (76, .ladd, 1), (77, .lastore, 1), (78, .aload_n 0, 1), (79, .getfield 29, 3), (82, .iload 5, 2), (84, .aaload, 1), (85, .iload 6, 2), (87, .dup2, 1), (88, .laload, 1), (89, .lload_n 3, 1), (90, .aload_n 0, 1), (91, .getfield 17, 3), (94, .iload_n 1, 1), (95, .aaload, 1), (96, .iload 5, 2), (98, .laload, 1), (99, .lmul, 1), (100, .ladd, 1)]
set_option maxRecDepth 100000 in
theorem dX5_spreadBranch_p0_ok : (dtX5_spreadBranch_p0.all fun e => decide (decode cX5_spreadBranch e.1 = .ok e.2)) = true := by decide +kernel
theorem dX5_spreadBranch_p0 (i : Nat) {pc : Nat} {q : Instr × Nat} (hi : dtX5_spreadBranch_p0[i]? = some (pc, q)) : decode cX5_spreadBranch pc = .ok q := dt_get dX5_spreadBranch_p0_ok i hi
def dtX5_spreadBranch_p1 : DT := [(101, .lastore, 1), (102, .iinc 5 1, 3), (105, .goto (-78), 3), (108, .return_, 1)]
set_option maxRecDepth 100000 in
theorem dX5_spreadBranch_p1_ok : (dtX5_spreadBranch_p1.all fun e => decide (decode cX5_spreadBranch e.1 = .ok e.2)) = true := by decide +kernel
theorem dX5_spreadBranch_p1 (i : Nat) {pc : Nat} {q : Instr × Nat} (hi : dtX5_spreadBranch_p1[i]? = some (pc, q)) : decode cX5_spreadBranch pc = .ok q := dt_get dX5_spreadBranch_p1_ok i hi
def dtX5_arcSum_p0 : DT := [(0, .aload_n 0, 1), (1, .getfield 17, 3), (4, .iload_n 1, 1), (5, .aaload, 1), (6, .iload_n 2, 1), (7, .laload, 1), (8, .aload_n 0, 1), (9, .getfield 32, 3), (12, .iload_n 1, 1), (13, .aaload, 1), (14, .iload_n 2, 1), (15, .laload, 1), (16, .lmul, 1), (17, .lreturn, 1)]
set_option maxRecDepth 100000 in
theorem dX5_arcSum_p0_ok : (dtX5_arcSum_p0.all fun e => decide (decode cX5_arcSum e.1 = .ok e.2)) = true := by decide +kernel
theorem dX5_arcSum_p0 (i : Nat) {pc : Nat} {q : Instr × Nat} (hi : dtX5_arcSum_p0[i]? = some (pc, q)) : decode cX5_arcSum pc = .ok q := dt_get dX5_arcSum_p0_ok i hi
def dtX5_mayBranch_p0 : DT := [(0, .aload_n 0, 1), (1, .getfield 35, 3), (4, .getfield 74, 3), (7, .ifCond .eq 14, 3), (10, .iload_n 1, 1), (11, .iload_n 1, 1), (12, .iload_n 1, 1), (13, .iload_n 1, 1), (14, .ineg, 1), (15, .iand, 1), (16, .iadd, 1), (17, .iand, 1), (18, .ifCond .ne 7, 3), (21, .iconst 1, 1), (22, .goto 4, 3), (25, .iconst 0, 1), (26, .ireturn, 1)]
set_option maxRecDepth 100000 in
theorem dX5_mayBranch_p0_ok : (dtX5_mayBranch_p0.all fun e => decide (decode cX5_mayBranch e.1 = .ok e.2)) = true := by decide +kernel
theorem dX5_mayBranch_p0 (i : Nat) {pc : Nat} {q : Instr × Nat} (hi : dtX5_mayBranch_p0[i]? = some (pc, q)) : decode cX5_mayBranch pc = .ok q := dt_get dX5_mayBranch_p0_ok i hi
def dtX5_bit_p0 : DT := [(0, .iconst 1, 1), (1, .iload_n 0, 1), (2, .iconst 1, 1), (3, .isub, 1), (4, .ishl, 1), (5, .ireturn, 1)]
set_option maxRecDepth 100000 in
theorem dX5_bit_p0_ok : (dtX5_bit_p0.all fun e => decide (decode cX5_bit e.1 = .ok e.2)) = true := by decide +kernel
theorem dX5_bit_p0 (i : Nat) {pc : Nat} {q : Instr × Nat} (hi : dtX5_bit_p0[i]? = some (pc, q)) : decode cX5_bit pc = .ok q := dt_get dX5_bit_p0_ok i hi
def dtX5_hasNode_p0 : DT := [(0, .iload_n 1, 1), (1, .ifCond .le 16, 3), (4, .iload_n 0, 1), (5, .iload_n 1, 1), (6, .invokestatic 60, 3), (9, .iand, 1), (10, .ifCond .eq 7, 3), (13, .iconst 1, 1), (14, .goto 4, 3), (17, .iconst 0, 1), (18, .ireturn, 1)]
set_option maxRecDepth 100000 in
theorem dX5_hasNode_p0_ok : (dtX5_hasNode_p0.all fun e => decide (decode cX5_hasNode e.1 = .ok e.2)) = true := by decide +kernel
theorem dX5_hasNode_p0 (i : Nat) {pc : Nat} {q : Instr × Nat} (hi : dtX5_hasNode_p0[i]? = some (pc, q)) : decode cX5_hasNode pc = .ok q := dt_get dX5_hasNode_p0_ok i hi
def dtX6_init_p0 : DT := [(0, .aload_n 0, 1), (1, .invokespecial 3, 3), (4, .aload_n 0, 1), (5, .bipush 9, 2), (7, .bipush 8, 2), (9, .multianewarray 9 2, 4), (13, .putfield 11, 3), (16, .aload_n 0, 1), (17, .iconst 2, 1), (18, .bipush 7, 2), (20, .multianewarray 9 2, 4), (24, .putfield 16, 3), (27, .return_, 1)]
set_option maxRecDepth 100000 in
theorem dX6_init_p0_ok : (dtX6_init_p0.all fun e => decide (decode cX6_init e.1 = .ok e.2)) = true := by decide +kernel
theorem dX6_init_p0 (i : Nat) {pc : Nat} {q : Instr × Nat} (hi : dtX6_init_p0[i]? = some (pc, q)) : decode cX6_init pc = .ok q := dt_get dX6_init_p0_ok i hi
def dtX6_ofArc_p0 : DT := [(0, .aload_n 0, 1), (1, .getfield 11, 3), (4, .aload_n 1, 1), (5, .getfield 19, 3), (8, .iload_n 2, 1), (9, .iaload, 1), (10, .aaload, 1), (11, .aload_n 1, 1), (12, .getfield 19, 3), (15, .iload_n 3, 1), (16, .iaload, 1), (17, .iaload, 1), (18, .aload_n 0, 1), (19, .getfield 16, 3), (22, .iload_n 2, 1), (23, .iload_n 3, 1), (24, .invokestatic 25, 3), (27, .aaload, 1), (28, .iload_n 2, 1), (29, .iload_n 3, 1), (30, .isub, 1), (31, .invokestatic 29, 3), (34, .iaload, 1), (35, .iadd, 1), (36, .ireturn, 1)]
set_option maxRecDepth 100000 in
theorem dX6_ofArc_p0_ok : (dtX6_ofArc_p0.all fun e => decide (decode cX6_ofArc e.1 = .ok e.2)) = true := by decide +kernel
theorem dX6_ofArc_p0 (i : Nat) {pc : Nat} {q : Instr × Nat} (hi : dtX6_ofArc_p0[i]? = some (pc, q)) : decode cX6_ofArc pc = .ok q := dt_get dX6_ofArc_p0_ok i hi
def dtX6_nudge_p0 : DT := [(0, .aload_n 0, 1), (1, .getfield 11, 3), (4, .aload_n 1, 1), (5, .getfield 19, 3), (8, .iload_n 2, 1), (9, .iaload, 1), (10, .aaload, 1), (11, .astore 5, 2), (13, .aload_n 1, 1), (14, .getfield 19, 3), (17, .iload_n 3, 1), (18, .iaload, 1), (19, .istore 6, 2), (21, .aload 5, 2), (23, .iload 6, 2), (25, .aload 5, 2), (27, .iload 6, 2), (29, .iaload, 1), (30, .iload 4, 2), (32, .iadd, 1), (33, .invokestatic 35, 3), (36, .iastore, 1), (37, .aload_n 0, 1), (38, .getfield 16, 3), (41, .iload_n 2, 1), (42, .iload_n 3, 1), (43, .invokestatic 25, 3), (46, .aaload, 1), (47, .astore 7, 2), (49, .iload_n 2, 1), (50, .iload_n 3, 1), (51, .isub, 1), (52, .invokestatic 29, 3), (55, .istore 8, 2), (57, .aload 7, 2), (59, .iload 8, 2), (61, .aload 7, 2), (63, .iload 8, 2), (65, .iaload, 1), (66, .iload 4, 2), (68, .iadd, 1), (69, .invokestatic 35, 3), (72, .iastore, 1), (73, .return_, 1)]
set_option maxRecDepth 100000 in
theorem dX6_nudge_p0_ok : (dtX6_nudge_p0.all fun e => decide (decode cX6_nudge e.1 = .ok e.2)) = true := by decide +kernel
theorem dX6_nudge_p0 (i : Nat) {pc : Nat} {q : Instr × Nat} (hi : dtX6_nudge_p0[i]? = some (pc, q)) : decode cX6_nudge pc = .ok q := dt_get dX6_nudge_p0_ok i hi
def dtX6_direction_p0 : DT := [(0, .iload_n 0, 1), (1, .iload_n 1, 1), (2, .if_icmp .ge 7, 3), (5, .iconst 0, 1), (6, .goto 4, 3), (9, .iconst 1, 1), (10, .ireturn, 1)]
set_option maxRecDepth 100000 in
theorem dX6_direction_p0_ok : (dtX6_direction_p0.all fun e => decide (decode cX6_direction e.1 = .ok e.2)) = true := by decide +kernel
theorem dX6_direction_p0 (i : Nat) {pc : Nat} {q : Instr × Nat} (hi : dtX6_direction_p0[i]? = some (pc, q)) : decode cX6_direction pc = .ok q := dt_get dX6_direction_p0_ok i hi
def dtX6_clamp_p0 : DT := [(0, .sipush (-999), 3), (3, .sipush 999, 3), (6, .iload_n 0, 1), (7, .invokestatic 38, 3), (10, .invokestatic 41, 3), (13, .ireturn, 1)]
set_option maxRecDepth 100000 in
theorem dX6_clamp_p0_ok : (dtX6_clamp_p0.all fun e => decide (decode cX6_clamp e.1 = .ok e.2)) = true := by decide +kernel
theorem dX6_clamp_p0 (i : Nat) {pc : Nat} {q : Instr × Nat} (hi : dtX6_clamp_p0[i]? = some (pc, q)) : decode cX6_clamp pc = .ok q := dt_get dX6_clamp_p0_ok i hi
def dtX6_copyFrom_p0 : DT := [(0, .iconst 0, 1), (1, .istore_n 2, 1), (2, .iload_n 2, 1), (3, .bipush 8, 2), (5, .if_icmp .gt 28, 3), (8, .aload_n 1, 1), (9, .getfield 11, 3), (12, .iload_n 2, 1), (13, .aaload, 1), (14, .iconst 0, 1), (15, .aload_n 0, 1), (16, .getfield 11, 3), (19, .iload_n 2, 1), (20, .aaload, 1), (21, .iconst 0, 1), (22, .bipush 8, 2), (24, .invokestatic 44, 3), (27, .iinc 2 1, 3), (30, .goto (-28), 3), (33, .iconst 0, 1), (34, .istore_n 2, 1), (35, .iload_n 2, 1), (36, .iconst 2, 1), (37, .if_icmp .ge 28, 3), (40, .aload_n 1, 1), (41, .getfield 16, 3), (44, .iload_n 2, 1), (45, .aaload, 1), (46, .iconst 0, 1), (47, .aload_n 0, 1), (48, .getfield 16, 3), (51, .iload_n 2, 1), (52, .aaload, 1), (53, .iconst 0, 1), (54, .bipush 7, 2), (56, .invokestatic 44, 3), (59, .iinc 2 1, 3), (62, .goto (-27), 3), (65, .return_, 1)]
set_option maxRecDepth 100000 in
theorem dX6_copyFrom_p0_ok : (dtX6_copyFrom_p0.all fun e => decide (decode cX6_copyFrom e.1 = .ok e.2)) = true := by decide +kernel
theorem dX6_copyFrom_p0 (i : Nat) {pc : Nat} {q : Instr × Nat} (hi : dtX6_copyFrom_p0[i]? = some (pc, q)) : decode cX6_copyFrom pc = .ok q := dt_get dX6_copyFrom_p0_ok i hi
def dtX6_countNonZero_p0 : DT := [(0, .iconst 0, 1), (1, .istore_n 1, 1), (2, .iconst 0, 1), (3, .istore_n 2, 1), (4, .iload_n 2, 1), (5, .bipush 8, 2), (7, .if_icmp .gt 42, 3), (10, .iconst 0, 1), (11, .istore_n 3, 1), (12, .iload_n 3, 1), (13, .bipush 8, 2), (15, .if_icmp .ge 28, 3), (18, .iload_n 1, 1), (19, .aload_n 0, 1), (20, .getfield 11, 3), (23, .iload_n 2, 1), (24, .aaload, 1), (25, .iload_n 3, 1), (26, .iaload, 1), (27, .ifCond .eq 7, 3), (30, .iconst 1, 1), (31, .goto 4, 3), (34, .iconst 0, 1), (35, .iadd, 1), (36, .istore_n 1, 1), (37, .iinc 3 1, 3), (40, .goto (-28), 3), (43, .iinc 2 1, 3), (46, .goto (-42), 3), (49, .iconst 0, 1), (50, .istore_n 2, 1), (51, .iload_n 2, 1), (52, .iconst 2, 1), (53, .if_icmp .ge 42, 3), (56, .iconst 1, 1), (57, .istore_n 3, 1), (58, .iload_n 3, 1), (59, .bipush 6, 2), (61, .if_icmp .gt 28, 3), (64, .iload_n 1, 1), (65, .aload_n 0, 1), (66, .getfield 16, 3), (69, .iload_n 2, 1), (70, .aaload, 1), (71, .iload_n 3, 1), (72, .iaload, 1), (73, .ifCond .eq 7, 3), (76, .iconst 1, 1), (77, .goto 4, 3), (80, .iconst 0, 1), (81, .iadd, 1), (82, .istore_n 1, 1), (83, .iinc 3 1, 3), (86, .goto (-28), 3), (89, .iinc 2 1, 3), (92, .goto (-41), 3), (95, .iload_n 1, 1), (96, .ireturn, 1)]
set_option maxRecDepth 100000 in
theorem dX6_countNonZero_p0_ok : (dtX6_countNonZero_p0.all fun e => decide (decode cX6_countNonZero e.1 = .ok e.2)) = true := by decide +kernel
theorem dX6_countNonZero_p0 (i : Nat) {pc : Nat} {q : Instr × Nat} (hi : dtX6_countNonZero_p0[i]? = some (pc, q)) : decode cX6_countNonZero pc = .ok q := dt_get dX6_countNonZero_p0_ok i hi
def dtX6_mixInto_p0 : DT := [(0, .lload_n 1, 1), (1, .lstore_n 3, 1), (2, .iconst 0, 1), (3, .istore 5, 2), (5, .iload 5, 2), (7, .bipush 8, 2), (9, .if_icmp .gt 41, 3), (12, .iconst 0, 1), (13, .istore 6, 2), (15, .iload 6, 2), (17, .bipush 8, 2), (19, .if_icmp .ge 25, 3), (22, .lload_n 3, 1), (23, .aload_n 0, 1), (24, .getfield 11, 3), (27, .iload 5, 2), (29, .aaload, 1), (30, .iload 6, 2), (32, .iaload, 1), (33, .i2l, 1), (34, .invokestatic 50, 3), (37, .lstore_n 3, 1), (38, .iinc 6 1, 3), (41, .goto (-26), 3), (44, .iinc 5 1, 3), (47, .goto (-42), 3), (50, .iconst 0, 1), (51, .istore 5, 2), (53, .iload 5, 2), (55, .iconst 2, 1), (56, .if_icmp .ge 41, 3), (59, .iconst 1, 1), (60, .istore 6, 2), (62, .iload 6, 2), (64, .bipush 6, 2), (66, .if_icmp .gt 25, 3), (69, .lload_n 3, 1), (70, .aload_n 0, 1), (71, .getfield 16, 3), (74, .iload 5, 2), (76, .aaload, 1), (77, .iload 6, 2), (79, .iaload, 1), (80, .i2l, 1), (81, .invokestatic 50, 3), (84, .lstore_n 3, 1), (85, .iinc 6 1, 3), (88, .goto (-26), 3), (91, .iinc 5 1, 3), (94, .goto (-41), 3), (97, .lload_n 3, 1), (98, .lreturn, 1)]
set_option maxRecDepth 100000 in
theorem dX6_mixInto_p0_ok : (dtX6_mixInto_p0.all fun e => decide (decode cX6_mixInto e.1 = .ok e.2)) = true := by decide +kernel
theorem dX6_mixInto_p0 (i : Nat) {pc : Nat} {q : Instr × Nat} (hi : dtX6_mixInto_p0[i]? = some (pc, q)) : decode cX6_mixInto pc = .ok q := dt_get dX6_mixInto_p0_ok i hi
def dtX7_init_p0 : DT := [(0, .aload_n 0, 1), (1, .invokespecial 3, 3), (4, .aload_n 0, 1), (5, .new 9, 3), (8, .dup, 1), (9, .invokespecial 11, 3), (12, .putfield 12, 3), (15, .aload_n 0, 1), (16, .iconst 4, 1), (17, .anewarray 16, 3), (20, .putfield 18, 3), (23, .iconst 0, 1), (24, .istore_n 1, 1), (25, .iload_n 1, 1), (26, .iconst 4, 1), (27, .if_icmp .ge 22, 3), (30, .aload_n 0, 1), (31, .getfield 18, 3), (34, .iload_n 1, 1), (35, .new 16, 3), (38, .dup, 1), (39, .invokespecial 22, 3), (42, .aastore, 1), (43, .iinc 1 1, 3), (46, .goto (-21), 3), (49, .aload_n 0, 1), (50, .iconst 0, 1), (51, .putfield 23, 3), (54, .aload_n 0, 1), (55, .new 27, 3), (58, .dup, 1), (59, .invokespecial 29, 3), (62, .putfield 30, 3), (65, .aload_n 0, 1), (66, .iconst 2, 1), (67, .anewarray 27, 3), (70, .putfield 34, 3), (73, .iconst 0, 1), (74, .istore_n 1, 1), (75, .iload_n 1, 1), (76, .iconst 2, 1), (77, .if_icmp .ge 22, 3), (80, .aload_n 0, 1), (81, .getfield 34, 3), (84, .iload_n 1, 1), (85, .new 27, 3), (88, .dup, 1), (89, .invokespecial 29, 3), (92, .aastore, 1), (93, .iinc 1 1, 3), (96, .goto (-21), 3), (99, .aload_n 0, 1), (100, .iconst 2, 1), (101, .newarray .boolean, 2), (103, .putfield 38, 3), (106, .aload_n 0, 1), (107, .new 42, 3), (110, .dup, 1), (111, .invokespecial 44, 3), (114, .putfield 45, 3), (117, .aload_n 0, 1), (118, .new 49, 3), (121, .dup, 1), (122, .aload_n 0, 1)]
set_option maxRecDepth 100000 in
theorem dX7_init_p0_ok : (dtX7_init_p0.all fun e => decide (decode cX7_init e.1 = .ok e.2)) = true := by decide +kernel
theorem dX7_init_p0 (i : Nat) {pc : Nat} {q : Instr × Nat} (hi : dtX7_init_p0[i]? = some (pc, q)) : decode cX7_init pc = .ok q := dt_get dX7_init_p0_ok i hi
def dtX7_init_p1 : DT := [(123, .getfield 45, 3), (126, .invokespecial 51, 3), (129, .putfield 54, 3), (132, .aload_n 0, 1), (133, .new 58, 3), (136, .dup, 1), (137, .aload_n 0, 1), (138, .getfield 45, 3), (141, .invokespecial 60, 3), (144, .putfield 61, 3), (147, .aload_n 0, 1), (148, .new 65, 3), (151, .dup, 1), (152, .invokespecial 67, 3), (155, .putfield 68, 3), (158, .return_, 1)]
set_option maxRecDepth 100000 in
theorem dX7_init_p1_ok : (dtX7_init_p1.all fun e => decide (decode cX7_init e.1 = .ok e.2)) = true := by decide +kernel
theorem dX7_init_p1 (i : Nat) {pc : Nat} {q : Instr × Nat} (hi : dtX7_init_p1[i]? = some (pc, q)) : decode cX7_init pc = .ok q := dt_get dX7_init_p1_ok i hi
def dtX7_append_p0 : DT := [(0, .iload_n 1, 1), (1, .ifCond .lt 9, 3), (4, .iload_n 1, 1), (5, .bipush 127, 2), (7, .if_icmp .le 6, 3), (10, .ldc 72, 2), (12, .ireturn, 1), (13, .aload_n 0, 1), (14, .getfield 12, 3), (17, .iload_n 1, 1), (18, .invokevirtual 73, 3), (21, .ifCond .eq 13, 3), (24, .aload_n 0, 1), (25, .getfield 12, 3), (28, .getfield 77, 3), (31, .goto 5, 3), (34, .ldc 80, 2), (36, .ireturn, 1)]
set_option maxRecDepth 100000 in
theorem dX7_append_p0_ok : (dtX7_append_p0.all fun e => decide (decode cX7_append e.1 = .ok e.2)) = true := by decide +kernel
theorem dX7_append_p0 (i : Nat) {pc : Nat} {q : Instr × Nat} (hi : dtX7_append_p0[i]? = some (pc, q)) : decode cX7_append pc = .ok q := dt_get dX7_append_p0_ok i hi
def dtX7_clearText_p0 : DT := [(0, .aload_n 0, 1), (1, .getfield 12, 3), (4, .getfield 77, 3), (7, .istore_n 1, 1), (8, .aload_n 0, 1), (9, .getfield 12, 3), (12, .iconst 0, 1), (13, .putfield 77, 3), (16, .iload_n 1, 1), (17, .ireturn, 1)]
set_option maxRecDepth 100000 in
theorem dX7_clearText_p0_ok : (dtX7_clearText_p0.all fun e => decide (decode cX7_clearText e.1 = .ok e.2)) = true := by decide +kernel
theorem dX7_clearText_p0 (i : Nat) {pc : Nat} {q : Instr × Nat} (hi : dtX7_clearText_p0[i]? = some (pc, q)) : decode cX7_clearText pc = .ok q := dt_get dX7_clearText_p0_ok i hi
def dtX7_faultPosition_p0 : DT := [(0, .aload_n 0, 1), (1, .getfield 12, 3), (4, .invokevirtual 81, 3), (7, .ireturn, 1)]
set_option maxRecDepth 100000 in
theorem dX7_faultPosition_p0_ok : (dtX7_faultPosition_p0.all fun e => decide (decode cX7_faultPosition e.1 = .ok e.2)) = true := by decide +kernel
theorem dX7_faultPosition_p0 (i : Nat) {pc : Nat} {q : Instr × Nat} (hi : dtX7_faultPosition_p0[i]? = some (pc, q)) : decode cX7_faultPosition pc = .ok q := dt_get dX7_faultPosition_p0_ok i hi
def dtX7_read_p0 : DT := [(0, .aload_n 0, 1), (1, .getfield 12, 3), (4, .invokevirtual 81, 3), (7, .ldc 85, 2), (9, .if_icmp .eq 6, 3), (12, .ldc 86, 2), (14, .ireturn, 1), (15, .aload_n 0, 1), (16, .getfield 23, 3), (19, .aload_n 0, 1), (20, .getfield 12, 3), (23, .invokevirtual 87, 3), (26, .iadd, 1), (27, .iconst 4, 1), (28, .if_icmp .le 6, 3), (31, .ldc 80, 2), (33, .ireturn, 1), (34, .iconst 0, 1), (35, .istore_n 1, 1), (36, .iload_n 1, 1), (37, .aload_n 0, 1), (38, .getfield 12, 3), (41, .getfield 77, 3), (44, .if_icmp .ge 87, 3), (47, .aload_n 0, 1), (48, .getfield 23, 3), (51, .iconst 4, 1), (52, .if_icmp .ge 79, 3), (55, .aload_n 0, 1), (56, .getfield 12, 3), (59, .getfield 90, 3), (62, .iload_n 1, 1), (63, .iaload, 1), (64, .istore_n 2, 1), (65, .iload_n 2, 1), (66, .bipush 59, 2), (68, .if_icmp .ne 16, 3), (71, .aload_n 0, 1), (72, .dup, 1), (73, .getfield 23, 3), (76, .iconst 1, 1), (77, .iadd, 1), (78, .putfield 23, 3), (81, .goto 44, 3), (84, .iload_n 1, 1), (85, .ifCond .le 40, 3), (88, .iload_n 2, 1), (89, .invokestatic 94, 3), (92, .ifCond .eq 33, 3), (95, .aload_n 0, 1), (96, .getfield 18, 3), (99, .aload_n 0, 1), (100, .getfield 23, 3), (103, .aaload, 1), (104, .aload_n 0, 1), (105, .getfield 12, 3), (108, .getfield 90, 3), (111, .iload_n 1, 1), (112, .iconst 1, 1), (113, .isub, 1), (114, .iaload, 1), (115, .bipush 65, 2), (117, .isub, 1), (118, .iload_n 2, 1)]
set_option maxRecDepth 100000 in
theorem dX7_read_p0_ok : (dtX7_read_p0.all fun e => decide (decode cX7_read e.1 = .ok e.2)) = true := by decide +kernel
theorem dX7_read_p0 (i : Nat) {pc : Nat} {q : Instr × Nat} (hi : dtX7_read_p0[i]? = some (pc, q)) : decode cX7_read pc = .ok q := dt_get dX7_read_p0_ok i hi
def dtX7_read_p1 : DT := [(119, .bipush 48, 2), (121, .isub, 1), (122, .invokevirtual 97, 3), (125, .iinc 1 1, 3), (128, .goto (-92), 3), (131, .aload_n 0, 1), (132, .getfield 23, 3), (135, .ireturn, 1)]
set_option maxRecDepth 100000 in
theorem dX7_read_p1_ok : (dtX7_read_p1.all fun e => decide (decode cX7_read e.1 = .ok e.2)) = true := by decide +kernel
theorem dX7_read_p1 (i : Nat) {pc : Nat} {q : Instr × Nat} (hi : dtX7_read_p1[i]? = some (pc, q)) : decode cX7_read pc = .ok q := dt_get dX7_read_p1_ok i hi
def dtX7_remove_p0 : DT := [(0, .aload_n 0, 1), (1, .iload_n 1, 1), (2, .invokevirtual 101, 3), (5, .astore_n 2, 1), (6, .aload_n 2, 1), (7, .ifnonnull 6, 3), (10, .ldc 105, 2), (12, .ireturn, 1), (13, .aload_n 0, 1), (14, .dup, 1), (15, .getfield 23, 3), (18, .iconst 1, 1), (19, .isub, 1), (20, .putfield 23, 3), (23, .iload_n 1, 1), (24, .istore_n 3, 1), (25, .iload_n 3, 1), (26, .aload_n 0, 1), (27, .getfield 23, 3), (30, .if_icmp .ge 23, 3), (33, .aload_n 0, 1), (34, .getfield 18, 3), (37, .iload_n 3, 1), (38, .aload_n 0, 1), (39, .getfield 18, 3), (42, .iload_n 3, 1), (43, .iconst 1, 1), (44, .iadd, 1), (45, .aaload, 1), (46, .aastore, 1), (47, .iinc 3 1, 3), (50, .goto (-25), 3), (53, .aload_n 2, 1), (54, .invokevirtual 106, 3), (57, .aload_n 0, 1), (58, .getfield 18, 3), (61, .aload_n 0, 1), (62, .getfield 23, 3), (65, .aload_n 2, 1), (66, .aastore, 1), (67, .aload_n 0, 1), (68, .getfield 23, 3), (71, .ireturn, 1)]
set_option maxRecDepth 100000 in
theorem dX7_remove_p0_ok : (dtX7_remove_p0.all fun e => decide (decode cX7_remove e.1 = .ok e.2)) = true := by decide +kernel
theorem dX7_remove_p0 (i : Nat) {pc : Nat} {q : Instr × Nat} (hi : dtX7_remove_p0[i]? = some (pc, q)) : decode cX7_remove pc = .ok q := dt_get dX7_remove_p0_ok i hi
def dtX7_sentences_p0 : DT := [(0, .aload_n 0, 1), (1, .getfield 23, 3), (4, .ireturn, 1)]
set_option maxRecDepth 100000 in
theorem dX7_sentences_p0_ok : (dtX7_sentences_p0.all fun e => decide (decode cX7_sentences e.1 = .ok e.2)) = true := by decide +kernel
theorem dX7_sentences_p0 (i : Nat) {pc : Nat} {q : Instr × Nat} (hi : dtX7_sentences_p0[i]? = some (pc, q)) : decode cX7_sentences pc = .ok q := dt_get dX7_sentences_p0_ok i hi
def dtX7_words_p0 : DT := [(0, .aload_n 0, 1), (1, .iload_n 1, 1), (2, .invokevirtual 101, 3), (5, .astore_n 2, 1), (6, .aload_n 2, 1), (7, .ifnonnull 8, 3), (10, .ldc 105, 2), (12, .goto 7, 3), (15, .aload_n 2, 1), (16, .getfield 109, 3), (19, .ireturn, 1)]
set_option maxRecDepth 100000 in
theorem dX7_words_p0_ok : (dtX7_words_p0.all fun e => decide (decode cX7_words e.1 = .ok e.2)) = true := by decide +kernel
theorem dX7_words_p0 (i : Nat) {pc : Nat} {q : Instr × Nat} (hi : dtX7_words_p0[i]? = some (pc, q)) : decode cX7_words pc = .ok q := dt_get dX7_words_p0_ok i hi
def dtX7_tag_p0 : DT := [(0, .aload_n 0, 1), (1, .iload_n 1, 1), (2, .invokevirtual 101, 3), (5, .astore_n 3, 1), (6, .aload_n 3, 1), (7, .ifnull 11, 3), (10, .aload_n 3, 1), (11, .iload_n 2, 1), (12, .invokevirtual 112, 3), (15, .ifCond .ne 8, 3), (18, .ldc 105, 2), (20, .goto 9, 3), (23, .aload_n 3, 1), (24, .getfield 115, 3), (27, .iload_n 2, 1), (28, .iaload, 1), (29, .ireturn, 1)]
set_option maxRecDepth 100000 in
theorem dX7_tag_p0_ok : (dtX7_tag_p0.all fun e => decide (decode cX7_tag e.1 = .ok e.2)) = true := by decide +kernel
theorem dX7_tag_p0 (i : Nat) {pc : Nat} {q : Instr × Nat} (hi : dtX7_tag_p0[i]? = some (pc, q)) : decode cX7_tag pc = .ok q := dt_get dX7_tag_p0_ok i hi
def dtX7_annotatedHead_p0 : DT := [(0, .aload_n 0, 1), (1, .iload_n 1, 1), (2, .invokevirtual 101, 3), (5, .astore_n 3, 1), (6, .aload_n 3, 1), (7, .ifnull 11, 3), (10, .aload_n 3, 1), (11, .iload_n 2, 1), (12, .invokevirtual 112, 3), (15, .ifCond .ne 8, 3), (18, .ldc 105, 2), (20, .goto 9, 3), (23, .aload_n 3, 1), (24, .getfield 118, 3), (27, .iload_n 2, 1), (28, .iaload, 1), (29, .ireturn, 1)]
set_option maxRecDepth 100000 in
theorem dX7_annotatedHead_p0_ok : (dtX7_annotatedHead_p0.all fun e => decide (decode cX7_annotatedHead e.1 = .ok e.2)) = true := by decide +kernel
theorem dX7_annotatedHead_p0 (i : Nat) {pc : Nat} {q : Instr × Nat} (hi : dtX7_annotatedHead_p0[i]? = some (pc, q)) : decode cX7_annotatedHead pc = .ok q := dt_get dX7_annotatedHead_p0_ok i hi
def dtX7_annotate_p0 : DT := [(0, .aload_n 0, 1), (1, .iload_n 1, 1), (2, .invokevirtual 101, 3), (5, .astore 4, 2), (7, .aload 4, 2), (9, .ifnull 13, 3), (12, .aload 4, 2), (14, .iload_n 3, 1), (15, .iload_n 2, 1), (16, .invokevirtual 121, 3), (19, .ifCond .ne 6, 3), (22, .ldc 105, 2), (24, .ireturn, 1), (25, .aload 4, 2), (27, .getfield 118, 3), (30, .iload_n 2, 1), (31, .iaload, 1), (32, .istore 5, 2), (34, .aload 4, 2), (36, .getfield 118, 3), (39, .iload_n 2, 1), (40, .iload_n 3, 1), (41, .iastore, 1), (42, .aload 4, 2), (44, .getfield 118, 3), (47, .aload 4, 2), (49, .getfield 109, 3), (52, .invokestatic 125, 3), (55, .ifCond .ne 15, 3), (58, .aload 4, 2), (60, .getfield 118, 3), (63, .iload_n 2, 1), (64, .iload 5, 2), (66, .iastore, 1), (67, .ldc 72, 2), (69, .ireturn, 1), (70, .iload 5, 2), (72, .ireturn, 1)]
set_option maxRecDepth 100000 in
theorem dX7_annotate_p0_ok : (dtX7_annotate_p0.all fun e => decide (decode cX7_annotate e.1 = .ok e.2)) = true := by decide +kernel
theorem dX7_annotate_p0 (i : Nat) {pc : Nat} {q : Instr × Nat} (hi : dtX7_annotate_p0[i]? = some (pc, q)) : decode cX7_annotate pc = .ok q := dt_get dX7_annotate_p0_ok i hi
def dtX7_acceptBest_p0 : DT := [(0, .aload_n 0, 1), (1, .iload_n 1, 1), (2, .invokevirtual 101, 3), (5, .astore_n 2, 1), (6, .aload_n 2, 1), (7, .ifnonnull 6, 3), (10, .ldc 105, 2), (12, .ireturn, 1), (13, .aload_n 0, 1), (14, .aload_n 2, 1), (15, .iconst 1, 1), (16, .invokevirtual 129, 3), (19, .aload_n 0, 1), (20, .getfield 54, 3), (23, .getfield 133, 3), (26, .ifCond .ne 6, 3), (29, .ldc 85, 2), (31, .ireturn, 1), (32, .aload_n 2, 1), (33, .getfield 109, 3), (36, .aload_n 0, 1), (37, .aload_n 2, 1), (38, .invokevirtual 136, 3), (41, .isub, 1), (42, .istore_n 3, 1), (43, .iconst 1, 1), (44, .istore 4, 2), (46, .iload 4, 2), (48, .aload_n 2, 1), (49, .getfield 109, 3), (52, .if_icmp .gt 26, 3), (55, .aload_n 2, 1), (56, .getfield 118, 3), (59, .iload 4, 2), (61, .aload_n 0, 1), (62, .getfield 54, 3), (65, .iconst 0, 1), (66, .iload 4, 2), (68, .invokevirtual 140, 3), (71, .iastore, 1), (72, .iinc 4 1, 3), (75, .goto (-29), 3), (78, .iload_n 3, 1), (79, .ireturn, 1)]
set_option maxRecDepth 100000 in
theorem dX7_acceptBest_p0_ok : (dtX7_acceptBest_p0.all fun e => decide (decode cX7_acceptBest e.1 = .ok e.2)) = true := by decide +kernel
theorem dX7_acceptBest_p0 (i : Nat) {pc : Nat} {q : Instr × Nat} (hi : dtX7_acceptBest_p0[i]? = some (pc, q)) : decode cX7_acceptBest pc = .ok q := dt_get dX7_acceptBest_p0_ok i hi
def dtX7_setTagWeight_p0 : DT := [(0, .iload_n 1, 1), (1, .iload_n 2, 1), (2, .invokestatic 144, 3), (5, .ifCond .ne 6, 3), (8, .ldc 105, 2), (10, .ireturn, 1), (11, .iload_n 3, 1), (12, .bipush 99, 2), (14, .invokestatic 147, 3), (17, .ifCond .ne 6, 3), (20, .ldc 72, 2), (22, .ireturn, 1), (23, .aload_n 0, 1), (24, .getfield 30, 3), (27, .getfield 150, 3), (30, .iload_n 1, 1), (31, .aaload, 1), (32, .iload_n 2, 1), (33, .iaload, 1), (34, .istore 4, 2), (36, .aload_n 0, 1), (37, .getfield 30, 3), (40, .getfield 150, 3), (43, .iload_n 1, 1), (44, .aaload, 1), (45, .iload_n 2, 1), (46, .iload_n 3, 1), (47, .iastore, 1), (48, .iload 4, 2), (50, .ireturn, 1)]
set_option maxRecDepth 100000 in
theorem dX7_setTagWeight_p0_ok : (dtX7_setTagWeight_p0.all fun e => decide (decode cX7_setTagWeight e.1 = .ok e.2)) = true := by decide +kernel
theorem dX7_setTagWeight_p0 (i : Nat) {pc : Nat} {q : Instr × Nat} (hi : dtX7_setTagWeight_p0[i]? = some (pc, q)) : decode cX7_setTagWeight pc = .ok q := dt_get dX7_setTagWeight_p0_ok i hi
def dtX7_setDistanceWeight_p0 : DT := [(0, .iload_n 1, 1), (1, .iload_n 2, 1), (2, .invokestatic 154, 3), (5, .ifCond .ne 6, 3), (8, .ldc 105, 2), (10, .ireturn, 1), (11, .iload_n 3, 1), (12, .bipush 99, 2), (14, .invokestatic 147, 3), (17, .ifCond .ne 6, 3), (20, .ldc 72, 2), (22, .ireturn, 1), (23, .aload_n 0, 1), (24, .getfield 30, 3), (27, .getfield 157, 3), (30, .iload_n 1, 1), (31, .aaload, 1), (32, .iload_n 2, 1), (33, .iaload, 1), (34, .istore 4, 2), (36, .aload_n 0, 1), (37, .getfield 30, 3), (40, .getfield 157, 3), (43, .iload_n 1, 1), (44, .aaload, 1), (45, .iload_n 2, 1), (46, .iload_n 3, 1), (47, .iastore, 1), (48, .iload 4, 2), (50, .ireturn, 1)]
set_option maxRecDepth 100000 in
theorem dX7_setDistanceWeight_p0_ok : (dtX7_setDistanceWeight_p0.all fun e => decide (decode cX7_setDistanceWeight e.1 = .ok e.2)) = true := by decide +kernel
theorem dX7_setDistanceWeight_p0 (i : Nat) {pc : Nat} {q : Instr × Nat} (hi : dtX7_setDistanceWeight_p0[i]? = some (pc, q)) : decode cX7_setDistanceWeight pc = .ok q := dt_get dX7_setDistanceWeight_p0_ok i hi
def dtX7_setBias_p0 : DT := [(0, .aload_n 0, 1), (1, .iload_n 1, 1), (2, .invokevirtual 101, 3), (5, .astore 5, 2), (7, .aload 5, 2), (9, .ifnull 13, 3), (12, .aload 5, 2), (14, .iload_n 2, 1), (15, .iload_n 3, 1), (16, .invokevirtual 121, 3), (19, .ifCond .ne 6, 3), (22, .ldc 105, 2), (24, .ireturn, 1), (25, .iload 4, 2), (27, .bipush 99, 2), (29, .invokestatic 147, 3), (32, .ifCond .ne 6, 3), (35, .ldc 72, 2), (37, .ireturn, 1), (38, .aload 5, 2), (40, .getfield 160, 3), (43, .iload_n 2, 1), (44, .aaload, 1), (45, .iload_n 3, 1), (46, .iaload, 1), (47, .istore 6, 2), (49, .aload 5, 2), (51, .getfield 160, 3), (54, .iload_n 2, 1), (55, .aaload, 1), (56, .iload_n 3, 1), (57, .iload 4, 2), (59, .iastore, 1), (60, .iload 6, 2), (62, .ireturn, 1)]
set_option maxRecDepth 100000 in
theorem dX7_setBias_p0_ok : (dtX7_setBias_p0.all fun e => decide (decode cX7_setBias e.1 = .ok e.2)) = true := by decide +kernel
theorem dX7_setBias_p0 (i : Nat) {pc : Nat} {q : Instr × Nat} (hi : dtX7_setBias_p0[i]? = some (pc, q)) : decode cX7_setBias pc = .ok q := dt_get dX7_setBias_p0_ok i hi
def dtX7_constrain_p0 : DT := [(0, .aload_n 0, 1), (1, .iload_n 1, 1), (2, .invokevirtual 101, 3), (5, .astore 5, 2), (7, .aload 5, 2), (9, .ifnull 13, 3), (12, .aload 5, 2), (14, .iload_n 2, 1), (15, .iload_n 3, 1), (16, .invokevirtual 121, 3), (19, .ifCond .ne 6, 3), (22, .ldc 105, 2), (24, .ireturn, 1), (25, .iload 4, 2), (27, .ifCond .lt 9, 3), (30, .iload 4, 2), (32, .iconst 2, 1), (33, .if_icmp .le 6, 3), (36, .ldc 72, 2), (38, .ireturn, 1), (39, .aload 5, 2), (41, .getfield 163, 3), (44, .iload_n 2, 1), (45, .aaload, 1), (46, .iload_n 3, 1), (47, .iaload, 1), (48, .istore 6, 2), (50, .aload 5, 2), (52, .getfield 163, 3), (55, .iload_n 2, 1), (56, .aaload, 1), (57, .iload_n 3, 1), (58, .iload 4, 2), (60, .iastore, 1), (61, .iload 6, 2), (63, .ireturn, 1)]
set_option maxRecDepth 100000 in
theorem dX7_constrain_p0_ok : (dtX7_constrain_p0.all fun e => decide (decode cX7_constrain e.1 = .ok e.2)) = true := by decide +kernel
theorem dX7_constrain_p0 (i : Nat) {pc : Nat} {q : Instr × Nat} (hi : dtX7_constrain_p0[i]? = some (pc, q)) : decode cX7_constrain pc = .ok q := dt_get dX7_constrain_p0_ok i hi
def dtX7_setSingleRoot_p0 : DT := [(0, .aload_n 0, 1), (1, .getfield 45, 3), (4, .getfield 166, 3), (7, .ifCond .eq 7, 3), (10, .iconst 1, 1), (11, .goto 4, 3), (14, .iconst 0, 1), (15, .istore_n 2, 1), (16, .aload_n 0, 1), (17, .getfield 45, 3), (20, .iload_n 1, 1), (21, .putfield 166, 3), (24, .iload_n 2, 1), (25, .ireturn, 1)]
set_option maxRecDepth 100000 in
theorem dX7_setSingleRoot_p0_ok : (dtX7_setSingleRoot_p0.all fun e => decide (decode cX7_setSingleRoot e.1 = .ok e.2)) = true := by decide +kernel
theorem dX7_setSingleRoot_p0 (i : Nat) {pc : Nat} {q : Instr × Nat} (hi : dtX7_setSingleRoot_p0[i]? = some (pc, q)) : decode cX7_setSingleRoot pc = .ok q := dt_get dX7_setSingleRoot_p0_ok i hi
def dtX7_setProjective_p0 : DT := [(0, .aload_n 0, 1), (1, .getfield 45, 3), (4, .getfield 170, 3), (7, .ifCond .eq 7, 3), (10, .iconst 1, 1), (11, .goto 4, 3), (14, .iconst 0, 1), (15, .istore_n 2, 1), (16, .aload_n 0, 1), (17, .getfield 45, 3), (20, .iload_n 1, 1), (21, .putfield 170, 3), (24, .iload_n 2, 1), (25, .ireturn, 1)]
set_option maxRecDepth 100000 in
theorem dX7_setProjective_p0_ok : (dtX7_setProjective_p0.all fun e => decide (decode cX7_setProjective e.1 = .ok e.2)) = true := by decide +kernel
theorem dX7_setProjective_p0 (i : Nat) {pc : Nat} {q : Instr × Nat} (hi : dtX7_setProjective_p0[i]? = some (pc, q)) : decode cX7_setProjective pc = .ok q := dt_get dX7_setProjective_p0_ok i hi
def dtX7_setShift_p0 : DT := [(0, .iload_n 1, 1), (1, .bipush 100, 2), (3, .invokestatic 147, 3), (6, .ifCond .ne 6, 3), (9, .ldc 72, 2), (11, .ireturn, 1), (12, .aload_n 0, 1), (13, .getfield 45, 3), (16, .getfield 173, 3), (19, .istore_n 2, 1), (20, .aload_n 0, 1), (21, .getfield 45, 3), (24, .iload_n 1, 1), (25, .putfield 173, 3), (28, .iload_n 2, 1), (29, .ireturn, 1)]
set_option maxRecDepth 100000 in
theorem dX7_setShift_p0_ok : (dtX7_setShift_p0.all fun e => decide (decode cX7_setShift e.1 = .ok e.2)) = true := by decide +kernel
theorem dX7_setShift_p0 (i : Nat) {pc : Nat} {q : Instr × Nat} (hi : dtX7_setShift_p0[i]? = some (pc, q)) : decode cX7_setShift pc = .ok q := dt_get dX7_setShift_p0_ok i hi
def dtX7_tagWeight_p0 : DT := [(0, .iload_n 1, 1), (1, .iload_n 2, 1), (2, .invokestatic 144, 3), (5, .ifCond .eq 17, 3), (8, .aload_n 0, 1), (9, .getfield 30, 3), (12, .getfield 150, 3), (15, .iload_n 1, 1), (16, .aaload, 1), (17, .iload_n 2, 1), (18, .iaload, 1), (19, .goto 5, 3), (22, .ldc 105, 2), (24, .ireturn, 1)]
set_option maxRecDepth 100000 in
theorem dX7_tagWeight_p0_ok : (dtX7_tagWeight_p0.all fun e => decide (decode cX7_tagWeight e.1 = .ok e.2)) = true := by decide +kernel
theorem dX7_tagWeight_p0 (i : Nat) {pc : Nat} {q : Instr × Nat} (hi : dtX7_tagWeight_p0[i]? = some (pc, q)) : decode cX7_tagWeight pc = .ok q := dt_get dX7_tagWeight_p0_ok i hi
def dtX7_distanceWeight_p0 : DT := [(0, .iload_n 1, 1), (1, .iload_n 2, 1), (2, .invokestatic 154, 3), (5, .ifCond .eq 17, 3), (8, .aload_n 0, 1), (9, .getfield 30, 3), (12, .getfield 157, 3), (15, .iload_n 1, 1), (16, .aaload, 1), (17, .iload_n 2, 1), (18, .iaload, 1), (19, .goto 5, 3), (22, .ldc 105, 2), (24, .ireturn, 1)]
set_option maxRecDepth 100000 in
theorem dX7_distanceWeight_p0_ok : (dtX7_distanceWeight_p0.all fun e => decide (decode cX7_distanceWeight e.1 = .ok e.2)) = true := by decide +kernel
theorem dX7_distanceWeight_p0 (i : Nat) {pc : Nat} {q : Instr × Nat} (hi : dtX7_distanceWeight_p0[i]? = some (pc, q)) : decode cX7_distanceWeight pc = .ok q := dt_get dX7_distanceWeight_p0_ok i hi
def dtX7_score_p0 : DT := [(0, .aload_n 0, 1), (1, .iload_n 1, 1), (2, .invokevirtual 101, 3), (5, .astore 4, 2), (7, .aload 4, 2), (9, .ifnull 13, 3), (12, .aload 4, 2), (14, .iload_n 2, 1), (15, .iload_n 3, 1), (16, .invokevirtual 121, 3), (19, .ifCond .ne 8, 3), (22, .ldc 105, 2), (24, .goto 11, 3), (27, .aload_n 0, 1), (28, .aload 4, 2), (30, .iload_n 2, 1), (31, .iload_n 3, 1), (32, .invokevirtual 176, 3), (35, .ireturn, 1)]
set_option maxRecDepth 100000 in
theorem dX7_score_p0_ok : (dtX7_score_p0.all fun e => decide (decode cX7_score e.1 = .ok e.2)) = true := by decide +kernel
theorem dX7_score_p0 (i : Nat) {pc : Nat} {q : Instr × Nat} (hi : dtX7_score_p0[i]? = some (pc, q)) : decode cX7_score pc = .ok q := dt_get dX7_score_p0_ok i hi
def dtX7_bestScore_p0 : DT := [(0, .aload_n 0, 1), (1, .iload_n 1, 1), (2, .invokevirtual 101, 3), (5, .astore_n 2, 1), (6, .aload_n 2, 1), (7, .ifnonnull 6, 3), (10, .ldc 105, 2), (12, .ireturn, 1), (13, .aload_n 0, 1), (14, .aload_n 2, 1), (15, .iconst 1, 1), (16, .invokevirtual 129, 3), (19, .aload_n 0, 1), (20, .getfield 54, 3), (23, .getfield 133, 3), (26, .ifCond .ne 8, 3), (29, .ldc 85, 2), (31, .goto 11, 3), (34, .aload_n 0, 1), (35, .getfield 54, 3), (38, .iconst 0, 1), (39, .invokevirtual 180, 3), (42, .ireturn, 1)]
set_option maxRecDepth 100000 in
theorem dX7_bestScore_p0_ok : (dtX7_bestScore_p0.all fun e => decide (decode cX7_bestScore e.1 = .ok e.2)) = true := by decide +kernel
theorem dX7_bestScore_p0 (i : Nat) {pc : Nat} {q : Instr × Nat} (hi : dtX7_bestScore_p0[i]? = some (pc, q)) : decode cX7_bestScore pc = .ok q := dt_get dX7_bestScore_p0_ok i hi
def dtX7_bestHead_p0 : DT := [(0, .aload_n 0, 1), (1, .iload_n 1, 1), (2, .invokevirtual 101, 3), (5, .astore_n 3, 1), (6, .aload_n 3, 1), (7, .ifnull 11, 3), (10, .aload_n 3, 1), (11, .iload_n 2, 1), (12, .invokevirtual 112, 3), (15, .ifCond .ne 6, 3), (18, .ldc 105, 2), (20, .ireturn, 1), (21, .aload_n 0, 1), (22, .aload_n 3, 1), (23, .iconst 1, 1), (24, .invokevirtual 129, 3), (27, .aload_n 0, 1), (28, .getfield 54, 3), (31, .getfield 133, 3), (34, .ifCond .ne 8, 3), (37, .ldc 85, 2), (39, .goto 12, 3), (42, .aload_n 0, 1), (43, .getfield 54, 3), (46, .iconst 0, 1), (47, .iload_n 2, 1), (48, .invokevirtual 140, 3), (51, .ireturn, 1)]
set_option maxRecDepth 100000 in
theorem dX7_bestHead_p0_ok : (dtX7_bestHead_p0.all fun e => decide (decode cX7_bestHead e.1 = .ok e.2)) = true := by decide +kernel
theorem dX7_bestHead_p0 (i : Nat) {pc : Nat} {q : Instr × Nat} (hi : dtX7_bestHead_p0[i]? = some (pc, q)) : decode cX7_bestHead pc = .ok q := dt_get dX7_bestHead_p0_ok i hi
def dtX7_rankedScore_p0 : DT := [(0, .aload_n 0, 1), (1, .iload_n 1, 1), (2, .invokevirtual 101, 3), (5, .astore_n 3, 1), (6, .aload_n 3, 1), (7, .ifnonnull 6, 3), (10, .ldc 105, 2), (12, .ireturn, 1), (13, .iload_n 2, 1), (14, .ifCond .lt 9, 3), (17, .iload_n 2, 1), (18, .bipush 6, 2), (20, .if_icmp .lt 6, 3), (23, .ldc 72, 2), (25, .ireturn, 1), (26, .aload_n 0, 1), (27, .aload_n 3, 1), (28, .iload_n 2, 1), (29, .iconst 1, 1), (30, .iadd, 1), (31, .invokevirtual 129, 3), (34, .iload_n 2, 1), (35, .aload_n 0, 1), (36, .getfield 54, 3), (39, .getfield 133, 3), (42, .if_icmp .ge 14, 3), (45, .aload_n 0, 1), (46, .getfield 54, 3), (49, .iload_n 2, 1), (50, .invokevirtual 180, 3), (53, .goto 5, 3), (56, .ldc 85, 2), (58, .ireturn, 1)]
set_option maxRecDepth 100000 in
theorem dX7_rankedScore_p0_ok : (dtX7_rankedScore_p0.all fun e => decide (decode cX7_rankedScore e.1 = .ok e.2)) = true := by decide +kernel
theorem dX7_rankedScore_p0 (i : Nat) {pc : Nat} {q : Instr × Nat} (hi : dtX7_rankedScore_p0[i]? = some (pc, q)) : decode cX7_rankedScore pc = .ok q := dt_get dX7_rankedScore_p0_ok i hi
def dtX7_rankedHead_p0 : DT := [(0, .aload_n 0, 1), (1, .iload_n 1, 1), (2, .invokevirtual 101, 3), (5, .astore 4, 2), (7, .aload 4, 2), (9, .ifnull 12, 3), (12, .aload 4, 2), (14, .iload_n 3, 1), (15, .invokevirtual 112, 3), (18, .ifCond .ne 6, 3), (21, .ldc 105, 2), (23, .ireturn, 1), (24, .iload_n 2, 1), (25, .ifCond .lt 9, 3), (28, .iload_n 2, 1), (29, .bipush 6, 2), (31, .if_icmp .lt 6, 3), (34, .ldc 72, 2), (36, .ireturn, 1), (37, .aload_n 0, 1), (38, .aload 4, 2), (40, .iload_n 2, 1), (41, .iconst 1, 1), (42, .iadd, 1), (43, .invokevirtual 129, 3), (46, .iload_n 2, 1), (47, .aload_n 0, 1), (48, .getfield 54, 3), (51, .getfield 133, 3), (54, .if_icmp .ge 15, 3), (57, .aload_n 0, 1), (58, .getfield 54, 3), (61, .iload_n 2, 1), (62, .iload_n 3, 1), (63, .invokevirtual 140, 3), (66, .goto 5, 3), (69, .ldc 85, 2), (71, .ireturn, 1)]
set_option maxRecDepth 100000 in
theorem dX7_rankedHead_p0_ok : (dtX7_rankedHead_p0.all fun e => decide (decode cX7_rankedHead e.1 = .ok e.2)) = true := by decide +kernel
theorem dX7_rankedHead_p0 (i : Nat) {pc : Nat} {q : Instr × Nat} (hi : dtX7_rankedHead_p0[i]? = some (pc, q)) : decode cX7_rankedHead pc = .ok q := dt_get dX7_rankedHead_p0_ok i hi
def dtX7_regret_p0 : DT := [(0, .aload_n 0, 1), (1, .iload_n 1, 1), (2, .invokevirtual 101, 3), (5, .astore 4, 2), (7, .aload 4, 2), (9, .ifnull 13, 3), (12, .aload 4, 2), (14, .iload_n 2, 1), (15, .iload_n 3, 1), (16, .invokevirtual 121, 3), (19, .ifCond .ne 6, 3), (22, .ldc 105, 2), (24, .ireturn, 1), (25, .aload_n 0, 1), (26, .aload 4, 2), (28, .iconst 1, 1), (29, .invokevirtual 129, 3), (32, .aload_n 0, 1), (33, .getfield 54, 3), (36, .getfield 133, 3), (39, .ifCond .ne 6, 3), (42, .ldc 85, 2), (44, .ireturn, 1), (45, .aload_n 0, 1), (46, .getfield 54, 3), (49, .iconst 0, 1), (50, .invokevirtual 180, 3), (53, .istore 5, 2), (55, .aload_n 0, 1), (56, .getfield 54, 3), (59, .iload_n 2, 1), (60, .iload_n 3, 1), (61, .invokevirtual 184, 3), (64, .aload_n 0, 1), (65, .getfield 54, 3), (68, .iconst 1, 1), (69, .invokevirtual 187, 3), (72, .aload_n 0, 1), (73, .getfield 54, 3), (76, .getfield 133, 3), (79, .ifCond .ne 8, 3), (82, .ldc 85, 2), (84, .goto 14, 3), (87, .iload 5, 2), (89, .aload_n 0, 1), (90, .getfield 54, 3), (93, .iconst 0, 1), (94, .invokevirtual 180, 3), (97, .isub, 1), (98, .ireturn, 1)]
set_option maxRecDepth 100000 in
theorem dX7_regret_p0_ok : (dtX7_regret_p0.all fun e => decide (decode cX7_regret e.1 = .ok e.2)) = true := by decide +kernel
theorem dX7_regret_p0 (i : Nat) {pc : Nat} {q : Instr × Nat} (hi : dtX7_regret_p0[i]? = some (pc, q)) : decode cX7_regret pc = .ok q := dt_get dX7_regret_p0_ok i hi
def dtX7_margin_p0 : DT := [(0, .aload_n 0, 1), (1, .iload_n 1, 1), (2, .invokevirtual 101, 3), (5, .astore_n 2, 1), (6, .aload_n 2, 1), (7, .ifnonnull 6, 3), (10, .ldc 105, 2), (12, .ireturn, 1), (13, .aload_n 0, 1), (14, .aload_n 2, 1), (15, .iconst 2, 1), (16, .invokevirtual 129, 3), (19, .aload_n 0, 1), (20, .getfield 54, 3), (23, .getfield 133, 3), (26, .ifCond .le 19, 3), (29, .aload_n 0, 1), (30, .aload_n 2, 1), (31, .invokevirtual 136, 3), (34, .aload_n 2, 1), (35, .getfield 109, 3), (38, .if_icmp .ne 7, 3), (41, .iconst 1, 1), (42, .goto 4, 3), (45, .iconst 0, 1), (46, .istore_n 3, 1), (47, .iload_n 3, 1), (48, .ifCond .eq 7, 3), (51, .iconst 1, 1), (52, .goto 4, 3), (55, .iconst 0, 1), (56, .istore 4, 2), (58, .iload 4, 2), (60, .aload_n 0, 1), (61, .getfield 54, 3), (64, .getfield 133, 3), (67, .if_icmp .ge 21, 3), (70, .aload_n 0, 1), (71, .aload_n 2, 1), (72, .invokevirtual 191, 3), (75, .aload_n 0, 1), (76, .getfield 54, 3), (79, .iload 4, 2), (81, .invokevirtual 180, 3), (84, .isub, 1), (85, .goto 5, 3), (88, .ldc 85, 2), (90, .ireturn, 1)]
set_option maxRecDepth 100000 in
theorem dX7_margin_p0_ok : (dtX7_margin_p0.all fun e => decide (decode cX7_margin e.1 = .ok e.2)) = true := by decide +kernel
theorem dX7_margin_p0 (i : Nat) {pc : Nat} {q : Instr × Nat} (hi : dtX7_margin_p0[i]? = some (pc, q)) : decode cX7_margin pc = .ok q := dt_get dX7_margin_p0_ok i hi
def dtX7_correct_p0 : DT := [(0, .aload_n 0, 1), (1, .iload_n 1, 1), (2, .invokevirtual 101, 3), (5, .astore_n 2, 1), (6, .aload_n 2, 1), (7, .ifnonnull 6, 3), (10, .ldc 105, 2), (12, .ireturn, 1), (13, .aload_n 0, 1), (14, .aload_n 2, 1), (15, .iconst 1, 1), (16, .invokevirtual 129, 3), (19, .aload_n 0, 1), (20, .getfield 54, 3), (23, .getfield 133, 3), (26, .ifCond .ne 8, 3), (29, .ldc 85, 2), (31, .goto 8, 3), (34, .aload_n 0, 1), (35, .aload_n 2, 1), (36, .invokevirtual 136, 3), (39, .ireturn, 1)]
set_option maxRecDepth 100000 in
theorem dX7_correct_p0_ok : (dtX7_correct_p0.all fun e => decide (decode cX7_correct e.1 = .ok e.2)) = true := by decide +kernel
theorem dX7_correct_p0 (i : Nat) {pc : Nat} {q : Instr × Nat} (hi : dtX7_correct_p0[i]? = some (pc, q)) : decode cX7_correct pc = .ok q := dt_get dX7_correct_p0_ok i hi
def dtX7_treeCount_p0 : DT := [(0, .aload_n 0, 1), (1, .iload_n 1, 1), (2, .invokevirtual 101, 3), (5, .astore_n 2, 1), (6, .aload_n 2, 1), (7, .ifnonnull 8, 3), (10, .ldc 105, 2), (12, .goto 8, 3), (15, .aload_n 0, 1), (16, .aload_n 2, 1), (17, .invokevirtual 194, 3), (20, .ireturn, 1)]
set_option maxRecDepth 100000 in
theorem dX7_treeCount_p0_ok : (dtX7_treeCount_p0.all fun e => decide (decode cX7_treeCount e.1 = .ok e.2)) = true := by decide +kernel
theorem dX7_treeCount_p0 (i : Nat) {pc : Nat} {q : Instr × Nat} (hi : dtX7_treeCount_p0[i]? = some (pc, q)) : decode cX7_treeCount pc = .ok q := dt_get dX7_treeCount_p0_ok i hi
def dtX7_weightSum_p0 : DT := [(0, .aload_n 0, 1), (1, .iload_n 1, 1), (2, .invokevirtual 101, 3), (5, .astore_n 2, 1), (6, .aload_n 2, 1), (7, .ifnonnull 9, 3), (10, .ldc2_w 197, 3), (13, .goto 8, 3), (16, .aload_n 0, 1), (17, .aload_n 2, 1), (18, .invokevirtual 199, 3), (21, .lreturn, 1)]
set_option maxRecDepth 100000 in
theorem dX7_weightSum_p0_ok : (dtX7_weightSum_p0.all fun e => decide (decode cX7_weightSum e.1 = .ok e.2)) = true := by decide +kernel
theorem dX7_weightSum_p0 (i : Nat) {pc : Nat} {q : Instr × Nat} (hi : dtX7_weightSum_p0[i]? = some (pc, q)) : decode cX7_weightSum pc = .ok q := dt_get dX7_weightSum_p0_ok i hi
def dtX7_chance_p0 : DT := [(0, .aload_n 0, 1), (1, .iload_n 1, 1), (2, .invokevirtual 101, 3), (5, .astore 5, 2), (7, .aload 5, 2), (9, .ifnull 13, 3), (12, .aload 5, 2), (14, .iload_n 2, 1), (15, .iload_n 3, 1), (16, .invokevirtual 121, 3), (19, .ifCond .ne 7, 3), (22, .ldc2_w 197, 3), (25, .lreturn, 1), (26, .aload_n 0, 1), (27, .aload 5, 2), (29, .invokevirtual 199, 3), (32, .lstore 6, 2), (34, .lload 6, 2), (36, .lconst 0, 1), (37, .lcmp, 1), (38, .ifCond .gt 7, 3), (41, .ldc2_w 203, 3), (44, .lreturn, 1), (45, .aload_n 0, 1), (46, .getfield 61, 3), (49, .invokevirtual 205, 3), (52, .aload_n 0, 1), (53, .getfield 61, 3), (56, .iload_n 2, 1), (57, .iload_n 3, 1), (58, .invokevirtual 208, 3), (61, .lstore 8, 2), (63, .lload 8, 2), (65, .lload 6, 2), (67, .invokestatic 212, 3), (70, .lstore 10, 2), (72, .lload 10, 2), (74, .lconst 0, 1), (75, .lcmp, 1), (76, .ifCond .gt 7, 3), (79, .ldc2_w 203, 3), (82, .lreturn, 1), (83, .iload 4, 2), (85, .ifCond .eq 11, 3), (88, .lload 6, 2), (90, .lload 10, 2), (92, .ldiv, 1), (93, .goto 8, 3), (96, .lload 8, 2), (98, .lload 10, 2), (100, .ldiv, 1), (101, .lreturn, 1)]
set_option maxRecDepth 100000 in
theorem dX7_chance_p0_ok : (dtX7_chance_p0.all fun e => decide (decode cX7_chance e.1 = .ok e.2)) = true := by decide +kernel
theorem dX7_chance_p0 (i : Nat) {pc : Nat} {q : Instr × Nat} (hi : dtX7_chance_p0[i]? = some (pc, q)) : decode cX7_chance pc = .ok q := dt_get dX7_chance_p0_ok i hi
def dtX7_riskHead_p0 : DT := [(0, .aload_n 0, 1), (1, .iload_n 1, 1), (2, .invokevirtual 101, 3), (5, .astore_n 3, 1), (6, .aload_n 3, 1), (7, .ifnull 11, 3), (10, .aload_n 3, 1), (11, .iload_n 2, 1), (12, .invokevirtual 112, 3), (15, .ifCond .ne 6, 3), (18, .ldc 105, 2), (20, .ireturn, 1), (21, .aload_n 0, 1), (22, .aload_n 3, 1), (23, .invokevirtual 199, 3), (26, .lconst 0, 1), (27, .lcmp, 1), (28, .ifCond .gt 6, 3), (31, .ldc 85, 2), (33, .ireturn, 1), (34, .aload_n 0, 1), (35, .getfield 61, 3), (38, .invokevirtual 205, 3), (41, .aload_n 0, 1), (42, .aload_n 3, 1), (43, .iconst 1, 1), (44, .invokevirtual 216, 3), (47, .aload_n 0, 1), (48, .getfield 54, 3), (51, .iconst 1, 1), (52, .invokevirtual 187, 3), (55, .aload_n 0, 1), (56, .getfield 54, 3), (59, .getfield 133, 3), (62, .ifCond .ne 8, 3), (65, .ldc 85, 2), (67, .goto 12, 3), (70, .aload_n 0, 1), (71, .getfield 54, 3), (74, .iconst 0, 1), (75, .iload_n 2, 1), (76, .invokevirtual 140, 3), (79, .ireturn, 1)]
set_option maxRecDepth 100000 in
theorem dX7_riskHead_p0_ok : (dtX7_riskHead_p0.all fun e => decide (decode cX7_riskHead e.1 = .ok e.2)) = true := by decide +kernel
theorem dX7_riskHead_p0 (i : Nat) {pc : Nat} {q : Instr × Nat} (hi : dtX7_riskHead_p0[i]? = some (pc, q)) : decode cX7_riskHead pc = .ok q := dt_get dX7_riskHead_p0_ok i hi
def dtX7_crossings_p0 : DT := [(0, .aload_n 0, 1), (1, .iload_n 1, 1), (2, .invokevirtual 101, 3), (5, .astore_n 2, 1), (6, .aload_n 2, 1), (7, .ifnonnull 8, 3), (10, .ldc 105, 2), (12, .goto 7, 3), (15, .aload_n 2, 1), (16, .invokestatic 220, 3), (19, .ireturn, 1)]
set_option maxRecDepth 100000 in
theorem dX7_crossings_p0_ok : (dtX7_crossings_p0.all fun e => decide (decode cX7_crossings e.1 = .ok e.2)) = true := by decide +kernel
theorem dX7_crossings_p0 (i : Nat) {pc : Nat} {q : Instr × Nat} (hi : dtX7_crossings_p0[i]? = some (pc, q)) : decode cX7_crossings pc = .ok q := dt_get dX7_crossings_p0_ok i hi
def dtX7_depth_p0 : DT := [(0, .aload_n 0, 1), (1, .iload_n 1, 1), (2, .invokevirtual 101, 3), (5, .astore_n 3, 1), (6, .aload_n 3, 1), (7, .ifnull 11, 3), (10, .aload_n 3, 1), (11, .iload_n 2, 1), (12, .invokevirtual 112, 3), (15, .ifCond .ne 8, 3), (18, .ldc 105, 2), (20, .goto 15, 3), (23, .aload_n 3, 1), (24, .getfield 118, 3), (27, .aload_n 3, 1), (28, .getfield 109, 3), (31, .iload_n 2, 1), (32, .invokestatic 223, 3), (35, .ireturn, 1)]
set_option maxRecDepth 100000 in
theorem dX7_depth_p0_ok : (dtX7_depth_p0.all fun e => decide (decode cX7_depth e.1 = .ok e.2)) = true := by decide +kernel
theorem dX7_depth_p0 (i : Nat) {pc : Nat} {q : Instr × Nat} (hi : dtX7_depth_p0[i]? = some (pc, q)) : decode cX7_depth pc = .ok q := dt_get dX7_depth_p0_ok i hi
def dtX7_projectiveOrder_p0 : DT := [(0, .aload_n 0, 1), (1, .iload_n 1, 1), (2, .invokevirtual 101, 3), (5, .astore_n 3, 1), (6, .aload_n 3, 1), (7, .ifnull 15, 3), (10, .iload_n 2, 1), (11, .ifCond .lt 11, 3), (14, .iload_n 2, 1), (15, .aload_n 3, 1), (16, .getfield 109, 3), (19, .if_icmp .lt 6, 3), (22, .ldc 105, 2), (24, .ireturn, 1), (25, .aload_n 0, 1), (26, .getfield 68, 3), (29, .aload_n 3, 1), (30, .invokevirtual 227, 3), (33, .aload_n 0, 1), (34, .getfield 68, 3), (37, .getfield 231, 3), (40, .iload_n 2, 1), (41, .iconst 1, 1), (42, .iadd, 1), (43, .iaload, 1), (44, .ireturn, 1)]
set_option maxRecDepth 100000 in
theorem dX7_projectiveOrder_p0_ok : (dtX7_projectiveOrder_p0.all fun e => decide (decode cX7_projectiveOrder e.1 = .ok e.2)) = true := by decide +kernel
theorem dX7_projectiveOrder_p0 (i : Nat) {pc : Nat} {q : Instr × Nat} (hi : dtX7_projectiveOrder_p0[i]? = some (pc, q)) : decode cX7_projectiveOrder pc = .ok q := dt_get dX7_projectiveOrder_p0_ok i hi
def dtX7_transitions_p0 : DT := [(0, .aload_n 0, 1), (1, .iload_n 1, 1), (2, .invokevirtual 101, 3), (5, .astore_n 2, 1), (6, .aload_n 2, 1), (7, .ifnonnull 8, 3), (10, .ldc 105, 2), (12, .goto 8, 3), (15, .aload_n 0, 1), (16, .aload_n 2, 1), (17, .invokevirtual 234, 3), (20, .ireturn, 1)]
set_option maxRecDepth 100000 in
theorem dX7_transitions_p0_ok : (dtX7_transitions_p0.all fun e => decide (decode cX7_transitions e.1 = .ok e.2)) = true := by decide +kernel
theorem dX7_transitions_p0 (i : Nat) {pc : Nat} {q : Instr × Nat} (hi : dtX7_transitions_p0[i]? = some (pc, q)) : decode cX7_transitions pc = .ok q := dt_get dX7_transitions_p0_ok i hi
def dtX7_transition_p0 : DT := [(0, .aload_n 0, 1), (1, .iload_n 1, 1), (2, .invokevirtual 101, 3), (5, .astore_n 3, 1), (6, .aload_n 3, 1), (7, .ifnonnull 6, 3), (10, .ldc 105, 2), (12, .ireturn, 1), (13, .iload_n 2, 1), (14, .ifCond .lt 12, 3), (17, .iload_n 2, 1), (18, .aload_n 0, 1), (19, .aload_n 3, 1), (20, .invokevirtual 234, 3), (23, .if_icmp .lt 8, 3), (26, .ldc 85, 2), (28, .goto 12, 3), (31, .aload_n 0, 1), (32, .getfield 68, 3), (35, .getfield 237, 3), (38, .iload_n 2, 1), (39, .iaload, 1), (40, .ireturn, 1)]
set_option maxRecDepth 100000 in
theorem dX7_transition_p0_ok : (dtX7_transition_p0.all fun e => decide (decode cX7_transition e.1 = .ok e.2)) = true := by decide +kernel
theorem dX7_transition_p0 (i : Nat) {pc : Nat} {q : Instr × Nat} (hi : dtX7_transition_p0[i]? = some (pc, q)) : decode cX7_transition pc = .ok q := dt_get dX7_transition_p0_ok i hi
def dtX7_train_p0 : DT := [(0, .aload_n 0, 1), (1, .iload_n 1, 1), (2, .invokevirtual 101, 3), (5, .astore_n 2, 1), (6, .aload_n 2, 1), (7, .ifnonnull 8, 3), (10, .ldc 105, 2), (12, .goto 8, 3), (15, .aload_n 0, 1), (16, .aload_n 2, 1), (17, .invokevirtual 240, 3), (20, .ireturn, 1)]
set_option maxRecDepth 100000 in
theorem dX7_train_p0_ok : (dtX7_train_p0.all fun e => decide (decode cX7_train e.1 = .ok e.2)) = true := by decide +kernel
theorem dX7_train_p0 (i : Nat) {pc : Nat} {q : Instr × Nat} (hi : dtX7_train_p0[i]? = some (pc, q)) : decode cX7_train pc = .ok q := dt_get dX7_train_p0_ok i hi
def dtX7_trainAll_p0 : DT := [(0, .iload_n 1, 1), (1, .iconst 1, 1), (2, .if_icmp .lt 9, 3), (5, .iload_n 1, 1), (6, .bipush 10, 2), (8, .if_icmp .le 6, 3), (11, .ldc 72, 2), (13, .ireturn, 1), (14, .iconst 0, 1), (15, .istore_n 2, 1), (16, .iload_n 2, 1), (17, .iload_n 1, 1), (18, .if_icmp .ge 51, 3), (21, .iconst 0, 1), (22, .istore_n 3, 1), (23, .iconst 0, 1), (24, .istore 4, 2), (26, .iload 4, 2), (28, .aload_n 0, 1), (29, .getfield 23, 3), (32, .if_icmp .ge 25, 3), (35, .aload_n 0, 1), (36, .aload_n 0, 1), (37, .getfield 18, 3), (40, .iload 4, 2), (42, .aaload, 1), (43, .invokevirtual 240, 3), (46, .ifCond .le 5, 3), (49, .iconst 1, 1), (50, .istore_n 3, 1), (51, .iinc 4 1, 3), (54, .goto (-28), 3), (57, .iload_n 3, 1), (58, .ifCond .ne 5, 3), (61, .iload_n 2, 1), (62, .ireturn, 1), (63, .iinc 2 1, 3), (66, .goto (-50), 3), (69, .ldc 85, 2), (71, .ireturn, 1)]
set_option maxRecDepth 100000 in
theorem dX7_trainAll_p0_ok : (dtX7_trainAll_p0.all fun e => decide (decode cX7_trainAll e.1 = .ok e.2)) = true := by decide +kernel
theorem dX7_trainAll_p0 (i : Nat) {pc : Nat} {q : Instr × Nat} (hi : dtX7_trainAll_p0[i]? = some (pc, q)) : decode cX7_trainAll pc = .ok q := dt_get dX7_trainAll_p0_ok i hi
def dtX7_save_p0 : DT := [(0, .iload_n 1, 1), (1, .ifCond .lt 8, 3), (4, .iload_n 1, 1), (5, .iconst 2, 1), (6, .if_icmp .lt 6, 3), (9, .ldc 105, 2), (11, .ireturn, 1), (12, .aload_n 0, 1), (13, .getfield 34, 3), (16, .iload_n 1, 1), (17, .aaload, 1), (18, .aload_n 0, 1), (19, .getfield 30, 3), (22, .invokevirtual 243, 3), (25, .aload_n 0, 1), (26, .getfield 38, 3), (29, .iload_n 1, 1), (30, .iconst 1, 1), (31, .bastore, 1), (32, .aload_n 0, 1), (33, .getfield 30, 3), (36, .invokevirtual 247, 3), (39, .ireturn, 1)]
set_option maxRecDepth 100000 in
theorem dX7_save_p0_ok : (dtX7_save_p0.all fun e => decide (decode cX7_save e.1 = .ok e.2)) = true := by decide +kernel
theorem dX7_save_p0 (i : Nat) {pc : Nat} {q : Instr × Nat} (hi : dtX7_save_p0[i]? = some (pc, q)) : decode cX7_save pc = .ok q := dt_get dX7_save_p0_ok i hi
def dtX7_restore_p0 : DT := [(0, .iload_n 1, 1), (1, .ifCond .lt 8, 3), (4, .iload_n 1, 1), (5, .iconst 2, 1), (6, .if_icmp .lt 6, 3), (9, .ldc 105, 2), (11, .ireturn, 1), (12, .aload_n 0, 1), (13, .getfield 38, 3), (16, .iload_n 1, 1), (17, .baload, 1), (18, .ifCond .ne 6, 3), (21, .ldc 85, 2), (23, .ireturn, 1), (24, .aload_n 0, 1), (25, .getfield 30, 3), (28, .aload_n 0, 1), (29, .getfield 34, 3), (32, .iload_n 1, 1), (33, .aaload, 1), (34, .invokevirtual 243, 3), (37, .aload_n 0, 1), (38, .getfield 30, 3), (41, .invokevirtual 247, 3), (44, .ireturn, 1)]
set_option maxRecDepth 100000 in
theorem dX7_restore_p0_ok : (dtX7_restore_p0.all fun e => decide (decode cX7_restore e.1 = .ok e.2)) = true := by decide +kernel
theorem dX7_restore_p0 (i : Nat) {pc : Nat} {q : Instr × Nat} (hi : dtX7_restore_p0[i]? = some (pc, q)) : decode cX7_restore pc = .ok q := dt_get dX7_restore_p0_ok i hi
def dtX7_checksum_p0 : DT := [(0, .ldc2_w 250, 3), (3, .aload_n 0, 1), (4, .getfield 23, 3), (7, .i2l, 1), (8, .invokestatic 252, 3), (11, .lstore_n 1, 1), (12, .iconst 0, 1), (13, .istore_n 3, 1), (14, .iload_n 3, 1), (15, .aload_n 0, 1), (16, .getfield 23, 3), (19, .if_icmp .ge 21, 3), (22, .aload_n 0, 1), (23, .lload_n 1, 1), (24, .aload_n 0, 1), (25, .getfield 18, 3), (28, .iload_n 3, 1), (29, .aaload, 1), (30, .invokevirtual 255, 3), (33, .lstore_n 1, 1), (34, .iinc 3 1, 3), (37, .goto (-23), 3), (40, .aload_n 0, 1), (41, .getfield 30, 3), (44, .lload_n 1, 1), (45, .invokevirtual 259, 3), (48, .lreturn, 1)]
set_option maxRecDepth 100000 in
theorem dX7_checksum_p0_ok : (dtX7_checksum_p0.all fun e => decide (decode cX7_checksum e.1 = .ok e.2)) = true := by decide +kernel
theorem dX7_checksum_p0 (i : Nat) {pc : Nat} {q : Instr × Nat} (hi : dtX7_checksum_p0[i]? = some (pc, q)) : decode cX7_checksum pc = .ok q := dt_get dX7_checksum_p0_ok i hi
def dtX7_find_p0 : DT := [(0, .iload_n 1, 1), (1, .ifCond .lt 20, 3), (4, .iload_n 1, 1), (5, .aload_n 0, 1), (6, .getfield 23, 3), (9, .if_icmp .ge 12, 3), (12, .aload_n 0, 1), (13, .getfield 18, 3), (16, .iload_n 1, 1), (17, .aaload, 1), (18, .goto 4, 3), (21, .aconst_null, 1), (22, .areturn, 1)]
set_option maxRecDepth 100000 in
theorem dX7_find_p0_ok : (dtX7_find_p0.all fun e => decide (decode cX7_find e.1 = .ok e.2)) = true := by decide +kernel
theorem dX7_find_p0 (i : Nat) {pc : Nat} {q : Instr × Nat} (hi : dtX7_find_p0[i]? = some (pc, q)) : decode cX7_find pc = .ok q := dt_get dX7_find_p0_ok i hi
def dtX7_isWithin_p0 : DT := [(0, .iload_n 0, 1), (1, .iload_n 1, 1), (2, .ineg, 1), (3, .if_icmp .lt 12, 3), (6, .iload_n 0, 1), (7, .iload_n 1, 1), (8, .if_icmp .gt 7, 3), (11, .iconst 1, 1), (12, .goto 4, 3), (15, .iconst 0, 1), (16, .ireturn, 1)]
set_option maxRecDepth 100000 in
theorem dX7_isWithin_p0_ok : (dtX7_isWithin_p0.all fun e => decide (decode cX7_isWithin e.1 = .ok e.2)) = true := by decide +kernel
theorem dX7_isWithin_p0 (i : Nat) {pc : Nat} {q : Instr × Nat} (hi : dtX7_isWithin_p0[i]? = some (pc, q)) : decode cX7_isWithin pc = .ok q := dt_get dX7_isWithin_p0_ok i hi
def dtX7_isTagPair_p0 : DT := [(0, .iload_n 0, 1), (1, .ifCond .lt 23, 3), (4, .iload_n 0, 1), (5, .bipush 8, 2), (7, .if_icmp .gt 17, 3), (10, .iload_n 1, 1), (11, .ifCond .lt 13, 3), (14, .iload_n 1, 1), (15, .bipush 8, 2), (17, .if_icmp .ge 7, 3), (20, .iconst 1, 1), (21, .goto 4, 3), (24, .iconst 0, 1), (25, .ireturn, 1)]
set_option maxRecDepth 100000 in
theorem dX7_isTagPair_p0_ok : (dtX7_isTagPair_p0.all fun e => decide (decode cX7_isTagPair e.1 = .ok e.2)) = true := by decide +kernel
theorem dX7_isTagPair_p0 (i : Nat) {pc : Nat} {q : Instr × Nat} (hi : dtX7_isTagPair_p0[i]? = some (pc, q)) : decode cX7_isTagPair pc = .ok q := dt_get dX7_isTagPair_p0_ok i hi
def dtX7_isDistance_p0 : DT := [(0, .iload_n 0, 1), (1, .ifCond .eq 8, 3), (4, .iload_n 0, 1), (5, .iconst 1, 1), (6, .if_icmp .ne 18, 3), (9, .iload_n 1, 1), (10, .iconst 1, 1), (11, .if_icmp .lt 13, 3), (14, .iload_n 1, 1), (15, .bipush 6, 2), (17, .if_icmp .gt 7, 3), (20, .iconst 1, 1), (21, .goto 4, 3), (24, .iconst 0, 1), (25, .ireturn, 1)]
set_option maxRecDepth 100000 in
theorem dX7_isDistance_p0_ok : (dtX7_isDistance_p0.all fun e => decide (decode cX7_isDistance e.1 = .ok e.2)) = true := by decide +kernel
theorem dX7_isDistance_p0 (i : Nat) {pc : Nat} {q : Instr × Nat} (hi : dtX7_isDistance_p0[i]? = some (pc, q)) : decode cX7_isDistance pc = .ok q := dt_get dX7_isDistance_p0_ok i hi
def dtX7_arcScore_p0 : DT := [(0, .aload_n 0, 1), (1, .getfield 30, 3), (4, .aload_n 1, 1), (5, .iload_n 2, 1), (6, .iload_n 3, 1), (7, .invokevirtual 263, 3), (10, .aload_n 1, 1), (11, .getfield 160, 3), (14, .iload_n 2, 1), (15, .aaload, 1), (16, .iload_n 3, 1), (17, .iaload, 1), (18, .iadd, 1), (19, .ireturn, 1)]
set_option maxRecDepth 100000 in
theorem dX7_arcScore_p0_ok : (dtX7_arcScore_p0.all fun e => decide (decode cX7_arcScore e.1 = .ok e.2)) = true := by decide +kernel
theorem dX7_arcScore_p0 (i : Nat) {pc : Nat} {q : Instr × Nat} (hi : dtX7_arcScore_p0[i]? = some (pc, q)) : decode cX7_arcScore pc = .ok q := dt_get dX7_arcScore_p0_ok i hi
def dtX7_annotationScore_p0 : DT := [(0, .iconst 0, 1), (1, .istore_n 2, 1), (2, .iconst 1, 1), (3, .istore_n 3, 1), (4, .iload_n 3, 1), (5, .aload_n 1, 1), (6, .getfield 109, 3), (9, .if_icmp .gt 24, 3), (12, .iload_n 2, 1), (13, .aload_n 0, 1), (14, .aload_n 1, 1), (15, .aload_n 1, 1), (16, .getfield 118, 3), (19, .iload_n 3, 1), (20, .iaload, 1), (21, .iload_n 3, 1), (22, .invokevirtual 176, 3), (25, .iadd, 1), (26, .istore_n 2, 1), (27, .iinc 3 1, 3), (30, .goto (-26), 3), (33, .iload_n 2, 1), (34, .ireturn, 1)]
set_option maxRecDepth 100000 in
theorem dX7_annotationScore_p0_ok : (dtX7_annotationScore_p0.all fun e => decide (decode cX7_annotationScore e.1 = .ok e.2)) = true := by decide +kernel
theorem dX7_annotationScore_p0 (i : Nat) {pc : Nat} {q : Instr × Nat} (hi : dtX7_annotationScore_p0[i]? = some (pc, q)) : decode cX7_annotationScore pc = .ok q := dt_get dX7_annotationScore_p0_ok i hi
def dtX7_rankTrees_p0 : DT := [(0, .aload_n 0, 1), (1, .aload_n 1, 1), (2, .iconst 0, 1), (3, .invokevirtual 216, 3), (6, .aload_n 0, 1), (7, .getfield 54, 3), (10, .iload_n 2, 1), (11, .invokevirtual 187, 3), (14, .return_, 1)]
set_option maxRecDepth 100000 in
theorem dX7_rankTrees_p0_ok : (dtX7_rankTrees_p0.all fun e => decide (decode cX7_rankTrees e.1 = .ok e.2)) = true := by decide +kernel
theorem dX7_rankTrees_p0 (i : Nat) {pc : Nat} {q : Instr × Nat} (hi : dtX7_rankTrees_p0[i]? = some (pc, q)) : decode cX7_rankTrees pc = .ok q := dt_get dX7_rankTrees_p0_ok i hi
def dtX7_offerArcs_p0 : DT := [(0, .aload_n 0, 1), (1, .getfield 54, 3), (4, .aload_n 1, 1), (5, .getfield 109, 3), (8, .invokevirtual 266, 3), (11, .iconst 1, 1), (12, .istore_n 3, 1), (13, .iload_n 3, 1), (14, .aload_n 1, 1), (15, .getfield 109, 3), (18, .if_icmp .gt 80, 3), (21, .aload_n 1, 1), (22, .iload_n 3, 1), (23, .invokevirtual 269, 3), (26, .istore 4, 2), (28, .iconst 0, 1), (29, .istore 5, 2), (31, .iload 5, 2), (33, .aload_n 1, 1), (34, .getfield 109, 3), (37, .if_icmp .gt 55, 3), (40, .iload 4, 2), (42, .iload 5, 2), (44, .invokestatic 272, 3), (47, .ifCond .eq 39, 3), (50, .aload_n 0, 1), (51, .getfield 54, 3), (54, .iload 5, 2), (56, .iload_n 3, 1), (57, .iload_n 2, 1), (58, .ifCond .eq 16, 3), (61, .aload_n 0, 1), (62, .getfield 61, 3), (65, .iload 5, 2), (67, .iload_n 3, 1), (68, .invokevirtual 208, 3), (71, .goto 12, 3), (74, .aload_n 0, 1), (75, .aload_n 1, 1), (76, .iload 5, 2), (78, .iload_n 3, 1), (79, .invokevirtual 176, 3), (82, .i2l, 1), (83, .invokevirtual 275, 3), (86, .iinc 5 1, 3), (89, .goto (-58), 3), (92, .iinc 3 1, 3), (95, .goto (-82), 3), (98, .return_, 1)]
set_option maxRecDepth 100000 in
theorem dX7_offerArcs_p0_ok : (dtX7_offerArcs_p0.all fun e => decide (decode cX7_offerArcs e.1 = .ok e.2)) = true := by decide +kernel
theorem dX7_offerArcs_p0 (i : Nat) {pc : Nat} {q : Instr × Nat} (hi : dtX7_offerArcs_p0[i]? = some (pc, q)) : decode cX7_offerArcs pc = .ok q := dt_get dX7_offerArcs_p0_ok i hi
def dtX7_countAgreeing_p0 : DT := [(0, .iconst 0, 1), (1, .istore_n 2, 1), (2, .iconst 1, 1), (3, .istore_n 3, 1), (4, .iload_n 3, 1), (5, .aload_n 1, 1), (6, .getfield 109, 3), (9, .if_icmp .gt 30, 3), (12, .aload_n 0, 1), (13, .getfield 54, 3), (16, .iconst 0, 1), (17, .iload_n 3, 1), (18, .invokevirtual 140, 3), (21, .aload_n 1, 1), (22, .getfield 118, 3), (25, .iload_n 3, 1), (26, .iaload, 1), (27, .if_icmp .ne 6, 3), (30, .iinc 2 1, 3), (33, .iinc 3 1, 3), (36, .goto (-32), 3), (39, .iload_n 2, 1), (40, .ireturn, 1)]
set_option maxRecDepth 100000 in
theorem dX7_countAgreeing_p0_ok : (dtX7_countAgreeing_p0.all fun e => decide (decode cX7_countAgreeing e.1 = .ok e.2)) = true := by decide +kernel
theorem dX7_countAgreeing_p0 (i : Nat) {pc : Nat} {q : Instr × Nat} (hi : dtX7_countAgreeing_p0[i]? = some (pc, q)) : decode cX7_countAgreeing pc = .ok q := dt_get dX7_countAgreeing_p0_ok i hi
def dtX7_countTrees_p0 : DT := [(0, .aload_n 0, 1), (1, .aload_n 1, 1), (2, .iconst 1, 1), (3, .invokevirtual 279, 3), (6, .aload_n 0, 1), (7, .getfield 61, 3), (10, .invokevirtual 282, 3), (13, .l2i, 1), (14, .ireturn, 1)]
set_option maxRecDepth 100000 in
theorem dX7_countTrees_p0_ok : (dtX7_countTrees_p0.all fun e => decide (decode cX7_countTrees e.1 = .ok e.2)) = true := by decide +kernel
theorem dX7_countTrees_p0 (i : Nat) {pc : Nat} {q : Instr × Nat} (hi : dtX7_countTrees_p0[i]? = some (pc, q)) : decode cX7_countTrees pc = .ok q := dt_get dX7_countTrees_p0_ok i hi
def dtX7_sumWeights_p0 : DT := [(0, .aload_n 0, 1), (1, .aload_n 1, 1), (2, .iconst 0, 1), (3, .invokevirtual 279, 3), (6, .aload_n 0, 1), (7, .getfield 61, 3), (10, .invokevirtual 282, 3), (13, .lreturn, 1)]
set_option maxRecDepth 100000 in
theorem dX7_sumWeights_p0_ok : (dtX7_sumWeights_p0.all fun e => decide (decode cX7_sumWeights e.1 = .ok e.2)) = true := by decide +kernel
theorem dX7_sumWeights_p0 (i : Nat) {pc : Nat} {q : Instr × Nat} (hi : dtX7_sumWeights_p0[i]? = some (pc, q)) : decode cX7_sumWeights pc = .ok q := dt_get dX7_sumWeights_p0_ok i hi
def dtX7_setPotentials_p0 : DT := [(0, .aload_n 0, 1), (1, .getfield 61, 3), (4, .aload_n 1, 1), (5, .getfield 109, 3), (8, .invokevirtual 286, 3), (11, .iconst 1, 1), (12, .istore_n 3, 1), (13, .iload_n 3, 1), (14, .aload_n 1, 1), (15, .getfield 109, 3), (18, .if_icmp .gt 77, 3), (21, .aload_n 1, 1), (22, .iload_n 3, 1), (23, .invokevirtual 269, 3), (26, .istore 4, 2), (28, .iconst 0, 1), (29, .istore 5, 2), (31, .iload 5, 2), (33, .aload_n 1, 1), (34, .getfield 109, 3), (37, .if_icmp .gt 52, 3), (40, .iconst 0, 1), (41, .istore 6, 2), (43, .iload 4, 2), (45, .iload 5, 2), (47, .invokestatic 272, 3), (50, .ifCond .eq 21, 3), (53, .iload_n 2, 1), (54, .ifCond .eq 7, 3), (57, .iconst 1, 1), (58, .goto 11, 3), (61, .aload_n 0, 1), (62, .aload_n 1, 1), (63, .iload 5, 2), (65, .iload_n 3, 1), (66, .invokevirtual 287, 3), (69, .istore 6, 2), (71, .aload_n 0, 1), (72, .getfield 61, 3), (75, .iload 5, 2), (77, .iload_n 3, 1), (78, .iload 6, 2), (80, .invokevirtual 290, 3), (83, .iinc 5 1, 3), (86, .goto (-55), 3), (89, .iinc 3 1, 3), (92, .goto (-79), 3), (95, .return_, 1)]
set_option maxRecDepth 100000 in
theorem dX7_setPotentials_p0_ok : (dtX7_setPotentials_p0.all fun e => decide (decode cX7_setPotentials e.1 = .ok e.2)) = true := by decide +kernel
theorem dX7_setPotentials_p0 (i : Nat) {pc : Nat} {q : Instr × Nat} (hi : dtX7_setPotentials_p0[i]? = some (pc, q)) : decode cX7_setPotentials pc = .ok q := dt_get dX7_setPotentials_p0_ok i hi
def dtX7_potential_p0 : DT := [(0, .iconst 0, 1), (1, .bipush 20, 2), (3, .aload_n 0, 1), (4, .aload_n 1, 1), (5, .iload_n 2, 1), (6, .iload_n 3, 1), (7, .invokevirtual 176, 3), (10, .aload_n 0, 1), (11, .getfield 45, 3), (14, .getfield 173, 3), (17, .iadd, 1), (18, .invokestatic 294, 3), (21, .invokestatic 299, 3), (24, .ireturn, 1)]
set_option maxRecDepth 100000 in
theorem dX7_potential_p0_ok : (dtX7_potential_p0.all fun e => decide (decode cX7_potential e.1 = .ok e.2)) = true := by decide +kernel
theorem dX7_potential_p0 (i : Nat) {pc : Nat} {q : Instr × Nat} (hi : dtX7_potential_p0[i]? = some (pc, q)) : decode cX7_potential pc = .ok q := dt_get dX7_potential_p0_ok i hi
def dtX7_greatestCommonDivisor_p0 : DT := [(0, .lload_n 2, 1), (1, .lstore 4, 2), (3, .lload_n 0, 1), (4, .lstore 6, 2), (6, .iconst 0, 1), (7, .istore 8, 2), (9, .iload 8, 2), (11, .sipush 128, 3), (14, .if_icmp .ge 31, 3), (17, .lload 6, 2), (19, .lconst 0, 1), (20, .lcmp, 1), (21, .ifCond .eq 24, 3), (24, .lload 4, 2), (26, .lload 6, 2), (28, .lrem, 1), (29, .lstore 9, 2), (31, .lload 6, 2), (33, .lstore 4, 2), (35, .lload 9, 2), (37, .lstore 6, 2), (39, .iinc 8 1, 3), (42, .goto (-33), 3), (45, .lload 4, 2), (47, .lreturn, 1)]
set_option maxRecDepth 100000 in
theorem dX7_greatestCommonDivisor_p0_ok : (dtX7_greatestCommonDivisor_p0.all fun e => decide (decode cX7_greatestCommonDivisor e.1 = .ok e.2)) = true := by decide +kernel
theorem dX7_greatestCommonDivisor_p0 (i : Nat) {pc : Nat} {q : Instr × Nat} (hi : dtX7_greatestCommonDivisor_p0[i]? = some (pc, q)) : decode cX7_greatestCommonDivisor pc = .ok q := dt_get dX7_greatestCommonDivisor_p0_ok i hi
def dtX7_countCrossings_p0 : DT := [(0, .iconst 0, 1), (1, .istore_n 1, 1), (2, .iconst 2, 1), (3, .istore_n 2, 1), (4, .iload_n 2, 1), (5, .aload_n 0, 1), (6, .getfield 109, 3), (9, .if_icmp .gt 45, 3), (12, .iconst 1, 1), (13, .istore_n 3, 1), (14, .iload_n 3, 1), (15, .iload_n 2, 1), (16, .if_icmp .ge 32, 3), (19, .aload_n 0, 1), (20, .getfield 118, 3), (23, .iload_n 2, 1), (24, .iaload, 1), (25, .iload_n 2, 1), (26, .aload_n 0, 1), (27, .getfield 118, 3), (30, .iload_n 3, 1), (31, .iaload, 1), (32, .iload_n 3, 1), (33, .invokestatic 302, 3), (36, .ifCond .eq 6, 3), (39, .iinc 1 1, 3), (42, .iinc 3 1, 3), (45, .goto (-31), 3), (48, .iinc 2 1, 3), (51, .goto (-47), 3), (54, .iload_n 1, 1), (55, .ireturn, 1)]
set_option maxRecDepth 100000 in
theorem dX7_countCrossings_p0_ok : (dtX7_countCrossings_p0.all fun e => decide (decode cX7_countCrossings e.1 = .ok e.2)) = true := by decide +kernel
theorem dX7_countCrossings_p0 (i : Nat) {pc : Nat} {q : Instr × Nat} (hi : dtX7_countCrossings_p0[i]? = some (pc, q)) : decode cX7_countCrossings pc = .ok q := dt_get dX7_countCrossings_p0_ok i hi
def dtX7_countTransitions_p0 : DT := [(0, .aload_n 0, 1), (1, .getfield 68, 3), (4, .aload_n 1, 1), (5, .invokevirtual 227, 3), (8, .aload_n 0, 1), (9, .getfield 68, 3), (12, .invokevirtual 306, 3), (15, .aload_n 0, 1), (16, .getfield 68, 3), (19, .getfield 309, 3), (22, .ireturn, 1)]
set_option maxRecDepth 100000 in
theorem dX7_countTransitions_p0_ok : (dtX7_countTransitions_p0.all fun e => decide (decode cX7_countTransitions e.1 = .ok e.2)) = true := by decide +kernel
theorem dX7_countTransitions_p0 (i : Nat) {pc : Nat} {q : Instr × Nat} (hi : dtX7_countTransitions_p0[i]? = some (pc, q)) : decode cX7_countTransitions pc = .ok q := dt_get dX7_countTransitions_p0_ok i hi
def dtX7_learn_p0 : DT := [(0, .aload_n 0, 1), (1, .aload_n 1, 1), (2, .iconst 1, 1), (3, .invokevirtual 129, 3), (6, .aload_n 0, 1), (7, .getfield 54, 3), (10, .getfield 133, 3), (13, .ifCond .ne 6, 3), (16, .ldc 85, 2), (18, .ireturn, 1), (19, .iconst 0, 1), (20, .istore_n 2, 1), (21, .iconst 1, 1), (22, .istore_n 3, 1), (23, .iload_n 3, 1), (24, .aload_n 1, 1), (25, .getfield 109, 3), (28, .if_icmp .gt 62, 3), (31, .aload_n 0, 1), (32, .getfield 54, 3), (35, .iconst 0, 1), (36, .iload_n 3, 1), (37, .invokevirtual 140, 3), (40, .istore 4, 2), (42, .iload 4, 2), (44, .aload_n 1, 1), (45, .getfield 118, 3), (48, .iload_n 3, 1), (49, .iaload, 1), (50, .if_icmp .eq 34, 3), (53, .aload_n 0, 1), (54, .getfield 30, 3), (57, .aload_n 1, 1), (58, .aload_n 1, 1), (59, .getfield 118, 3), (62, .iload_n 3, 1), (63, .iaload, 1), (64, .iload_n 3, 1), (65, .iconst 1, 1), (66, .invokevirtual 310, 3), (69, .aload_n 0, 1), (70, .getfield 30, 3), (73, .aload_n 1, 1), (74, .iload 4, 2), (76, .iload_n 3, 1), (77, .iconst (-1), 1), (78, .invokevirtual 310, 3), (81, .iinc 2 1, 3), (84, .iinc 3 1, 3), (87, .goto (-64), 3), (90, .iload_n 2, 1), (91, .ireturn, 1)]
set_option maxRecDepth 100000 in
theorem dX7_learn_p0_ok : (dtX7_learn_p0.all fun e => decide (decode cX7_learn e.1 = .ok e.2)) = true := by decide +kernel
theorem dX7_learn_p0 (i : Nat) {pc : Nat} {q : Instr × Nat} (hi : dtX7_learn_p0[i]? = some (pc, q)) : decode cX7_learn pc = .ok q := dt_get dX7_learn_p0_ok i hi
def dtX7_mix_p0 : DT := [(0, .ldc2_w 314, 3), (3, .lload_n 0, 1), (4, .lmul, 1), (5, .lload_n 2, 1), (6, .ladd, 1), (7, .lreturn, 1)]
set_option maxRecDepth 100000 in
theorem dX7_mix_p0_ok : (dtX7_mix_p0.all fun e => decide (decode cX7_mix e.1 = .ok e.2)) = true := by decide +kernel
theorem dX7_mix_p0 (i : Nat) {pc : Nat} {q : Instr × Nat} (hi : dtX7_mix_p0[i]? = some (pc, q)) : decode cX7_mix pc = .ok q := dt_get dX7_mix_p0_ok i hi
def dtX7_mixSentence_p0 : DT := [(0, .aload_n 0, 1), (1, .aload_n 3, 1), (2, .iconst 1, 1), (3, .invokevirtual 129, 3), (6, .aload_n 0, 1), (7, .getfield 54, 3), (10, .getfield 133, 3), (13, .ifCond .le 7, 3), (16, .iconst 1, 1), (17, .goto 4, 3), (20, .iconst 0, 1), (21, .istore 4, 2), (23, .lload_n 1, 1), (24, .aload_n 3, 1), (25, .getfield 109, 3), (28, .i2l, 1), (29, .invokestatic 252, 3), (32, .lstore 5, 2), (34, .iconst 1, 1), (35, .istore 7, 2), (37, .iload 7, 2), (39, .aload_n 3, 1), (40, .getfield 109, 3), (43, .if_icmp .gt 68, 3), (46, .lload 5, 2), (48, .aload_n 3, 1), (49, .getfield 115, 3), (52, .iload 7, 2), (54, .iaload, 1), (55, .i2l, 1), (56, .invokestatic 252, 3), (59, .lstore 5, 2), (61, .lload 5, 2), (63, .aload_n 3, 1), (64, .getfield 118, 3), (67, .iload 7, 2), (69, .iaload, 1), (70, .i2l, 1), (71, .invokestatic 252, 3), (74, .lstore 5, 2), (76, .lload 5, 2), (78, .iload 4, 2), (80, .ifCond .eq 17, 3), (83, .aload_n 0, 1), (84, .getfield 54, 3), (87, .iconst 0, 1), (88, .iload 7, 2), (90, .invokevirtual 140, 3), (93, .i2l, 1), (94, .goto 6, 3), (97, .ldc2_w 203, 3), (100, .invokestatic 252, 3), (103, .lstore 5, 2), (105, .iinc 7 1, 3), (108, .goto (-71), 3), (111, .lload 5, 2), (113, .iload 4, 2), (115, .ifCond .eq 15, 3), (118, .aload_n 0, 1), (119, .getfield 54, 3), (122, .iconst 0, 1), (123, .invokevirtual 180, 3), (126, .i2l, 1), (127, .goto 6, 3)]
set_option maxRecDepth 100000 in
theorem dX7_mixSentence_p0_ok : (dtX7_mixSentence_p0.all fun e => decide (decode cX7_mixSentence e.1 = .ok e.2)) = true := by decide +kernel
theorem dX7_mixSentence_p0 (i : Nat) {pc : Nat} {q : Instr × Nat} (hi : dtX7_mixSentence_p0[i]? = some (pc, q)) : decode cX7_mixSentence pc = .ok q := dt_get dX7_mixSentence_p0_ok i hi
def dtX7_mixSentence_p1 : DT := [(130, .ldc2_w 203, 3), (133, .invokestatic 252, 3), (136, .lstore 5, 2), (138, .lload 5, 2), (140, .aload_n 0, 1), (141, .aload_n 3, 1), (142, .invokevirtual 194, 3), (145, .i2l, 1), (146, .invokestatic 252, 3), (149, .lstore 5, 2), (151, .lload 5, 2), (153, .aload_n 0, 1), (154, .aload_n 3, 1), (155, .invokevirtual 199, 3), (158, .invokestatic 252, 3), (161, .lstore 5, 2), (163, .lload 5, 2), (165, .aload_n 3, 1), (166, .invokestatic 220, 3), (169, .i2l, 1), (170, .invokestatic 252, 3), (173, .lstore 5, 2), (175, .lload 5, 2), (177, .aload_n 0, 1), (178, .aload_n 3, 1), (179, .invokevirtual 234, 3), (182, .i2l, 1), (183, .invokestatic 252, 3), (186, .lreturn, 1)]
set_option maxRecDepth 100000 in
theorem dX7_mixSentence_p1_ok : (dtX7_mixSentence_p1.all fun e => decide (decode cX7_mixSentence e.1 = .ok e.2)) = true := by decide +kernel
theorem dX7_mixSentence_p1 (i : Nat) {pc : Nat} {q : Instr × Nat} (hi : dtX7_mixSentence_p1[i]? = some (pc, q)) : decode cX7_mixSentence pc = .ok q := dt_get dX7_mixSentence_p1_ok i hi
def dtX7_holds_p0 : DT := [(0, .iload_n 0, 1), (1, .iload_n 1, 1), (2, .ishr, 1), (3, .iconst 1, 1), (4, .iand, 1), (5, .iconst 1, 1), (6, .if_icmp .ne 7, 3), (9, .iconst 1, 1), (10, .goto 4, 3), (13, .iconst 0, 1), (14, .ireturn, 1)]
set_option maxRecDepth 100000 in
theorem dX7_holds_p0_ok : (dtX7_holds_p0.all fun e => decide (decode cX7_holds e.1 = .ok e.2)) = true := by decide +kernel
theorem dX7_holds_p0 (i : Nat) {pc : Nat} {q : Instr × Nat} (hi : dtX7_holds_p0[i]? = some (pc, q)) : decode cX7_holds pc = .ok q := dt_get dX7_holds_p0_ok i hi
def dtX7_cross_p0 : DT := [(0, .iload_n 0, 1), (1, .iload_n 1, 1), (2, .if_icmp .ge 7, 3), (5, .iload_n 0, 1), (6, .goto 4, 3), (9, .iload_n 1, 1), (10, .istore 4, 2), (12, .iload_n 0, 1), (13, .iload_n 1, 1), (14, .if_icmp .ge 7, 3), (17, .iload_n 1, 1), (18, .goto 4, 3), (21, .iload_n 0, 1), (22, .istore 5, 2), (24, .iload_n 2, 1), (25, .iload_n 3, 1), (26, .if_icmp .ge 7, 3), (29, .iload_n 2, 1), (30, .goto 4, 3), (33, .iload_n 3, 1), (34, .istore 6, 2), (36, .iload_n 2, 1), (37, .iload_n 3, 1), (38, .if_icmp .ge 7, 3), (41, .iload_n 3, 1), (42, .goto 4, 3), (45, .iload_n 2, 1), (46, .istore 7, 2), (48, .iload 4, 2), (50, .iload 6, 2), (52, .if_icmp .ge 17, 3), (55, .iload 6, 2), (57, .iload 5, 2), (59, .if_icmp .ge 10, 3), (62, .iload 5, 2), (64, .iload 7, 2), (66, .if_icmp .lt 24, 3), (69, .iload 6, 2), (71, .iload 4, 2), (73, .if_icmp .ge 21, 3), (76, .iload 4, 2), (78, .iload 7, 2), (80, .if_icmp .ge 14, 3), (83, .iload 7, 2), (85, .iload 5, 2), (87, .if_icmp .ge 7, 3), (90, .iconst 1, 1), (91, .goto 4, 3), (94, .iconst 0, 1), (95, .ireturn, 1)]
set_option maxRecDepth 100000 in
theorem dX7_cross_p0_ok : (dtX7_cross_p0.all fun e => decide (decode cX7_cross e.1 = .ok e.2)) = true := by decide +kernel
theorem dX7_cross_p0 (i : Nat) {pc : Nat} {q : Instr × Nat} (hi : dtX7_cross_p0[i]? = some (pc, q)) : decode cX7_cross pc = .ok q := dt_get dX7_cross_p0_ok i hi
def dtX7_countStepsToRoot_p0 : DT := [(0, .iload_n 2, 1), (1, .istore_n 3, 1), (2, .iconst 0, 1), (3, .istore 4, 2), (5, .iload 4, 2), (7, .iload_n 1, 1), (8, .if_icmp .gt 32, 3), (11, .iload_n 3, 1), (12, .ifCond .ne 6, 3), (15, .iload 4, 2), (17, .ireturn, 1), (18, .iload_n 3, 1), (19, .ifCond .lt 8, 3), (22, .iload_n 3, 1), (23, .iload_n 1, 1), (24, .if_icmp .le 6, 3), (27, .ldc 85, 2), (29, .ireturn, 1), (30, .aload_n 0, 1), (31, .iload_n 3, 1), (32, .iaload, 1), (33, .istore_n 3, 1), (34, .iinc 4 1, 3), (37, .goto (-32), 3), (40, .ldc 85, 2), (42, .ireturn, 1)]
set_option maxRecDepth 100000 in
theorem dX7_countStepsToRoot_p0_ok : (dtX7_countStepsToRoot_p0.all fun e => decide (decode cX7_countStepsToRoot e.1 = .ok e.2)) = true := by decide +kernel
theorem dX7_countStepsToRoot_p0 (i : Nat) {pc : Nat} {q : Instr × Nat} (hi : dtX7_countStepsToRoot_p0[i]? = some (pc, q)) : decode cX7_countStepsToRoot pc = .ok q := dt_get dX7_countStepsToRoot_p0_ok i hi
def dtX7_formTree_p0 : DT := [(0, .iconst 1, 1), (1, .istore_n 2, 1), (2, .iload_n 2, 1), (3, .iload_n 1, 1), (4, .if_icmp .gt 22, 3), (7, .aload_n 0, 1), (8, .iload_n 1, 1), (9, .iload_n 2, 1), (10, .invokestatic 223, 3), (13, .ldc 85, 2), (15, .if_icmp .ne 5, 3), (18, .iconst 0, 1), (19, .ireturn, 1), (20, .iinc 2 1, 3), (23, .goto (-21), 3), (26, .iconst 1, 1), (27, .ireturn, 1)]
set_option maxRecDepth 100000 in
theorem dX7_formTree_p0_ok : (dtX7_formTree_p0.all fun e => decide (decode cX7_formTree e.1 = .ok e.2)) = true := by decide +kernel
theorem dX7_formTree_p0 (i : Nat) {pc : Nat} {q : Instr × Nat} (hi : dtX7_formTree_p0[i]? = some (pc, q)) : decode cX7_formTree pc = .ok q := dt_get dX7_formTree_p0_ok i hi
def dtX8_init_p0 : DT := [(0, .aload_n 0, 1), (1, .invokespecial 1, 3), (4, .aload_n 0, 1), (5, .bipush 100, 2), (7, .newarray .int, 2), (9, .putfield 7, 3), (12, .aload_n 0, 1), (13, .iconst 4, 1), (14, .newarray .int, 2), (16, .putfield 13, 3), (19, .aload_n 0, 1), (20, .bipush 28, 2), (22, .newarray .int, 2), (24, .putfield 16, 3), (27, .aload_n 0, 1), (28, .bipush 28, 2), (30, .newarray .int, 2), (32, .putfield 19, 3), (35, .aload_n 0, 1), (36, .sipush 196, 3), (39, .newarray .int, 2), (41, .putfield 22, 3), (44, .aload_n 0, 1), (45, .sipush 196, 3), (48, .newarray .int, 2), (50, .putfield 25, 3), (53, .aload_n 0, 1), (54, .bipush 84, 2), (56, .newarray .int, 2), (58, .putfield 28, 3), (61, .aload_n 0, 1), (62, .sipush 168, 3), (65, .newarray .int, 2), (67, .putfield 31, 3), (70, .aload_n 0, 1), (71, .iconst 2, 1), (72, .newarray .boolean, 2), (74, .putfield 34, 3), (77, .aload_n 0, 1), (78, .bipush 10, 2), (80, .putfield 38, 3), (83, .aload_n 0, 1), (84, .bipush 50, 2), (86, .newarray .int, 2), (88, .putfield 42, 3), (91, .aload_n 0, 1), (92, .bipush 50, 2), (94, .newarray .int, 2), (96, .putfield 45, 3), (99, .aload_n 0, 1), (100, .bipush 7, 2), (102, .newarray .int, 2), (104, .putfield 48, 3), (107, .aload_n 0, 1), (108, .bipush 49, 2), (110, .newarray .int, 2), (112, .putfield 51, 3), (115, .aload_n 0, 1), (116, .bipush 49, 2), (118, .newarray .int, 2), (120, .putfield 54, 3), (123, .aload_n 0, 1), (124, .bipush 7, 2), (126, .newarray .int, 2)]
set_option maxRecDepth 100000 in
theorem dX8_init_p0_ok : (dtX8_init_p0.all fun e => decide (decode cX8_init e.1 = .ok e.2)) = true := by decide +kernel
theorem dX8_init_p0 (i : Nat) {pc : Nat} {q : Instr × Nat} (hi : dtX8_init_p0[i]? = some (pc, q)) : decode cX8_init pc = .ok q := dt_get dX8_init_p0_ok i hi
def dtX8_init_p1 : DT := [(128, .putfield 57, 3), (131, .aload_n 0, 1), (132, .bipush 7, 2), (134, .newarray .int, 2), (136, .putfield 60, 3), (139, .aload_n 0, 1), (140, .bipush 49, 2), (142, .newarray .int, 2), (144, .putfield 63, 3), (147, .aload_n 0, 1), (148, .bipush 49, 2), (150, .newarray .int, 2), (152, .putfield 66, 3), (155, .aload_n 0, 1), (156, .bipush 49, 2), (158, .newarray .long, 2), (160, .putfield 69, 3), (163, .aload_n 0, 1), (164, .bipush 7, 2), (166, .newarray .int, 2), (168, .putfield 73, 3), (171, .aload_n 0, 1), (172, .bipush 7, 2), (174, .newarray .int, 2), (176, .putfield 76, 3), (179, .aload_n 0, 1), (180, .bipush 7, 2), (182, .newarray .int, 2), (184, .putfield 79, 3), (187, .aload_n 0, 1), (188, .sipush 200, 3), (191, .newarray .int, 2), (193, .putfield 82, 3), (196, .aload_n 0, 1), (197, .bipush 8, 2), (199, .newarray .int, 2), (201, .putfield 85, 3), (204, .aload_n 0, 1), (205, .bipush 8, 2), (207, .newarray .int, 2), (209, .putfield 88, 3), (212, .return_, 1)]
set_option maxRecDepth 100000 in
theorem dX8_init_p1_ok : (dtX8_init_p1.all fun e => decide (decode cX8_init e.1 = .ok e.2)) = true := by decide +kernel
theorem dX8_init_p1 (i : Nat) {pc : Nat} {q : Instr × Nat} (hi : dtX8_init_p1[i]? = some (pc, q)) : decode cX8_init pc = .ok q := dt_get dX8_init_p1_ok i hi
def dtX8_in_p0 : DT := [(0, .iload_n 0, 1), (1, .iload_n 1, 1), (2, .if_icmp .lt 12, 3), (5, .iload_n 0, 1), (6, .iload_n 2, 1), (7, .if_icmp .gt 7, 3), (10, .iconst 1, 1), (11, .goto 4, 3), (14, .iconst 0, 1), (15, .ireturn, 1)]
set_option maxRecDepth 100000 in
theorem dX8_in_p0_ok : (dtX8_in_p0.all fun e => decide (decode cX8_in e.1 = .ok e.2)) = true := by decide +kernel
theorem dX8_in_p0 (i : Nat) {pc : Nat} {q : Instr × Nat} (hi : dtX8_in_p0[i]? = some (pc, q)) : decode cX8_in pc = .ok q := dt_get dX8_in_p0_ok i hi
def dtX8_isSentence_p0 : DT := [(0, .iload_n 1, 1), (1, .iconst 0, 1), (2, .aload_n 0, 1), (3, .getfield 91, 3), (6, .iconst 1, 1), (7, .isub, 1), (8, .invokestatic 94, 3), (11, .ireturn, 1)]
set_option maxRecDepth 100000 in
theorem dX8_isSentence_p0_ok : (dtX8_isSentence_p0.all fun e => decide (decode cX8_isSentence e.1 = .ok e.2)) = true := by decide +kernel
theorem dX8_isSentence_p0 (i : Nat) {pc : Nat} {q : Instr × Nat} (hi : dtX8_isSentence_p0[i]? = some (pc, q)) : decode cX8_isSentence pc = .ok q := dt_get dX8_isSentence_p0_ok i hi
def dtX8_isWord_p0 : DT := [(0, .aload_n 0, 1), (1, .iload_n 1, 1), (2, .invokevirtual 98, 3), (5, .ifCond .eq 21, 3), (8, .iload_n 2, 1), (9, .iconst 1, 1), (10, .aload_n 0, 1), (11, .getfield 13, 3), (14, .iload_n 1, 1), (15, .iaload, 1), (16, .invokestatic 94, 3), (19, .ifCond .eq 7, 3), (22, .iconst 1, 1), (23, .goto 4, 3), (26, .iconst 0, 1), (27, .ireturn, 1)]
set_option maxRecDepth 100000 in
theorem dX8_isWord_p0_ok : (dtX8_isWord_p0.all fun e => decide (decode cX8_isWord e.1 = .ok e.2)) = true := by decide +kernel
theorem dX8_isWord_p0 (i : Nat) {pc : Nat} {q : Instr × Nat} (hi : dtX8_isWord_p0[i]? = some (pc, q)) : decode cX8_isWord pc = .ok q := dt_get dX8_isWord_p0_ok i hi
def dtX8_isArc_p0 : DT := [(0, .aload_n 0, 1), (1, .iload_n 1, 1), (2, .iload_n 3, 1), (3, .invokevirtual 102, 3), (6, .ifCond .eq 26, 3), (9, .iload_n 2, 1), (10, .iconst 0, 1), (11, .aload_n 0, 1), (12, .getfield 13, 3), (15, .iload_n 1, 1), (16, .iaload, 1), (17, .invokestatic 94, 3), (20, .ifCond .eq 12, 3), (23, .iload_n 2, 1), (24, .iload_n 3, 1), (25, .if_icmp .eq 7, 3), (28, .iconst 1, 1), (29, .goto 4, 3), (32, .iconst 0, 1), (33, .ireturn, 1)]
set_option maxRecDepth 100000 in
theorem dX8_isArc_p0_ok : (dtX8_isArc_p0.all fun e => decide (decode cX8_isArc e.1 = .ok e.2)) = true := by decide +kernel
theorem dX8_isArc_p0 (i : Nat) {pc : Nat} {q : Instr × Nat} (hi : dtX8_isArc_p0[i]? = some (pc, q)) : decode cX8_isArc pc = .ok q := dt_get dX8_isArc_p0_ok i hi
def dtX8_word_p0 : DT := [(0, .bipush 7, 2), (2, .iload_n 0, 1), (3, .imul, 1), (4, .iload_n 1, 1), (5, .iadd, 1), (6, .ireturn, 1)]
set_option maxRecDepth 100000 in
theorem dX8_word_p0_ok : (dtX8_word_p0.all fun e => decide (decode cX8_word e.1 = .ok e.2)) = true := by decide +kernel
theorem dX8_word_p0 (i : Nat) {pc : Nat} {q : Instr × Nat} (hi : dtX8_word_p0[i]? = some (pc, q)) : decode cX8_word pc = .ok q := dt_get dX8_word_p0_ok i hi
def dtX8_arc_p0 : DT := [(0, .bipush 49, 2), (2, .iload_n 0, 1), (3, .imul, 1), (4, .bipush 7, 2), (6, .iload_n 1, 1), (7, .imul, 1), (8, .iadd, 1), (9, .iload_n 2, 1), (10, .iadd, 1), (11, .ireturn, 1)]
set_option maxRecDepth 100000 in
theorem dX8_arc_p0_ok : (dtX8_arc_p0.all fun e => decide (decode cX8_arc e.1 = .ok e.2)) = true := by decide +kernel
theorem dX8_arc_p0 (i : Nat) {pc : Nat} {q : Instr × Nat} (hi : dtX8_arc_p0[i]? = some (pc, q)) : decode cX8_arc pc = .ok q := dt_get dX8_arc_p0_ok i hi
def dtX8_append_p0 : DT := [(0, .iload_n 1, 1), (1, .iconst 0, 1), (2, .bipush 127, 2), (4, .invokestatic 94, 3), (7, .ifCond .ne 6, 3), (10, .ldc 106, 2), (12, .ireturn, 1), (13, .aload_n 0, 1), (14, .getfield 107, 3), (17, .bipush 100, 2), (19, .if_icmp .ne 6, 3), (22, .ldc 110, 2), (24, .ireturn, 1), (25, .aload_n 0, 1), (26, .getfield 7, 3), (29, .aload_n 0, 1), (30, .getfield 107, 3), (33, .iload_n 1, 1), (34, .iastore, 1), (35, .aload_n 0, 1), (36, .dup, 1), (37, .getfield 107, 3), (40, .iconst 1, 1), (41, .iadd, 1), (42, .putfield 107, 3), (45, .aload_n 0, 1), (46, .getfield 107, 3), (49, .ireturn, 1)]
set_option maxRecDepth 100000 in
theorem dX8_append_p0_ok : (dtX8_append_p0.all fun e => decide (decode cX8_append e.1 = .ok e.2)) = true := by decide +kernel
theorem dX8_append_p0 (i : Nat) {pc : Nat} {q : Instr × Nat} (hi : dtX8_append_p0[i]? = some (pc, q)) : decode cX8_append pc = .ok q := dt_get dX8_append_p0_ok i hi
def dtX8_clearText_p0 : DT := [(0, .aload_n 0, 1), (1, .getfield 107, 3), (4, .istore_n 1, 1), (5, .aload_n 0, 1), (6, .iconst 0, 1), (7, .putfield 107, 3), (10, .iload_n 1, 1), (11, .ireturn, 1)]
set_option maxRecDepth 100000 in
theorem dX8_clearText_p0_ok : (dtX8_clearText_p0.all fun e => decide (decode cX8_clearText e.1 = .ok e.2)) = true := by decide +kernel
theorem dX8_clearText_p0 (i : Nat) {pc : Nat} {q : Instr × Nat} (hi : dtX8_clearText_p0[i]? = some (pc, q)) : decode cX8_clearText pc = .ok q := dt_get dX8_clearText_p0_ok i hi
def dtX8_isTree_p0 : DT := [(0, .iconst 1, 1), (1, .istore_n 3, 1), (2, .iconst 1, 1), (3, .istore 4, 2), (5, .iload 4, 2), (7, .iload_n 2, 1), (8, .if_icmp .gt 71, 3), (11, .iload 4, 2), (13, .istore 5, 2), (15, .iconst 0, 1), (16, .istore 6, 2), (18, .iload 6, 2), (20, .iload_n 2, 1), (21, .if_icmp .ge 37, 3), (24, .iload 5, 2), (26, .ifCond .le 32, 3), (29, .aload_n 0, 1), (30, .iload_n 1, 1), (31, .iload 5, 2), (33, .iadd, 1), (34, .iaload, 1), (35, .iload_n 2, 1), (36, .if_icmp .le 8, 3), (39, .iload 5, 2), (41, .goto 9, 3), (44, .aload_n 0, 1), (45, .iload_n 1, 1), (46, .iload 5, 2), (48, .iadd, 1), (49, .iaload, 1), (50, .istore 5, 2), (52, .iinc 6 1, 3), (55, .goto (-37), 3), (58, .iload_n 3, 1), (59, .ifCond .eq 12, 3), (62, .iload 5, 2), (64, .ifCond .ne 7, 3), (67, .iconst 1, 1), (68, .goto 4, 3), (71, .iconst 0, 1), (72, .istore_n 3, 1), (73, .iinc 4 1, 3), (76, .goto (-71), 3), (79, .iload_n 3, 1), (80, .ireturn, 1)]
set_option maxRecDepth 100000 in
theorem dX8_isTree_p0_ok : (dtX8_isTree_p0.all fun e => decide (decode cX8_isTree e.1 = .ok e.2)) = true := by decide +kernel
theorem dX8_isTree_p0 (i : Nat) {pc : Nat} {q : Instr × Nat} (hi : dtX8_isTree_p0[i]? = some (pc, q)) : decode cX8_isTree pc = .ok q := dt_get dX8_isTree_p0_ok i hi
def dtX8_faultOf_p0 : DT := [(0, .aload_n 0, 1), (1, .iconst 0, 1), (2, .putfield 111, 3), (5, .iconst 0, 1), (6, .istore_n 1, 1), (7, .aload_n 0, 1), (8, .getfield 107, 3), (11, .ifCond .ne 5, 3), (14, .iconst 0, 1), (15, .ireturn, 1), (16, .iload_n 1, 1), (17, .aload_n 0, 1), (18, .getfield 107, 3), (21, .if_icmp .ge 174, 3), (24, .aload_n 0, 1), (25, .getfield 45, 3), (28, .aload_n 0, 1), (29, .getfield 111, 3), (32, .iload_n 1, 1), (33, .iastore, 1), (34, .iconst 0, 1), (35, .istore_n 2, 1), (36, .iload_n 2, 1), (37, .bipush 6, 2), (39, .if_icmp .ge 93, 3), (42, .iload_n 1, 1), (43, .aload_n 0, 1), (44, .getfield 107, 3), (47, .if_icmp .ge 85, 3), (50, .aload_n 0, 1), (51, .getfield 7, 3), (54, .iload_n 1, 1), (55, .iaload, 1), (56, .bipush 65, 2), (58, .bipush 72, 2), (60, .invokestatic 94, 3), (63, .ifCond .eq 69, 3), (66, .iinc 2 1, 3), (69, .iinc 1 1, 3), (72, .iload_n 1, 1), (73, .aload_n 0, 1), (74, .getfield 107, 3), (77, .if_icmp .eq 32, 3), (80, .aload_n 0, 1), (81, .getfield 7, 3), (84, .iload_n 1, 1), (85, .iaload, 1), (86, .bipush 48, 2), (88, .bipush 57, 2), (90, .invokestatic 94, 3), (93, .ifCond .eq 16, 3), (96, .aload_n 0, 1), (97, .getfield 7, 3), (100, .iload_n 1, 1), (101, .iaload, 1), (102, .bipush 48, 2), (104, .isub, 1), (105, .iload_n 2, 1), (106, .if_icmp .ne 5, 3), (109, .iload_n 1, 1), (110, .ireturn, 1), (111, .aload_n 0, 1), (112, .getfield 48, 3), (115, .iload_n 2, 1)]
set_option maxRecDepth 100000 in
theorem dX8_faultOf_p0_ok : (dtX8_faultOf_p0.all fun e => decide (decode cX8_faultOf e.1 = .ok e.2)) = true := by decide +kernel
theorem dX8_faultOf_p0 (i : Nat) {pc : Nat} {q : Instr × Nat} (hi : dtX8_faultOf_p0[i]? = some (pc, q)) : decode cX8_faultOf pc = .ok q := dt_get dX8_faultOf_p0_ok i hi
def dtX8_faultOf_p1 : DT := [(116, .aload_n 0, 1), (117, .getfield 7, 3), (120, .iload_n 1, 1), (121, .iaload, 1), (122, .bipush 48, 2), (124, .isub, 1), (125, .iastore, 1), (126, .iinc 1 1, 3), (129, .goto (-93), 3), (132, .iload_n 1, 1), (133, .aload_n 0, 1), (134, .getfield 107, 3), (137, .if_icmp .eq 30, 3), (140, .iload_n 2, 1), (141, .ifCond .eq 26, 3), (144, .aload_n 0, 1), (145, .getfield 7, 3), (148, .iload_n 1, 1), (149, .iaload, 1), (150, .bipush 59, 2), (152, .if_icmp .ne 15, 3), (155, .aload_n 0, 1), (156, .getfield 48, 3), (159, .iconst 0, 1), (160, .iload_n 2, 1), (161, .invokestatic 114, 3), (164, .ifCond .ne 5, 3), (167, .iload_n 1, 1), (168, .ireturn, 1), (169, .aload_n 0, 1), (170, .getfield 42, 3), (173, .aload_n 0, 1), (174, .getfield 111, 3), (177, .iload_n 2, 1), (178, .iastore, 1), (179, .aload_n 0, 1), (180, .dup, 1), (181, .getfield 111, 3), (184, .iconst 1, 1), (185, .iadd, 1), (186, .putfield 111, 3), (189, .iinc 1 1, 3), (192, .goto (-176), 3), (195, .ldc 118, 2), (197, .ireturn, 1)]
set_option maxRecDepth 100000 in
theorem dX8_faultOf_p1_ok : (dtX8_faultOf_p1.all fun e => decide (decode cX8_faultOf e.1 = .ok e.2)) = true := by decide +kernel
theorem dX8_faultOf_p1 (i : Nat) {pc : Nat} {q : Instr × Nat} (hi : dtX8_faultOf_p1[i]? = some (pc, q)) : decode cX8_faultOf pc = .ok q := dt_get dX8_faultOf_p1_ok i hi
def dtX8_faultPosition_p0 : DT := [(0, .aload_n 0, 1), (1, .invokevirtual 119, 3), (4, .ireturn, 1)]
set_option maxRecDepth 100000 in
theorem dX8_faultPosition_p0_ok : (dtX8_faultPosition_p0.all fun e => decide (decode cX8_faultPosition e.1 = .ok e.2)) = true := by decide +kernel
theorem dX8_faultPosition_p0 (i : Nat) {pc : Nat} {q : Instr × Nat} (hi : dtX8_faultPosition_p0[i]? = some (pc, q)) : decode cX8_faultPosition pc = .ok q := dt_get dX8_faultPosition_p0_ok i hi
def dtX8_read_p0 : DT := [(0, .aload_n 0, 1), (1, .invokevirtual 119, 3), (4, .ldc 118, 2), (6, .if_icmp .eq 6, 3), (9, .ldc 123, 2), (11, .ireturn, 1), (12, .aload_n 0, 1), (13, .getfield 91, 3), (16, .aload_n 0, 1), (17, .getfield 111, 3), (20, .iadd, 1), (21, .iconst 4, 1), (22, .if_icmp .le 6, 3), (25, .ldc 110, 2), (27, .ireturn, 1), (28, .iconst 0, 1), (29, .istore_n 1, 1), (30, .iload_n 1, 1), (31, .aload_n 0, 1), (32, .getfield 111, 3), (35, .if_icmp .ge 160, 3), (38, .bipush 49, 2), (40, .aload_n 0, 1), (41, .getfield 91, 3), (44, .imul, 1), (45, .istore_n 2, 1), (46, .iload_n 2, 1), (47, .bipush 49, 2), (49, .aload_n 0, 1), (50, .getfield 91, 3), (53, .imul, 1), (54, .bipush 49, 2), (56, .iadd, 1), (57, .if_icmp .ge 23, 3), (60, .aload_n 0, 1), (61, .getfield 22, 3), (64, .iload_n 2, 1), (65, .iconst 0, 1), (66, .iastore, 1), (67, .aload_n 0, 1), (68, .getfield 25, 3), (71, .iload_n 2, 1), (72, .iconst 0, 1), (73, .iastore, 1), (74, .iinc 2 1, 3), (77, .goto (-31), 3), (80, .aload_n 0, 1), (81, .getfield 13, 3), (84, .aload_n 0, 1), (85, .getfield 91, 3), (88, .aload_n 0, 1), (89, .getfield 42, 3), (92, .iload_n 1, 1), (93, .iaload, 1), (94, .iastore, 1), (95, .iconst 1, 1), (96, .istore_n 2, 1), (97, .iload_n 2, 1), (98, .aload_n 0, 1), (99, .getfield 42, 3), (102, .iload_n 1, 1), (103, .iaload, 1), (104, .if_icmp .gt 75, 3), (107, .aload_n 0, 1)]
set_option maxRecDepth 100000 in
theorem dX8_read_p0_ok : (dtX8_read_p0.all fun e => decide (decode cX8_read e.1 = .ok e.2)) = true := by decide +kernel
theorem dX8_read_p0 (i : Nat) {pc : Nat} {q : Instr × Nat} (hi : dtX8_read_p0[i]? = some (pc, q)) : decode cX8_read pc = .ok q := dt_get dX8_read_p0_ok i hi
def dtX8_read_p1 : DT := [(108, .getfield 16, 3), (111, .aload_n 0, 1), (112, .getfield 91, 3), (115, .iload_n 2, 1), (116, .invokestatic 124, 3), (119, .aload_n 0, 1), (120, .getfield 7, 3), (123, .aload_n 0, 1), (124, .getfield 45, 3), (127, .iload_n 1, 1), (128, .iaload, 1), (129, .iconst 2, 1), (130, .iload_n 2, 1), (131, .imul, 1), (132, .iadd, 1), (133, .iconst 2, 1), (134, .isub, 1), (135, .iaload, 1), (136, .bipush 65, 2), (138, .isub, 1), (139, .iastore, 1), (140, .aload_n 0, 1), (141, .getfield 19, 3), (144, .aload_n 0, 1), (145, .getfield 91, 3), (148, .iload_n 2, 1), (149, .invokestatic 124, 3), (152, .aload_n 0, 1), (153, .getfield 7, 3), (156, .aload_n 0, 1), (157, .getfield 45, 3), (160, .iload_n 1, 1), (161, .iaload, 1), (162, .iconst 2, 1), (163, .iload_n 2, 1), (164, .imul, 1), (165, .iadd, 1), (166, .iconst 1, 1), (167, .isub, 1), (168, .iaload, 1), (169, .bipush 48, 2), (171, .isub, 1), (172, .iastore, 1), (173, .iinc 2 1, 3), (176, .goto (-79), 3), (179, .aload_n 0, 1), (180, .dup, 1), (181, .getfield 91, 3), (184, .iconst 1, 1), (185, .iadd, 1), (186, .putfield 91, 3), (189, .iinc 1 1, 3), (192, .goto (-162), 3), (195, .aload_n 0, 1), (196, .getfield 91, 3), (199, .ireturn, 1)]
set_option maxRecDepth 100000 in
theorem dX8_read_p1_ok : (dtX8_read_p1.all fun e => decide (decode cX8_read e.1 = .ok e.2)) = true := by decide +kernel
theorem dX8_read_p1 (i : Nat) {pc : Nat} {q : Instr × Nat} (hi : dtX8_read_p1[i]? = some (pc, q)) : decode cX8_read pc = .ok q := dt_get dX8_read_p1_ok i hi
def dtX8_remove_p0 : DT := [(0, .aload_n 0, 1), (1, .iload_n 1, 1), (2, .invokevirtual 98, 3), (5, .ifCond .ne 6, 3), (8, .ldc 128, 2), (10, .ireturn, 1), (11, .aload_n 0, 1), (12, .dup, 1), (13, .getfield 91, 3), (16, .iconst 1, 1), (17, .isub, 1), (18, .putfield 91, 3), (21, .iload_n 1, 1), (22, .istore_n 2, 1), (23, .iload_n 2, 1), (24, .aload_n 0, 1), (25, .getfield 91, 3), (28, .if_icmp .ge 145, 3), (31, .aload_n 0, 1), (32, .getfield 13, 3), (35, .iload_n 2, 1), (36, .aload_n 0, 1), (37, .getfield 13, 3), (40, .iload_n 2, 1), (41, .iconst 1, 1), (42, .iadd, 1), (43, .iaload, 1), (44, .iastore, 1), (45, .iconst 0, 1), (46, .istore_n 3, 1), (47, .iload_n 3, 1), (48, .bipush 7, 2), (50, .if_icmp .ge 53, 3), (53, .aload_n 0, 1), (54, .getfield 16, 3), (57, .iload_n 2, 1), (58, .iload_n 3, 1), (59, .invokestatic 124, 3), (62, .aload_n 0, 1), (63, .getfield 16, 3), (66, .iload_n 2, 1), (67, .iconst 1, 1), (68, .iadd, 1), (69, .iload_n 3, 1), (70, .invokestatic 124, 3), (73, .iaload, 1), (74, .iastore, 1), (75, .aload_n 0, 1), (76, .getfield 19, 3), (79, .iload_n 2, 1), (80, .iload_n 3, 1), (81, .invokestatic 124, 3), (84, .aload_n 0, 1), (85, .getfield 19, 3), (88, .iload_n 2, 1), (89, .iconst 1, 1), (90, .iadd, 1), (91, .iload_n 3, 1), (92, .invokestatic 124, 3), (95, .iaload, 1), (96, .iastore, 1), (97, .iinc 3 1, 3), (100, .goto (-53), 3), (103, .iconst 0, 1)]
set_option maxRecDepth 100000 in
theorem dX8_remove_p0_ok : (dtX8_remove_p0.all fun e => decide (decode cX8_remove e.1 = .ok e.2)) = true := by decide +kernel
theorem dX8_remove_p0 (i : Nat) {pc : Nat} {q : Instr × Nat} (hi : dtX8_remove_p0[i]? = some (pc, q)) : decode cX8_remove pc = .ok q := dt_get dX8_remove_p0_ok i hi
def dtX8_remove_p1 : DT := [(104, .istore_n 3, 1), (105, .iload_n 3, 1), (106, .bipush 49, 2), (108, .if_icmp .ge 59, 3), (111, .aload_n 0, 1), (112, .getfield 22, 3), (115, .bipush 49, 2), (117, .iload_n 2, 1), (118, .imul, 1), (119, .iload_n 3, 1), (120, .iadd, 1), (121, .aload_n 0, 1), (122, .getfield 22, 3), (125, .bipush 49, 2), (127, .iload_n 2, 1), (128, .imul, 1), (129, .bipush 49, 2), (131, .iadd, 1), (132, .iload_n 3, 1), (133, .iadd, 1), (134, .iaload, 1), (135, .iastore, 1), (136, .aload_n 0, 1), (137, .getfield 25, 3), (140, .bipush 49, 2), (142, .iload_n 2, 1), (143, .imul, 1), (144, .iload_n 3, 1), (145, .iadd, 1), (146, .aload_n 0, 1), (147, .getfield 25, 3), (150, .bipush 49, 2), (152, .iload_n 2, 1), (153, .imul, 1), (154, .bipush 49, 2), (156, .iadd, 1), (157, .iload_n 3, 1), (158, .iadd, 1), (159, .iaload, 1), (160, .iastore, 1), (161, .iinc 3 1, 3), (164, .goto (-59), 3), (167, .iinc 2 1, 3), (170, .goto (-147), 3), (173, .aload_n 0, 1), (174, .getfield 91, 3), (177, .ireturn, 1)]
set_option maxRecDepth 100000 in
theorem dX8_remove_p1_ok : (dtX8_remove_p1.all fun e => decide (decode cX8_remove e.1 = .ok e.2)) = true := by decide +kernel
theorem dX8_remove_p1 (i : Nat) {pc : Nat} {q : Instr × Nat} (hi : dtX8_remove_p1[i]? = some (pc, q)) : decode cX8_remove pc = .ok q := dt_get dX8_remove_p1_ok i hi
def dtX8_sentences_p0 : DT := [(0, .aload_n 0, 1), (1, .getfield 91, 3), (4, .ireturn, 1)]
set_option maxRecDepth 100000 in
theorem dX8_sentences_p0_ok : (dtX8_sentences_p0.all fun e => decide (decode cX8_sentences e.1 = .ok e.2)) = true := by decide +kernel
theorem dX8_sentences_p0 (i : Nat) {pc : Nat} {q : Instr × Nat} (hi : dtX8_sentences_p0[i]? = some (pc, q)) : decode cX8_sentences pc = .ok q := dt_get dX8_sentences_p0_ok i hi
def dtX8_words_p0 : DT := [(0, .aload_n 0, 1), (1, .iload_n 1, 1), (2, .invokevirtual 98, 3), (5, .ifCond .eq 12, 3), (8, .aload_n 0, 1), (9, .getfield 13, 3), (12, .iload_n 1, 1), (13, .iaload, 1), (14, .goto 5, 3), (17, .ldc 128, 2), (19, .ireturn, 1)]
set_option maxRecDepth 100000 in
theorem dX8_words_p0_ok : (dtX8_words_p0.all fun e => decide (decode cX8_words e.1 = .ok e.2)) = true := by decide +kernel
theorem dX8_words_p0 (i : Nat) {pc : Nat} {q : Instr × Nat} (hi : dtX8_words_p0[i]? = some (pc, q)) : decode cX8_words pc = .ok q := dt_get dX8_words_p0_ok i hi
def dtX8_tag_p0 : DT := [(0, .aload_n 0, 1), (1, .iload_n 1, 1), (2, .iload_n 2, 1), (3, .invokevirtual 102, 3), (6, .ifCond .eq 16, 3), (9, .aload_n 0, 1), (10, .getfield 16, 3), (13, .iload_n 1, 1), (14, .iload_n 2, 1), (15, .invokestatic 124, 3), (18, .iaload, 1), (19, .goto 5, 3), (22, .ldc 128, 2), (24, .ireturn, 1)]
set_option maxRecDepth 100000 in
theorem dX8_tag_p0_ok : (dtX8_tag_p0.all fun e => decide (decode cX8_tag e.1 = .ok e.2)) = true := by decide +kernel
theorem dX8_tag_p0 (i : Nat) {pc : Nat} {q : Instr × Nat} (hi : dtX8_tag_p0[i]? = some (pc, q)) : decode cX8_tag pc = .ok q := dt_get dX8_tag_p0_ok i hi
def dtX8_annotatedHead_p0 : DT := [(0, .aload_n 0, 1), (1, .iload_n 1, 1), (2, .iload_n 2, 1), (3, .invokevirtual 102, 3), (6, .ifCond .eq 16, 3), (9, .aload_n 0, 1), (10, .getfield 19, 3), (13, .iload_n 1, 1), (14, .iload_n 2, 1), (15, .invokestatic 124, 3), (18, .iaload, 1), (19, .goto 5, 3), (22, .ldc 128, 2), (24, .ireturn, 1)]
set_option maxRecDepth 100000 in
theorem dX8_annotatedHead_p0_ok : (dtX8_annotatedHead_p0.all fun e => decide (decode cX8_annotatedHead e.1 = .ok e.2)) = true := by decide +kernel
theorem dX8_annotatedHead_p0 (i : Nat) {pc : Nat} {q : Instr × Nat} (hi : dtX8_annotatedHead_p0[i]? = some (pc, q)) : decode cX8_annotatedHead pc = .ok q := dt_get dX8_annotatedHead_p0_ok i hi
def dtX8_annotate_p0 : DT := [(0, .aload_n 0, 1), (1, .iload_n 1, 1), (2, .iload_n 3, 1), (3, .iload_n 2, 1), (4, .invokevirtual 129, 3), (7, .ifCond .ne 6, 3), (10, .ldc 128, 2), (12, .ireturn, 1), (13, .iload_n 1, 1), (14, .iload_n 2, 1), (15, .invokestatic 124, 3), (18, .istore 4, 2), (20, .aload_n 0, 1), (21, .getfield 19, 3), (24, .iload 4, 2), (26, .iaload, 1), (27, .istore 5, 2), (29, .aload_n 0, 1), (30, .getfield 19, 3), (33, .iload 4, 2), (35, .iload_n 3, 1), (36, .iastore, 1), (37, .aload_n 0, 1), (38, .getfield 19, 3), (41, .bipush 7, 2), (43, .iload_n 1, 1), (44, .imul, 1), (45, .aload_n 0, 1), (46, .getfield 13, 3), (49, .iload_n 1, 1), (50, .iaload, 1), (51, .invokestatic 114, 3), (54, .ifCond .ne 15, 3), (57, .aload_n 0, 1), (58, .getfield 19, 3), (61, .iload 4, 2), (63, .iload 5, 2), (65, .iastore, 1), (66, .ldc 106, 2), (68, .ireturn, 1), (69, .iload 5, 2), (71, .ireturn, 1)]
set_option maxRecDepth 100000 in
theorem dX8_annotate_p0_ok : (dtX8_annotate_p0.all fun e => decide (decode cX8_annotate e.1 = .ok e.2)) = true := by decide +kernel
theorem dX8_annotate_p0 (i : Nat) {pc : Nat} {q : Instr × Nat} (hi : dtX8_annotate_p0[i]? = some (pc, q)) : decode cX8_annotate pc = .ok q := dt_get dX8_annotate_p0_ok i hi
def dtX8_tagPlace_p0 : DT := [(0, .bipush 8, 2), (2, .iload_n 0, 1), (3, .imul, 1), (4, .iload_n 1, 1), (5, .iadd, 1), (6, .ireturn, 1)]
set_option maxRecDepth 100000 in
theorem dX8_tagPlace_p0_ok : (dtX8_tagPlace_p0.all fun e => decide (decode cX8_tagPlace e.1 = .ok e.2)) = true := by decide +kernel
theorem dX8_tagPlace_p0 (i : Nat) {pc : Nat} {q : Instr × Nat} (hi : dtX8_tagPlace_p0[i]? = some (pc, q)) : decode cX8_tagPlace pc = .ok q := dt_get dX8_tagPlace_p0_ok i hi
def dtX8_distancePlace_p0 : DT := [(0, .bipush 71, 2), (2, .bipush 6, 2), (4, .iload_n 0, 1), (5, .imul, 1), (6, .iadd, 1), (7, .iload_n 1, 1), (8, .iadd, 1), (9, .ireturn, 1)]
set_option maxRecDepth 100000 in
theorem dX8_distancePlace_p0_ok : (dtX8_distancePlace_p0.all fun e => decide (decode cX8_distancePlace e.1 = .ok e.2)) = true := by decide +kernel
theorem dX8_distancePlace_p0 (i : Nat) {pc : Nat} {q : Instr × Nat} (hi : dtX8_distancePlace_p0[i]? = some (pc, q)) : decode cX8_distancePlace pc = .ok q := dt_get dX8_distancePlace_p0_ok i hi
def dtX8_areTags_p0 : DT := [(0, .iload_n 0, 1), (1, .iconst 0, 1), (2, .bipush 8, 2), (4, .invokestatic 94, 3), (7, .ifCond .eq 17, 3), (10, .iload_n 1, 1), (11, .iconst 0, 1), (12, .bipush 7, 2), (14, .invokestatic 94, 3), (17, .ifCond .eq 7, 3), (20, .iconst 1, 1), (21, .goto 4, 3), (24, .iconst 0, 1), (25, .ireturn, 1)]
set_option maxRecDepth 100000 in
theorem dX8_areTags_p0_ok : (dtX8_areTags_p0.all fun e => decide (decode cX8_areTags e.1 = .ok e.2)) = true := by decide +kernel
theorem dX8_areTags_p0 (i : Nat) {pc : Nat} {q : Instr × Nat} (hi : dtX8_areTags_p0[i]? = some (pc, q)) : decode cX8_areTags pc = .ok q := dt_get dX8_areTags_p0_ok i hi
def dtX8_isDistance_p0 : DT := [(0, .iload_n 0, 1), (1, .iconst 0, 1), (2, .iconst 1, 1), (3, .invokestatic 94, 3), (6, .ifCond .eq 17, 3), (9, .iload_n 1, 1), (10, .iconst 1, 1), (11, .bipush 6, 2), (13, .invokestatic 94, 3), (16, .ifCond .eq 7, 3), (19, .iconst 1, 1), (20, .goto 4, 3), (23, .iconst 0, 1), (24, .ireturn, 1)]
set_option maxRecDepth 100000 in
theorem dX8_isDistance_p0_ok : (dtX8_isDistance_p0.all fun e => decide (decode cX8_isDistance e.1 = .ok e.2)) = true := by decide +kernel
theorem dX8_isDistance_p0 (i : Nat) {pc : Nat} {q : Instr × Nat} (hi : dtX8_isDistance_p0[i]? = some (pc, q)) : decode cX8_isDistance pc = .ok q := dt_get dX8_isDistance_p0_ok i hi
def dtX8_sets_p0 : DT := [(0, .iload_n 2, 1), (1, .bipush (-99), 2), (3, .bipush 99, 2), (5, .invokestatic 94, 3), (8, .ifCond .ne 6, 3), (11, .ldc 106, 2), (13, .ireturn, 1), (14, .aload_n 0, 1), (15, .getfield 28, 3), (18, .iload_n 1, 1), (19, .iaload, 1), (20, .istore_n 3, 1), (21, .aload_n 0, 1), (22, .getfield 28, 3), (25, .iload_n 1, 1), (26, .iload_n 2, 1), (27, .iastore, 1), (28, .iload_n 3, 1), (29, .ireturn, 1)]
set_option maxRecDepth 100000 in
theorem dX8_sets_p0_ok : (dtX8_sets_p0.all fun e => decide (decode cX8_sets e.1 = .ok e.2)) = true := by decide +kernel
theorem dX8_sets_p0 (i : Nat) {pc : Nat} {q : Instr × Nat} (hi : dtX8_sets_p0[i]? = some (pc, q)) : decode cX8_sets pc = .ok q := dt_get dX8_sets_p0_ok i hi
def dtX8_setTagWeight_p0 : DT := [(0, .iload_n 1, 1), (1, .iload_n 2, 1), (2, .invokestatic 132, 3), (5, .ifCond .eq 16, 3), (8, .aload_n 0, 1), (9, .iload_n 1, 1), (10, .iload_n 2, 1), (11, .invokestatic 135, 3), (14, .iload_n 3, 1), (15, .invokevirtual 138, 3), (18, .goto 5, 3), (21, .ldc 128, 2), (23, .ireturn, 1)]
set_option maxRecDepth 100000 in
theorem dX8_setTagWeight_p0_ok : (dtX8_setTagWeight_p0.all fun e => decide (decode cX8_setTagWeight e.1 = .ok e.2)) = true := by decide +kernel
theorem dX8_setTagWeight_p0 (i : Nat) {pc : Nat} {q : Instr × Nat} (hi : dtX8_setTagWeight_p0[i]? = some (pc, q)) : decode cX8_setTagWeight pc = .ok q := dt_get dX8_setTagWeight_p0_ok i hi
def dtX8_setDistanceWeight_p0 : DT := [(0, .iload_n 1, 1), (1, .iload_n 2, 1), (2, .invokestatic 141, 3), (5, .ifCond .eq 16, 3), (8, .aload_n 0, 1), (9, .iload_n 1, 1), (10, .iload_n 2, 1), (11, .invokestatic 144, 3), (14, .iload_n 3, 1), (15, .invokevirtual 138, 3), (18, .goto 5, 3), (21, .ldc 128, 2), (23, .ireturn, 1)]
set_option maxRecDepth 100000 in
theorem dX8_setDistanceWeight_p0_ok : (dtX8_setDistanceWeight_p0.all fun e => decide (decode cX8_setDistanceWeight e.1 = .ok e.2)) = true := by decide +kernel
theorem dX8_setDistanceWeight_p0 (i : Nat) {pc : Nat} {q : Instr × Nat} (hi : dtX8_setDistanceWeight_p0[i]? = some (pc, q)) : decode cX8_setDistanceWeight pc = .ok q := dt_get dX8_setDistanceWeight_p0_ok i hi
def dtX8_tagWeight_p0 : DT := [(0, .iload_n 1, 1), (1, .iload_n 2, 1), (2, .invokestatic 132, 3), (5, .ifCond .eq 16, 3), (8, .aload_n 0, 1), (9, .getfield 28, 3), (12, .iload_n 1, 1), (13, .iload_n 2, 1), (14, .invokestatic 135, 3), (17, .iaload, 1), (18, .goto 5, 3), (21, .ldc 128, 2), (23, .ireturn, 1)]
set_option maxRecDepth 100000 in
theorem dX8_tagWeight_p0_ok : (dtX8_tagWeight_p0.all fun e => decide (decode cX8_tagWeight e.1 = .ok e.2)) = true := by decide +kernel
theorem dX8_tagWeight_p0 (i : Nat) {pc : Nat} {q : Instr × Nat} (hi : dtX8_tagWeight_p0[i]? = some (pc, q)) : decode cX8_tagWeight pc = .ok q := dt_get dX8_tagWeight_p0_ok i hi
def dtX8_distanceWeight_p0 : DT := [(0, .iload_n 1, 1), (1, .iload_n 2, 1), (2, .invokestatic 141, 3), (5, .ifCond .eq 16, 3), (8, .aload_n 0, 1), (9, .getfield 28, 3), (12, .iload_n 1, 1), (13, .iload_n 2, 1), (14, .invokestatic 144, 3), (17, .iaload, 1), (18, .goto 5, 3), (21, .ldc 128, 2), (23, .ireturn, 1)]
set_option maxRecDepth 100000 in
theorem dX8_distanceWeight_p0_ok : (dtX8_distanceWeight_p0.all fun e => decide (decode cX8_distanceWeight e.1 = .ok e.2)) = true := by decide +kernel
theorem dX8_distanceWeight_p0 (i : Nat) {pc : Nat} {q : Instr × Nat} (hi : dtX8_distanceWeight_p0[i]? = some (pc, q)) : decode cX8_distanceWeight pc = .ok q := dt_get dX8_distanceWeight_p0_ok i hi
def dtX8_setBias_p0 : DT := [(0, .aload_n 0, 1), (1, .iload_n 1, 1), (2, .iload_n 2, 1), (3, .iload_n 3, 1), (4, .invokevirtual 129, 3), (7, .ifCond .ne 6, 3), (10, .ldc 128, 2), (12, .ireturn, 1), (13, .iload 4, 2), (15, .bipush (-99), 2), (17, .bipush 99, 2), (19, .invokestatic 94, 3), (22, .ifCond .ne 6, 3), (25, .ldc 106, 2), (27, .ireturn, 1), (28, .iload_n 1, 1), (29, .iload_n 2, 1), (30, .iload_n 3, 1), (31, .invokestatic 147, 3), (34, .istore 5, 2), (36, .aload_n 0, 1), (37, .getfield 22, 3), (40, .iload 5, 2), (42, .iaload, 1), (43, .istore 6, 2), (45, .aload_n 0, 1), (46, .getfield 22, 3), (49, .iload 5, 2), (51, .iload 4, 2), (53, .iastore, 1), (54, .iload 6, 2), (56, .ireturn, 1)]
set_option maxRecDepth 100000 in
theorem dX8_setBias_p0_ok : (dtX8_setBias_p0.all fun e => decide (decode cX8_setBias e.1 = .ok e.2)) = true := by decide +kernel
theorem dX8_setBias_p0 (i : Nat) {pc : Nat} {q : Instr × Nat} (hi : dtX8_setBias_p0[i]? = some (pc, q)) : decode cX8_setBias pc = .ok q := dt_get dX8_setBias_p0_ok i hi
def dtX8_constrain_p0 : DT := [(0, .aload_n 0, 1), (1, .iload_n 1, 1), (2, .iload_n 2, 1), (3, .iload_n 3, 1), (4, .invokevirtual 129, 3), (7, .ifCond .ne 6, 3), (10, .ldc 128, 2), (12, .ireturn, 1), (13, .iload 4, 2), (15, .iconst 0, 1), (16, .iconst 2, 1), (17, .invokestatic 94, 3), (20, .ifCond .ne 6, 3), (23, .ldc 106, 2), (25, .ireturn, 1), (26, .iload_n 1, 1), (27, .iload_n 2, 1), (28, .iload_n 3, 1), (29, .invokestatic 147, 3), (32, .istore 5, 2), (34, .aload_n 0, 1), (35, .getfield 25, 3), (38, .iload 5, 2), (40, .iaload, 1), (41, .istore 6, 2), (43, .aload_n 0, 1), (44, .getfield 25, 3), (47, .iload 5, 2), (49, .iload 4, 2), (51, .iastore, 1), (52, .iload 6, 2), (54, .ireturn, 1)]
set_option maxRecDepth 100000 in
theorem dX8_constrain_p0_ok : (dtX8_constrain_p0.all fun e => decide (decode cX8_constrain e.1 = .ok e.2)) = true := by decide +kernel
theorem dX8_constrain_p0 (i : Nat) {pc : Nat} {q : Instr × Nat} (hi : dtX8_constrain_p0[i]? = some (pc, q)) : decode cX8_constrain pc = .ok q := dt_get dX8_constrain_p0_ok i hi
def dtX8_setSingleRoot_p0 : DT := [(0, .aload_n 0, 1), (1, .getfield 151, 3), (4, .ifCond .eq 7, 3), (7, .iconst 1, 1), (8, .goto 4, 3), (11, .iconst 0, 1), (12, .istore_n 2, 1), (13, .aload_n 0, 1), (14, .iload_n 1, 1), (15, .putfield 151, 3), (18, .iload_n 2, 1), (19, .ireturn, 1)]
set_option maxRecDepth 100000 in
theorem dX8_setSingleRoot_p0_ok : (dtX8_setSingleRoot_p0.all fun e => decide (decode cX8_setSingleRoot e.1 = .ok e.2)) = true := by decide +kernel
theorem dX8_setSingleRoot_p0 (i : Nat) {pc : Nat} {q : Instr × Nat} (hi : dtX8_setSingleRoot_p0[i]? = some (pc, q)) : decode cX8_setSingleRoot pc = .ok q := dt_get dX8_setSingleRoot_p0_ok i hi
def dtX8_setProjective_p0 : DT := [(0, .aload_n 0, 1), (1, .getfield 155, 3), (4, .ifCond .eq 7, 3), (7, .iconst 1, 1), (8, .goto 4, 3), (11, .iconst 0, 1), (12, .istore_n 2, 1), (13, .aload_n 0, 1), (14, .iload_n 1, 1), (15, .putfield 155, 3), (18, .iload_n 2, 1), (19, .ireturn, 1)]
set_option maxRecDepth 100000 in
theorem dX8_setProjective_p0_ok : (dtX8_setProjective_p0.all fun e => decide (decode cX8_setProjective e.1 = .ok e.2)) = true := by decide +kernel
theorem dX8_setProjective_p0 (i : Nat) {pc : Nat} {q : Instr × Nat} (hi : dtX8_setProjective_p0[i]? = some (pc, q)) : decode cX8_setProjective pc = .ok q := dt_get dX8_setProjective_p0_ok i hi
def dtX8_setShift_p0 : DT := [(0, .iload_n 1, 1), (1, .bipush (-100), 2), (3, .bipush 100, 2), (5, .invokestatic 94, 3), (8, .ifCond .ne 6, 3), (11, .ldc 106, 2), (13, .ireturn, 1), (14, .aload_n 0, 1), (15, .getfield 38, 3), (18, .istore_n 2, 1), (19, .aload_n 0, 1), (20, .iload_n 1, 1), (21, .putfield 38, 3), (24, .iload_n 2, 1), (25, .ireturn, 1)]
set_option maxRecDepth 100000 in
theorem dX8_setShift_p0_ok : (dtX8_setShift_p0.all fun e => decide (decode cX8_setShift e.1 = .ok e.2)) = true := by decide +kernel
theorem dX8_setShift_p0 (i : Nat) {pc : Nat} {q : Instr × Nat} (hi : dtX8_setShift_p0[i]? = some (pc, q)) : decode cX8_setShift pc = .ok q := dt_get dX8_setShift_p0_ok i hi
def dtX8_tagOf_p0 : DT := [(0, .iload_n 2, 1), (1, .ifCond .ne 8, 3), (4, .bipush 8, 2), (6, .goto 13, 3), (9, .aload_n 0, 1), (10, .getfield 16, 3), (13, .iload_n 1, 1), (14, .iload_n 2, 1), (15, .invokestatic 124, 3), (18, .iaload, 1), (19, .ireturn, 1)]
set_option maxRecDepth 100000 in
theorem dX8_tagOf_p0_ok : (dtX8_tagOf_p0.all fun e => decide (decode cX8_tagOf e.1 = .ok e.2)) = true := by decide +kernel
theorem dX8_tagOf_p0 (i : Nat) {pc : Nat} {q : Instr × Nat} (hi : dtX8_tagOf_p0[i]? = some (pc, q)) : decode cX8_tagOf pc = .ok q := dt_get dX8_tagOf_p0_ok i hi
def dtX8_tagPlaceOf_p0 : DT := [(0, .aload_n 0, 1), (1, .iload_n 1, 1), (2, .iload_n 2, 1), (3, .invokevirtual 158, 3), (6, .aload_n 0, 1), (7, .iload_n 1, 1), (8, .iload_n 3, 1), (9, .invokevirtual 158, 3), (12, .invokestatic 135, 3), (15, .ireturn, 1)]
set_option maxRecDepth 100000 in
theorem dX8_tagPlaceOf_p0_ok : (dtX8_tagPlaceOf_p0.all fun e => decide (decode cX8_tagPlaceOf e.1 = .ok e.2)) = true := by decide +kernel
theorem dX8_tagPlaceOf_p0 (i : Nat) {pc : Nat} {q : Instr × Nat} (hi : dtX8_tagPlaceOf_p0[i]? = some (pc, q)) : decode cX8_tagPlaceOf pc = .ok q := dt_get dX8_tagPlaceOf_p0_ok i hi
def dtX8_distancePlaceOf_p0 : DT := [(0, .iload_n 0, 1), (1, .iload_n 1, 1), (2, .if_icmp .ge 13, 3), (5, .iconst 0, 1), (6, .iload_n 1, 1), (7, .iload_n 0, 1), (8, .isub, 1), (9, .invokestatic 144, 3), (12, .goto 10, 3), (15, .iconst 1, 1), (16, .iload_n 0, 1), (17, .iload_n 1, 1), (18, .isub, 1), (19, .invokestatic 144, 3), (22, .ireturn, 1)]
set_option maxRecDepth 100000 in
theorem dX8_distancePlaceOf_p0_ok : (dtX8_distancePlaceOf_p0.all fun e => decide (decode cX8_distancePlaceOf e.1 = .ok e.2)) = true := by decide +kernel
theorem dX8_distancePlaceOf_p0 (i : Nat) {pc : Nat} {q : Instr × Nat} (hi : dtX8_distancePlaceOf_p0[i]? = some (pc, q)) : decode cX8_distancePlaceOf pc = .ok q := dt_get dX8_distancePlaceOf_p0_ok i hi
def dtX8_scoreOf_p0 : DT := [(0, .aload_n 0, 1), (1, .getfield 28, 3), (4, .aload_n 0, 1), (5, .iload_n 1, 1), (6, .iload_n 2, 1), (7, .iload_n 3, 1), (8, .invokevirtual 161, 3), (11, .iaload, 1), (12, .aload_n 0, 1), (13, .getfield 28, 3), (16, .iload_n 2, 1), (17, .iload_n 3, 1), (18, .invokestatic 164, 3), (21, .iaload, 1), (22, .iadd, 1), (23, .aload_n 0, 1), (24, .getfield 22, 3), (27, .iload_n 1, 1), (28, .iload_n 2, 1), (29, .iload_n 3, 1), (30, .invokestatic 147, 3), (33, .iaload, 1), (34, .iadd, 1), (35, .ireturn, 1)]
set_option maxRecDepth 100000 in
theorem dX8_scoreOf_p0_ok : (dtX8_scoreOf_p0.all fun e => decide (decode cX8_scoreOf e.1 = .ok e.2)) = true := by decide +kernel
theorem dX8_scoreOf_p0 (i : Nat) {pc : Nat} {q : Instr × Nat} (hi : dtX8_scoreOf_p0[i]? = some (pc, q)) : decode cX8_scoreOf pc = .ok q := dt_get dX8_scoreOf_p0_ok i hi
def dtX8_score_p0 : DT := [(0, .aload_n 0, 1), (1, .iload_n 1, 1), (2, .iload_n 2, 1), (3, .iload_n 3, 1), (4, .invokevirtual 129, 3), (7, .ifCond .eq 13, 3), (10, .aload_n 0, 1), (11, .iload_n 1, 1), (12, .iload_n 2, 1), (13, .iload_n 3, 1), (14, .invokevirtual 167, 3), (17, .goto 5, 3), (20, .ldc 128, 2), (22, .ireturn, 1)]
set_option maxRecDepth 100000 in
theorem dX8_score_p0_ok : (dtX8_score_p0.all fun e => decide (decode cX8_score e.1 = .ok e.2)) = true := by decide +kernel
theorem dX8_score_p0 (i : Nat) {pc : Nat} {q : Instr × Nat} (hi : dtX8_score_p0[i]? = some (pc, q)) : decode cX8_score pc = .ok q := dt_get dX8_score_p0_ok i hi
def dtX8_prepares_p0 : DT := [(0, .aload_n 0, 1), (1, .getfield 13, 3), (4, .iload_n 1, 1), (5, .iaload, 1), (6, .istore_n 2, 1), (7, .iconst 0, 1), (8, .istore_n 3, 1), (9, .iload_n 3, 1), (10, .iload_n 2, 1), (11, .if_icmp .gt 98, 3), (14, .iconst 1, 1), (15, .istore 4, 2), (17, .iload 4, 2), (19, .iload_n 2, 1), (20, .if_icmp .gt 83, 3), (23, .iload_n 3, 1), (24, .iload 4, 2), (26, .if_icmp .eq 71, 3), (29, .aload_n 0, 1), (30, .iload_n 1, 1), (31, .iload_n 3, 1), (32, .iload 4, 2), (34, .invokevirtual 167, 3), (37, .istore 5, 2), (39, .aload_n 0, 1), (40, .getfield 51, 3), (43, .bipush 7, 2), (45, .iload_n 3, 1), (46, .imul, 1), (47, .iload 4, 2), (49, .iadd, 1), (50, .iload 5, 2), (52, .iastore, 1), (53, .iload 5, 2), (55, .aload_n 0, 1), (56, .getfield 38, 3), (59, .iadd, 1), (60, .istore 6, 2), (62, .aload_n 0, 1), (63, .getfield 54, 3), (66, .bipush 7, 2), (68, .iload_n 3, 1), (69, .imul, 1), (70, .iload 4, 2), (72, .iadd, 1), (73, .iload 6, 2), (75, .ifCond .ge 7, 3), (78, .iconst 0, 1), (79, .goto 17, 3), (82, .iload 6, 2), (84, .bipush 20, 2), (86, .if_icmp .le 8, 3), (89, .bipush 20, 2), (91, .goto 5, 3), (94, .iload 6, 2), (96, .iastore, 1), (97, .iinc 4 1, 3), (100, .goto (-83), 3), (103, .iinc 3 1, 3), (106, .goto (-97), 3), (109, .iconst 0, 1), (110, .istore_n 3, 1), (111, .iload_n 3, 1), (112, .bipush 49, 2)]
set_option maxRecDepth 100000 in
theorem dX8_prepares_p0_ok : (dtX8_prepares_p0.all fun e => decide (decode cX8_prepares e.1 = .ok e.2)) = true := by decide +kernel
theorem dX8_prepares_p0 (i : Nat) {pc : Nat} {q : Instr × Nat} (hi : dtX8_prepares_p0[i]? = some (pc, q)) : decode cX8_prepares pc = .ok q := dt_get dX8_prepares_p0_ok i hi
def dtX8_prepares_p1 : DT := [(114, .if_icmp .ge 24, 3), (117, .aload_n 0, 1), (118, .getfield 66, 3), (121, .iload_n 3, 1), (122, .ldc 170, 2), (124, .iastore, 1), (125, .aload_n 0, 1), (126, .getfield 69, 3), (129, .iload_n 3, 1), (130, .lconst 0, 1), (131, .lastore, 1), (132, .iinc 3 1, 3), (135, .goto (-24), 3), (138, .aload_n 0, 1), (139, .iconst 0, 1), (140, .putfield 171, 3), (143, .aload_n 0, 1), (144, .iconst 0, 1), (145, .putfield 174, 3), (148, .aload_n 0, 1), (149, .lconst 0, 1), (150, .putfield 177, 3), (153, .aload_n 0, 1), (154, .ldc 170, 2), (156, .putfield 181, 3), (159, .aload_n 0, 1), (160, .ldc2_w 184, 3), (163, .putfield 186, 3), (166, .return_, 1)]
set_option maxRecDepth 100000 in
theorem dX8_prepares_p1_ok : (dtX8_prepares_p1.all fun e => decide (decode cX8_prepares e.1 = .ok e.2)) = true := by decide +kernel
theorem dX8_prepares_p1 (i : Nat) {pc : Nat} {q : Instr × Nat} (hi : dtX8_prepares_p1[i]? = some (pc, q)) : decode cX8_prepares pc = .ok q := dt_get dX8_prepares_p1_ok i hi
def dtX8_crosses_p0 : DT := [(0, .iload_n 0, 1), (1, .iload_n 1, 1), (2, .if_icmp .ge 7, 3), (5, .iload_n 0, 1), (6, .goto 4, 3), (9, .iload_n 1, 1), (10, .istore 4, 2), (12, .iload_n 0, 1), (13, .iload_n 1, 1), (14, .if_icmp .ge 7, 3), (17, .iload_n 1, 1), (18, .goto 4, 3), (21, .iload_n 0, 1), (22, .istore 5, 2), (24, .iload_n 2, 1), (25, .iload_n 3, 1), (26, .if_icmp .ge 7, 3), (29, .iload_n 2, 1), (30, .goto 4, 3), (33, .iload_n 3, 1), (34, .istore 6, 2), (36, .iload_n 2, 1), (37, .iload_n 3, 1), (38, .if_icmp .ge 7, 3), (41, .iload_n 3, 1), (42, .goto 4, 3), (45, .iload_n 2, 1), (46, .istore 7, 2), (48, .iload 4, 2), (50, .iload 6, 2), (52, .if_icmp .ge 17, 3), (55, .iload 6, 2), (57, .iload 5, 2), (59, .if_icmp .ge 10, 3), (62, .iload 5, 2), (64, .iload 7, 2), (66, .if_icmp .lt 24, 3), (69, .iload 6, 2), (71, .iload 4, 2), (73, .if_icmp .ge 21, 3), (76, .iload 4, 2), (78, .iload 7, 2), (80, .if_icmp .ge 14, 3), (83, .iload 7, 2), (85, .iload 5, 2), (87, .if_icmp .ge 7, 3), (90, .iconst 1, 1), (91, .goto 4, 3), (94, .iconst 0, 1), (95, .ireturn, 1)]
set_option maxRecDepth 100000 in
theorem dX8_crosses_p0_ok : (dtX8_crosses_p0.all fun e => decide (decode cX8_crosses e.1 = .ok e.2)) = true := by decide +kernel
theorem dX8_crosses_p0 (i : Nat) {pc : Nat} {q : Instr × Nat} (hi : dtX8_crosses_p0[i]? = some (pc, q)) : decode cX8_crosses pc = .ok q := dt_get dX8_crosses_p0_ok i hi
def dtX8_crossed_p0 : DT := [(0, .iconst 0, 1), (1, .istore_n 3, 1), (2, .iconst 2, 1), (3, .istore 4, 2), (5, .iload 4, 2), (7, .iload_n 2, 1), (8, .if_icmp .gt 55, 3), (11, .iconst 1, 1), (12, .istore 5, 2), (14, .iload 5, 2), (16, .iload 4, 2), (18, .if_icmp .ge 39, 3), (21, .iload_n 3, 1), (22, .aload_n 0, 1), (23, .iload_n 1, 1), (24, .iload 5, 2), (26, .iadd, 1), (27, .iaload, 1), (28, .iload 5, 2), (30, .aload_n 0, 1), (31, .iload_n 1, 1), (32, .iload 4, 2), (34, .iadd, 1), (35, .iaload, 1), (36, .iload 4, 2), (38, .invokestatic 189, 3), (41, .ifCond .eq 7, 3), (44, .iconst 1, 1), (45, .goto 4, 3), (48, .iconst 0, 1), (49, .iadd, 1), (50, .istore_n 3, 1), (51, .iinc 5 1, 3), (54, .goto (-40), 3), (57, .iinc 4 1, 3), (60, .goto (-55), 3), (63, .iload_n 3, 1), (64, .ireturn, 1)]
set_option maxRecDepth 100000 in
theorem dX8_crossed_p0_ok : (dtX8_crossed_p0.all fun e => decide (decode cX8_crossed e.1 = .ok e.2)) = true := by decide +kernel
theorem dX8_crossed_p0 (i : Nat) {pc : Nat} {q : Instr × Nat} (hi : dtX8_crossed_p0[i]? = some (pc, q)) : decode cX8_crossed pc = .ok q := dt_get dX8_crossed_p0_ok i hi
def dtX8_isAdmissible_p0 : DT := [(0, .aload_n 0, 1), (1, .getfield 13, 3), (4, .iload_n 1, 1), (5, .iaload, 1), (6, .istore_n 2, 1), (7, .iconst 0, 1), (8, .istore_n 3, 1), (9, .iconst 1, 1), (10, .istore 4, 2), (12, .iload 4, 2), (14, .iload_n 2, 1), (15, .if_icmp .gt 104, 3), (18, .iload_n 3, 1), (19, .aload_n 0, 1), (20, .getfield 57, 3), (23, .iload 4, 2), (25, .iaload, 1), (26, .ifCond .ne 7, 3), (29, .iconst 1, 1), (30, .goto 4, 3), (33, .iconst 0, 1), (34, .iadd, 1), (35, .istore_n 3, 1), (36, .aload_n 0, 1), (37, .getfield 25, 3), (40, .iload_n 1, 1), (41, .aload_n 0, 1), (42, .getfield 57, 3), (45, .iload 4, 2), (47, .iaload, 1), (48, .iload 4, 2), (50, .invokestatic 147, 3), (53, .iaload, 1), (54, .iconst 2, 1), (55, .if_icmp .ne 5, 3), (58, .iconst 0, 1), (59, .ireturn, 1), (60, .iconst 0, 1), (61, .istore 5, 2), (63, .iload 5, 2), (65, .iload_n 2, 1), (66, .if_icmp .gt 47, 3), (69, .iload 5, 2), (71, .iload 4, 2), (73, .if_icmp .eq 34, 3), (76, .iload 5, 2), (78, .aload_n 0, 1), (79, .getfield 57, 3), (82, .iload 4, 2), (84, .iaload, 1), (85, .if_icmp .eq 22, 3), (88, .aload_n 0, 1), (89, .getfield 25, 3), (92, .iload_n 1, 1), (93, .iload 5, 2), (95, .iload 4, 2), (97, .invokestatic 147, 3), (100, .iaload, 1), (101, .iconst 1, 1), (102, .if_icmp .ne 5, 3), (105, .iconst 0, 1), (106, .ireturn, 1), (107, .iinc 5 1, 3), (110, .goto (-47), 3)]
set_option maxRecDepth 100000 in
theorem dX8_isAdmissible_p0_ok : (dtX8_isAdmissible_p0.all fun e => decide (decode cX8_isAdmissible e.1 = .ok e.2)) = true := by decide +kernel
theorem dX8_isAdmissible_p0 (i : Nat) {pc : Nat} {q : Instr × Nat} (hi : dtX8_isAdmissible_p0[i]? = some (pc, q)) : decode cX8_isAdmissible pc = .ok q := dt_get dX8_isAdmissible_p0_ok i hi
def dtX8_isAdmissible_p1 : DT := [(113, .iinc 4 1, 3), (116, .goto (-104), 3), (119, .iload_n 3, 1), (120, .ifCond .eq 27, 3), (123, .aload_n 0, 1), (124, .getfield 151, 3), (127, .ifCond .eq 8, 3), (130, .iload_n 3, 1), (131, .iconst 1, 1), (132, .if_icmp .ne 15, 3), (135, .aload_n 0, 1), (136, .getfield 57, 3), (139, .iconst 0, 1), (140, .iload_n 2, 1), (141, .invokestatic 114, 3), (144, .ifCond .ne 5, 3), (147, .iconst 0, 1), (148, .ireturn, 1), (149, .aload_n 0, 1), (150, .getfield 155, 3), (153, .ifCond .eq 15, 3), (156, .aload_n 0, 1), (157, .getfield 57, 3), (160, .iconst 0, 1), (161, .iload_n 2, 1), (162, .invokestatic 193, 3), (165, .ifCond .ne 7, 3), (168, .iconst 1, 1), (169, .goto 4, 3), (172, .iconst 0, 1), (173, .ireturn, 1)]
set_option maxRecDepth 100000 in
theorem dX8_isAdmissible_p1_ok : (dtX8_isAdmissible_p1.all fun e => decide (decode cX8_isAdmissible e.1 = .ok e.2)) = true := by decide +kernel
theorem dX8_isAdmissible_p1 (i : Nat) {pc : Nat} {q : Instr × Nat} (hi : dtX8_isAdmissible_p1[i]? = some (pc, q)) : decode cX8_isAdmissible pc = .ok q := dt_get dX8_isAdmissible_p1_ok i hi
def dtX8_sumOf_p0 : DT := [(0, .iconst 0, 1), (1, .istore_n 2, 1), (2, .iconst 1, 1), (3, .istore_n 3, 1), (4, .iload_n 3, 1), (5, .iload_n 1, 1), (6, .if_icmp .gt 28, 3), (9, .iload_n 2, 1), (10, .aload_n 0, 1), (11, .getfield 51, 3), (14, .bipush 7, 2), (16, .aload_n 0, 1), (17, .getfield 57, 3), (20, .iload_n 3, 1), (21, .iaload, 1), (22, .imul, 1), (23, .iload_n 3, 1), (24, .iadd, 1), (25, .iaload, 1), (26, .iadd, 1), (27, .istore_n 2, 1), (28, .iinc 3 1, 3), (31, .goto (-27), 3), (34, .iload_n 2, 1), (35, .ireturn, 1)]
set_option maxRecDepth 100000 in
theorem dX8_sumOf_p0_ok : (dtX8_sumOf_p0.all fun e => decide (decode cX8_sumOf e.1 = .ok e.2)) = true := by decide +kernel
theorem dX8_sumOf_p0 (i : Nat) {pc : Nat} {q : Instr × Nat} (hi : dtX8_sumOf_p0[i]? = some (pc, q)) : decode cX8_sumOf pc = .ok q := dt_get dX8_sumOf_p0_ok i hi
def dtX8_ranks_p0 : DT := [(0, .aload_n 0, 1), (1, .getfield 171, 3), (4, .bipush 6, 2), (6, .if_icmp .ge 10, 3), (9, .aload_n 0, 1), (10, .getfield 171, 3), (13, .goto 5, 3), (16, .bipush 6, 2), (18, .istore_n 3, 1), (19, .iload_n 3, 1), (20, .ifCond .le 77, 3), (23, .aload_n 0, 1), (24, .getfield 60, 3), (27, .iload_n 3, 1), (28, .iconst 1, 1), (29, .isub, 1), (30, .iaload, 1), (31, .iload_n 2, 1), (32, .if_icmp .ge 65, 3), (35, .aload_n 0, 1), (36, .getfield 60, 3), (39, .iload_n 3, 1), (40, .aload_n 0, 1), (41, .getfield 60, 3), (44, .iload_n 3, 1), (45, .iconst 1, 1), (46, .isub, 1), (47, .iaload, 1), (48, .iastore, 1), (49, .iconst 1, 1), (50, .istore 4, 2), (52, .iload 4, 2), (54, .iload_n 1, 1), (55, .if_icmp .gt 36, 3), (58, .aload_n 0, 1), (59, .getfield 63, 3), (62, .bipush 7, 2), (64, .iload_n 3, 1), (65, .imul, 1), (66, .iload 4, 2), (68, .iadd, 1), (69, .aload_n 0, 1), (70, .getfield 63, 3), (73, .bipush 7, 2), (75, .iload_n 3, 1), (76, .imul, 1), (77, .bipush 7, 2), (79, .isub, 1), (80, .iload 4, 2), (82, .iadd, 1), (83, .iaload, 1), (84, .iastore, 1), (85, .iinc 4 1, 3), (88, .goto (-36), 3), (91, .iinc 3 (-1), 3), (94, .goto (-75), 3), (97, .aload_n 0, 1), (98, .getfield 60, 3), (101, .iload_n 3, 1), (102, .iload_n 2, 1), (103, .iastore, 1), (104, .iconst 1, 1), (105, .istore 4, 2), (107, .iload 4, 2)]
set_option maxRecDepth 100000 in
theorem dX8_ranks_p0_ok : (dtX8_ranks_p0.all fun e => decide (decode cX8_ranks e.1 = .ok e.2)) = true := by decide +kernel
theorem dX8_ranks_p0 (i : Nat) {pc : Nat} {q : Instr × Nat} (hi : dtX8_ranks_p0[i]? = some (pc, q)) : decode cX8_ranks pc = .ok q := dt_get dX8_ranks_p0_ok i hi
def dtX8_ranks_p1 : DT := [(109, .iload_n 1, 1), (110, .if_icmp .gt 28, 3), (113, .aload_n 0, 1), (114, .getfield 63, 3), (117, .bipush 7, 2), (119, .iload_n 3, 1), (120, .imul, 1), (121, .iload 4, 2), (123, .iadd, 1), (124, .aload_n 0, 1), (125, .getfield 57, 3), (128, .iload 4, 2), (130, .iaload, 1), (131, .iastore, 1), (132, .iinc 4 1, 3), (135, .goto (-28), 3), (138, .aload_n 0, 1), (139, .dup, 1), (140, .getfield 171, 3), (143, .aload_n 0, 1), (144, .getfield 171, 3), (147, .bipush 6, 2), (149, .if_icmp .ge 7, 3), (152, .iconst 1, 1), (153, .goto 4, 3), (156, .iconst 0, 1), (157, .iadd, 1), (158, .putfield 171, 3), (161, .return_, 1)]
set_option maxRecDepth 100000 in
theorem dX8_ranks_p1_ok : (dtX8_ranks_p1.all fun e => decide (decode cX8_ranks e.1 = .ok e.2)) = true := by decide +kernel
theorem dX8_ranks_p1 (i : Nat) {pc : Nat} {q : Instr × Nat} (hi : dtX8_ranks_p1[i]? = some (pc, q)) : decode cX8_ranks pc = .ok q := dt_get dX8_ranks_p1_ok i hi
def dtX8_isAnnotation_p0 : DT := [(0, .iconst 1, 1), (1, .istore_n 2, 1), (2, .iconst 1, 1), (3, .istore_n 3, 1), (4, .iload_n 3, 1), (5, .aload_n 0, 1), (6, .getfield 13, 3), (9, .iload_n 1, 1), (10, .iaload, 1), (11, .if_icmp .gt 38, 3), (14, .iload_n 2, 1), (15, .ifCond .eq 26, 3), (18, .aload_n 0, 1), (19, .getfield 57, 3), (22, .iload_n 3, 1), (23, .iaload, 1), (24, .aload_n 0, 1), (25, .getfield 19, 3), (28, .iload_n 1, 1), (29, .iload_n 3, 1), (30, .invokestatic 124, 3), (33, .iaload, 1), (34, .if_icmp .ne 7, 3), (37, .iconst 1, 1), (38, .goto 4, 3), (41, .iconst 0, 1), (42, .istore_n 2, 1), (43, .iinc 3 1, 3), (46, .goto (-42), 3), (49, .iload_n 2, 1), (50, .ireturn, 1)]
set_option maxRecDepth 100000 in
theorem dX8_isAnnotation_p0_ok : (dtX8_isAnnotation_p0.all fun e => decide (decode cX8_isAnnotation e.1 = .ok e.2)) = true := by decide +kernel
theorem dX8_isAnnotation_p0 (i : Nat) {pc : Nat} {q : Instr × Nat} (hi : dtX8_isAnnotation_p0[i]? = some (pc, q)) : decode cX8_isAnnotation pc = .ok q := dt_get dX8_isAnnotation_p0_ok i hi
def dtX8_meets_p0 : DT := [(0, .aload_n 0, 1), (1, .getfield 13, 3), (4, .iload_n 1, 1), (5, .iaload, 1), (6, .istore_n 2, 1), (7, .aload_n 0, 1), (8, .iload_n 2, 1), (9, .invokevirtual 197, 3), (12, .istore_n 3, 1), (13, .lconst 1, 1), (14, .lstore 4, 2), (16, .iconst 1, 1), (17, .istore 6, 2), (19, .iload 6, 2), (21, .iload_n 2, 1), (22, .if_icmp .gt 33, 3), (25, .lload 4, 2), (27, .aload_n 0, 1), (28, .getfield 54, 3), (31, .bipush 7, 2), (33, .aload_n 0, 1), (34, .getfield 57, 3), (37, .iload 6, 2), (39, .iaload, 1), (40, .imul, 1), (41, .iload 6, 2), (43, .iadd, 1), (44, .iaload, 1), (45, .i2l, 1), (46, .lmul, 1), (47, .lstore 4, 2), (49, .iinc 6 1, 3), (52, .goto (-33), 3), (55, .iconst 1, 1), (56, .istore 6, 2), (58, .iload 6, 2), (60, .iload_n 2, 1), (61, .if_icmp .gt 65, 3), (64, .bipush 7, 2), (66, .aload_n 0, 1), (67, .getfield 57, 3), (70, .iload 6, 2), (72, .iaload, 1), (73, .imul, 1), (74, .iload 6, 2), (76, .iadd, 1), (77, .istore 7, 2), (79, .aload_n 0, 1), (80, .getfield 66, 3), (83, .iload 7, 2), (85, .iload_n 3, 1), (86, .aload_n 0, 1), (87, .getfield 66, 3), (90, .iload 7, 2), (92, .iaload, 1), (93, .if_icmp .le 7, 3), (96, .iload_n 3, 1), (97, .goto 10, 3), (100, .aload_n 0, 1), (101, .getfield 66, 3), (104, .iload 7, 2), (106, .iaload, 1), (107, .iastore, 1), (108, .aload_n 0, 1)]
set_option maxRecDepth 100000 in
theorem dX8_meets_p0_ok : (dtX8_meets_p0.all fun e => decide (decode cX8_meets e.1 = .ok e.2)) = true := by decide +kernel
theorem dX8_meets_p0 (i : Nat) {pc : Nat} {q : Instr × Nat} (hi : dtX8_meets_p0[i]? = some (pc, q)) : decode cX8_meets pc = .ok q := dt_get dX8_meets_p0_ok i hi
def dtX8_meets_p1 : DT := [(109, .getfield 69, 3), (112, .iload 7, 2), (114, .dup2, 1), (115, .laload, 1), (116, .lload 4, 2), (118, .ladd, 1), (119, .lastore, 1), (120, .iinc 6 1, 3), (123, .goto (-65), 3), (126, .aload_n 0, 1), (127, .dup, 1), (128, .getfield 174, 3), (131, .iconst 1, 1), (132, .iadd, 1), (133, .putfield 174, 3), (136, .aload_n 0, 1), (137, .dup, 1), (138, .getfield 177, 3), (141, .lload 4, 2), (143, .ladd, 1), (144, .putfield 177, 3), (147, .aload_n 0, 1), (148, .iload_n 3, 1), (149, .aload_n 0, 1), (150, .getfield 181, 3), (153, .if_icmp .le 15, 3), (156, .aload_n 0, 1), (157, .iload_n 1, 1), (158, .invokevirtual 201, 3), (161, .ifCond .ne 7, 3), (164, .iload_n 3, 1), (165, .goto 7, 3), (168, .aload_n 0, 1), (169, .getfield 181, 3), (172, .putfield 181, 3), (175, .aload_n 0, 1), (176, .iload_n 2, 1), (177, .iload_n 3, 1), (178, .invokevirtual 204, 3), (181, .return_, 1)]
set_option maxRecDepth 100000 in
theorem dX8_meets_p1_ok : (dtX8_meets_p1.all fun e => decide (decode cX8_meets e.1 = .ok e.2)) = true := by decide +kernel
theorem dX8_meets_p1 (i : Nat) {pc : Nat} {q : Instr × Nat} (hi : dtX8_meets_p1[i]? = some (pc, q)) : decode cX8_meets pc = .ok q := dt_get dX8_meets_p1_ok i hi
def dtX8_risks_p0 : DT := [(0, .lconst 0, 1), (1, .lstore_n 2, 1), (2, .iconst 1, 1), (3, .istore 4, 2), (5, .iload 4, 2), (7, .iload_n 1, 1), (8, .if_icmp .gt 30, 3), (11, .lload_n 2, 1), (12, .aload_n 0, 1), (13, .getfield 69, 3), (16, .bipush 7, 2), (18, .aload_n 0, 1), (19, .getfield 57, 3), (22, .iload 4, 2), (24, .iaload, 1), (25, .imul, 1), (26, .iload 4, 2), (28, .iadd, 1), (29, .laload, 1), (30, .ladd, 1), (31, .lstore_n 2, 1), (32, .iinc 4 1, 3), (35, .goto (-30), 3), (38, .lload_n 2, 1), (39, .aload_n 0, 1), (40, .getfield 186, 3), (43, .lcmp, 1), (44, .ifCond .le 37, 3), (47, .aload_n 0, 1), (48, .lload_n 2, 1), (49, .putfield 186, 3), (52, .iconst 1, 1), (53, .istore 4, 2), (55, .iload 4, 2), (57, .iload_n 1, 1), (58, .if_icmp .gt 23, 3), (61, .aload_n 0, 1), (62, .getfield 73, 3), (65, .iload 4, 2), (67, .aload_n 0, 1), (68, .getfield 57, 3), (71, .iload 4, 2), (73, .iaload, 1), (74, .iastore, 1), (75, .iinc 4 1, 3), (78, .goto (-23), 3), (81, .return_, 1)]
set_option maxRecDepth 100000 in
theorem dX8_risks_p0_ok : (dtX8_risks_p0.all fun e => decide (decode cX8_risks e.1 = .ok e.2)) = true := by decide +kernel
theorem dX8_risks_p0 (i : Nat) {pc : Nat} {q : Instr × Nat} (hi : dtX8_risks_p0[i]? = some (pc, q)) : decode cX8_risks pc = .ok q := dt_get dX8_risks_p0_ok i hi
def dtX8_steps_p0 : DT := [(0, .iload_n 1, 1), (1, .istore_n 2, 1), (2, .iload_n 2, 1), (3, .ifCond .le 62, 3), (6, .aload_n 0, 1), (7, .getfield 57, 3), (10, .iload_n 2, 1), (11, .dup2, 1), (12, .iaload, 1), (13, .iconst 1, 1), (14, .iadd, 1), (15, .iastore, 1), (16, .aload_n 0, 1), (17, .getfield 57, 3), (20, .iload_n 2, 1), (21, .dup2, 1), (22, .iaload, 1), (23, .aload_n 0, 1), (24, .getfield 57, 3), (27, .iload_n 2, 1), (28, .iaload, 1), (29, .iload_n 2, 1), (30, .if_icmp .ne 7, 3), (33, .iconst 1, 1), (34, .goto 4, 3), (37, .iconst 0, 1), (38, .iadd, 1), (39, .iastore, 1), (40, .aload_n 0, 1), (41, .getfield 57, 3), (44, .iload_n 2, 1), (45, .iaload, 1), (46, .iload_n 1, 1), (47, .if_icmp .gt 5, 3), (50, .iconst 1, 1), (51, .ireturn, 1), (52, .aload_n 0, 1), (53, .getfield 57, 3), (56, .iload_n 2, 1), (57, .iconst 0, 1), (58, .iastore, 1), (59, .iinc 2 (-1), 3), (62, .goto (-60), 3), (65, .iconst 0, 1), (66, .ireturn, 1)]
set_option maxRecDepth 100000 in
theorem dX8_steps_p0_ok : (dtX8_steps_p0.all fun e => decide (decode cX8_steps e.1 = .ok e.2)) = true := by decide +kernel
theorem dX8_steps_p0 (i : Nat) {pc : Nat} {q : Instr × Nat} (hi : dtX8_steps_p0[i]? = some (pc, q)) : decode cX8_steps pc = .ok q := dt_get dX8_steps_p0_ok i hi
def dtX8_begins_p0 : DT := [(0, .iconst 0, 1), (1, .istore_n 1, 1), (2, .iload_n 1, 1), (3, .bipush 7, 2), (5, .if_icmp .ge 16, 3), (8, .aload_n 0, 1), (9, .getfield 57, 3), (12, .iload_n 1, 1), (13, .iconst 0, 1), (14, .iastore, 1), (15, .iinc 1 1, 3), (18, .goto (-16), 3), (21, .return_, 1)]
set_option maxRecDepth 100000 in
theorem dX8_begins_p0_ok : (dtX8_begins_p0.all fun e => decide (decode cX8_begins e.1 = .ok e.2)) = true := by decide +kernel
theorem dX8_begins_p0 (i : Nat) {pc : Nat} {q : Instr × Nat} (hi : dtX8_begins_p0[i]? = some (pc, q)) : decode cX8_begins pc = .ok q := dt_get dX8_begins_p0_ok i hi
def dtX8_looks_p0 : DT := [(0, .aload_n 0, 1), (1, .iload_n 1, 1), (2, .invokevirtual 208, 3), (5, .aload_n 0, 1), (6, .invokevirtual 212, 3), (9, .iconst 1, 1), (10, .istore_n 2, 1), (11, .iload_n 2, 1), (12, .ifCond .eq 30, 3), (15, .aload_n 0, 1), (16, .iload_n 1, 1), (17, .invokevirtual 214, 3), (20, .ifCond .eq 8, 3), (23, .aload_n 0, 1), (24, .iload_n 1, 1), (25, .invokevirtual 217, 3), (28, .aload_n 0, 1), (29, .aload_n 0, 1), (30, .getfield 13, 3), (33, .iload_n 1, 1), (34, .iaload, 1), (35, .invokevirtual 220, 3), (38, .istore_n 2, 1), (39, .goto (-28), 3), (42, .return_, 1)]
set_option maxRecDepth 100000 in
theorem dX8_looks_p0_ok : (dtX8_looks_p0.all fun e => decide (decode cX8_looks e.1 = .ok e.2)) = true := by decide +kernel
theorem dX8_looks_p0 (i : Nat) {pc : Nat} {q : Instr × Nat} (hi : dtX8_looks_p0[i]? = some (pc, q)) : decode cX8_looks pc = .ok q := dt_get dX8_looks_p0_ok i hi
def dtX8_looksForRisk_p0 : DT := [(0, .aload_n 0, 1), (1, .invokevirtual 212, 3), (4, .iconst 1, 1), (5, .istore_n 2, 1), (6, .iload_n 2, 1), (7, .ifCond .eq 35, 3), (10, .aload_n 0, 1), (11, .iload_n 1, 1), (12, .invokevirtual 214, 3), (15, .ifCond .eq 13, 3), (18, .aload_n 0, 1), (19, .aload_n 0, 1), (20, .getfield 13, 3), (23, .iload_n 1, 1), (24, .iaload, 1), (25, .invokevirtual 223, 3), (28, .aload_n 0, 1), (29, .aload_n 0, 1), (30, .getfield 13, 3), (33, .iload_n 1, 1), (34, .iaload, 1), (35, .invokevirtual 220, 3), (38, .istore_n 2, 1), (39, .goto (-33), 3), (42, .return_, 1)]
set_option maxRecDepth 100000 in
theorem dX8_looksForRisk_p0_ok : (dtX8_looksForRisk_p0.all fun e => decide (decode cX8_looksForRisk e.1 = .ok e.2)) = true := by decide +kernel
theorem dX8_looksForRisk_p0 (i : Nat) {pc : Nat} {q : Instr × Nat} (hi : dtX8_looksForRisk_p0[i]? = some (pc, q)) : decode cX8_looksForRisk pc = .ok q := dt_get dX8_looksForRisk_p0_ok i hi
def dtX8_bestScore_p0 : DT := [(0, .aload_n 0, 1), (1, .iload_n 1, 1), (2, .invokevirtual 98, 3), (5, .ifCond .ne 6, 3), (8, .ldc 128, 2), (10, .ireturn, 1), (11, .aload_n 0, 1), (12, .iload_n 1, 1), (13, .invokevirtual 226, 3), (16, .aload_n 0, 1), (17, .getfield 171, 3), (20, .ifCond .le 12, 3), (23, .aload_n 0, 1), (24, .getfield 60, 3), (27, .iconst 0, 1), (28, .iaload, 1), (29, .goto 5, 3), (32, .ldc 118, 2), (34, .ireturn, 1)]
set_option maxRecDepth 100000 in
theorem dX8_bestScore_p0_ok : (dtX8_bestScore_p0.all fun e => decide (decode cX8_bestScore e.1 = .ok e.2)) = true := by decide +kernel
theorem dX8_bestScore_p0 (i : Nat) {pc : Nat} {q : Instr × Nat} (hi : dtX8_bestScore_p0[i]? = some (pc, q)) : decode cX8_bestScore pc = .ok q := dt_get dX8_bestScore_p0_ok i hi
def dtX8_bestHead_p0 : DT := [(0, .aload_n 0, 1), (1, .iload_n 1, 1), (2, .iload_n 2, 1), (3, .invokevirtual 102, 3), (6, .ifCond .ne 6, 3), (9, .ldc 128, 2), (11, .ireturn, 1), (12, .aload_n 0, 1), (13, .iload_n 1, 1), (14, .invokevirtual 226, 3), (17, .aload_n 0, 1), (18, .getfield 171, 3), (21, .ifCond .le 12, 3), (24, .aload_n 0, 1), (25, .getfield 63, 3), (28, .iload_n 2, 1), (29, .iaload, 1), (30, .goto 5, 3), (33, .ldc 118, 2), (35, .ireturn, 1)]
set_option maxRecDepth 100000 in
theorem dX8_bestHead_p0_ok : (dtX8_bestHead_p0.all fun e => decide (decode cX8_bestHead e.1 = .ok e.2)) = true := by decide +kernel
theorem dX8_bestHead_p0 (i : Nat) {pc : Nat} {q : Instr × Nat} (hi : dtX8_bestHead_p0[i]? = some (pc, q)) : decode cX8_bestHead pc = .ok q := dt_get dX8_bestHead_p0_ok i hi
def dtX8_rankedScore_p0 : DT := [(0, .aload_n 0, 1), (1, .iload_n 1, 1), (2, .invokevirtual 98, 3), (5, .ifCond .ne 6, 3), (8, .ldc 128, 2), (10, .ireturn, 1), (11, .iload_n 2, 1), (12, .iconst 0, 1), (13, .iconst 5, 1), (14, .invokestatic 94, 3), (17, .ifCond .ne 6, 3), (20, .ldc 106, 2), (22, .ireturn, 1), (23, .aload_n 0, 1), (24, .iload_n 1, 1), (25, .invokevirtual 226, 3), (28, .iload_n 2, 1), (29, .aload_n 0, 1), (30, .getfield 171, 3), (33, .if_icmp .ge 12, 3), (36, .aload_n 0, 1), (37, .getfield 60, 3), (40, .iload_n 2, 1), (41, .iaload, 1), (42, .goto 5, 3), (45, .ldc 118, 2), (47, .ireturn, 1)]
set_option maxRecDepth 100000 in
theorem dX8_rankedScore_p0_ok : (dtX8_rankedScore_p0.all fun e => decide (decode cX8_rankedScore e.1 = .ok e.2)) = true := by decide +kernel
theorem dX8_rankedScore_p0 (i : Nat) {pc : Nat} {q : Instr × Nat} (hi : dtX8_rankedScore_p0[i]? = some (pc, q)) : decode cX8_rankedScore pc = .ok q := dt_get dX8_rankedScore_p0_ok i hi
def dtX8_rankedHead_p0 : DT := [(0, .aload_n 0, 1), (1, .iload_n 1, 1), (2, .iload_n 3, 1), (3, .invokevirtual 102, 3), (6, .ifCond .ne 6, 3), (9, .ldc 128, 2), (11, .ireturn, 1), (12, .iload_n 2, 1), (13, .iconst 0, 1), (14, .iconst 5, 1), (15, .invokestatic 94, 3), (18, .ifCond .ne 6, 3), (21, .ldc 106, 2), (23, .ireturn, 1), (24, .aload_n 0, 1), (25, .iload_n 1, 1), (26, .invokevirtual 226, 3), (29, .iload_n 2, 1), (30, .aload_n 0, 1), (31, .getfield 171, 3), (34, .if_icmp .ge 17, 3), (37, .aload_n 0, 1), (38, .getfield 63, 3), (41, .bipush 7, 2), (43, .iload_n 2, 1), (44, .imul, 1), (45, .iload_n 3, 1), (46, .iadd, 1), (47, .iaload, 1), (48, .goto 5, 3), (51, .ldc 118, 2), (53, .ireturn, 1)]
set_option maxRecDepth 100000 in
theorem dX8_rankedHead_p0_ok : (dtX8_rankedHead_p0.all fun e => decide (decode cX8_rankedHead e.1 = .ok e.2)) = true := by decide +kernel
theorem dX8_rankedHead_p0 (i : Nat) {pc : Nat} {q : Instr × Nat} (hi : dtX8_rankedHead_p0[i]? = some (pc, q)) : decode cX8_rankedHead pc = .ok q := dt_get dX8_rankedHead_p0_ok i hi
def dtX8_regret_p0 : DT := [(0, .aload_n 0, 1), (1, .iload_n 1, 1), (2, .iload_n 2, 1), (3, .iload_n 3, 1), (4, .invokevirtual 129, 3), (7, .ifCond .ne 6, 3), (10, .ldc 128, 2), (12, .ireturn, 1), (13, .aload_n 0, 1), (14, .iload_n 1, 1), (15, .invokevirtual 226, 3), (18, .aload_n 0, 1), (19, .getfield 66, 3), (22, .bipush 7, 2), (24, .iload_n 2, 1), (25, .imul, 1), (26, .iload_n 3, 1), (27, .iadd, 1), (28, .iaload, 1), (29, .istore 4, 2), (31, .iload 4, 2), (33, .ldc 170, 2), (35, .if_icmp .ne 8, 3), (38, .ldc 118, 2), (40, .goto 12, 3), (43, .aload_n 0, 1), (44, .getfield 60, 3), (47, .iconst 0, 1), (48, .iaload, 1), (49, .iload 4, 2), (51, .isub, 1), (52, .ireturn, 1)]
set_option maxRecDepth 100000 in
theorem dX8_regret_p0_ok : (dtX8_regret_p0.all fun e => decide (decode cX8_regret e.1 = .ok e.2)) = true := by decide +kernel
theorem dX8_regret_p0 (i : Nat) {pc : Nat} {q : Instr × Nat} (hi : dtX8_regret_p0[i]? = some (pc, q)) : decode cX8_regret pc = .ok q := dt_get dX8_regret_p0_ok i hi
def dtX8_margin_p0 : DT := [(0, .aload_n 0, 1), (1, .iload_n 1, 1), (2, .invokevirtual 98, 3), (5, .ifCond .ne 6, 3), (8, .ldc 128, 2), (10, .ireturn, 1), (11, .aload_n 0, 1), (12, .iload_n 1, 1), (13, .invokevirtual 226, 3), (16, .aload_n 0, 1), (17, .getfield 181, 3), (20, .ldc 170, 2), (22, .if_icmp .ne 6, 3), (25, .ldc 118, 2), (27, .ireturn, 1), (28, .iconst 0, 1), (29, .istore_n 2, 1), (30, .iconst 1, 1), (31, .istore_n 3, 1), (32, .iload_n 3, 1), (33, .aload_n 0, 1), (34, .getfield 13, 3), (37, .iload_n 1, 1), (38, .iaload, 1), (39, .if_icmp .gt 32, 3), (42, .iload_n 2, 1), (43, .aload_n 0, 1), (44, .getfield 51, 3), (47, .bipush 7, 2), (49, .aload_n 0, 1), (50, .getfield 19, 3), (53, .iload_n 1, 1), (54, .iload_n 3, 1), (55, .invokestatic 124, 3), (58, .iaload, 1), (59, .imul, 1), (60, .iload_n 3, 1), (61, .iadd, 1), (62, .iaload, 1), (63, .iadd, 1), (64, .istore_n 2, 1), (65, .iinc 3 1, 3), (68, .goto (-36), 3), (71, .iload_n 2, 1), (72, .aload_n 0, 1), (73, .getfield 181, 3), (76, .isub, 1), (77, .ireturn, 1)]
set_option maxRecDepth 100000 in
theorem dX8_margin_p0_ok : (dtX8_margin_p0.all fun e => decide (decode cX8_margin e.1 = .ok e.2)) = true := by decide +kernel
theorem dX8_margin_p0 (i : Nat) {pc : Nat} {q : Instr × Nat} (hi : dtX8_margin_p0[i]? = some (pc, q)) : decode cX8_margin pc = .ok q := dt_get dX8_margin_p0_ok i hi
def dtX8_right_p0 : DT := [(0, .iconst 0, 1), (1, .istore_n 2, 1), (2, .iconst 1, 1), (3, .istore_n 3, 1), (4, .iload_n 3, 1), (5, .aload_n 0, 1), (6, .getfield 13, 3), (9, .iload_n 1, 1), (10, .iaload, 1), (11, .if_icmp .gt 36, 3), (14, .iload_n 2, 1), (15, .aload_n 0, 1), (16, .getfield 63, 3), (19, .iload_n 3, 1), (20, .iaload, 1), (21, .aload_n 0, 1), (22, .getfield 19, 3), (25, .iload_n 1, 1), (26, .iload_n 3, 1), (27, .invokestatic 124, 3), (30, .iaload, 1), (31, .if_icmp .ne 7, 3), (34, .iconst 1, 1), (35, .goto 4, 3), (38, .iconst 0, 1), (39, .iadd, 1), (40, .istore_n 2, 1), (41, .iinc 3 1, 3), (44, .goto (-40), 3), (47, .iload_n 2, 1), (48, .ireturn, 1)]
set_option maxRecDepth 100000 in
theorem dX8_right_p0_ok : (dtX8_right_p0.all fun e => decide (decode cX8_right e.1 = .ok e.2)) = true := by decide +kernel
theorem dX8_right_p0 (i : Nat) {pc : Nat} {q : Instr × Nat} (hi : dtX8_right_p0[i]? = some (pc, q)) : decode cX8_right pc = .ok q := dt_get dX8_right_p0_ok i hi
def dtX8_correct_p0 : DT := [(0, .aload_n 0, 1), (1, .iload_n 1, 1), (2, .invokevirtual 98, 3), (5, .ifCond .ne 6, 3), (8, .ldc 128, 2), (10, .ireturn, 1), (11, .aload_n 0, 1), (12, .iload_n 1, 1), (13, .invokevirtual 226, 3), (16, .aload_n 0, 1), (17, .getfield 171, 3), (20, .ifCond .le 11, 3), (23, .aload_n 0, 1), (24, .iload_n 1, 1), (25, .invokevirtual 229, 3), (28, .goto 5, 3), (31, .ldc 118, 2), (33, .ireturn, 1)]
set_option maxRecDepth 100000 in
theorem dX8_correct_p0_ok : (dtX8_correct_p0.all fun e => decide (decode cX8_correct e.1 = .ok e.2)) = true := by decide +kernel
theorem dX8_correct_p0 (i : Nat) {pc : Nat} {q : Instr × Nat} (hi : dtX8_correct_p0[i]? = some (pc, q)) : decode cX8_correct pc = .ok q := dt_get dX8_correct_p0_ok i hi
def dtX8_treeCount_p0 : DT := [(0, .aload_n 0, 1), (1, .iload_n 1, 1), (2, .invokevirtual 98, 3), (5, .ifCond .ne 6, 3), (8, .ldc 128, 2), (10, .ireturn, 1), (11, .aload_n 0, 1), (12, .iload_n 1, 1), (13, .invokevirtual 226, 3), (16, .aload_n 0, 1), (17, .getfield 174, 3), (20, .ireturn, 1)]
set_option maxRecDepth 100000 in
theorem dX8_treeCount_p0_ok : (dtX8_treeCount_p0.all fun e => decide (decode cX8_treeCount e.1 = .ok e.2)) = true := by decide +kernel
theorem dX8_treeCount_p0 (i : Nat) {pc : Nat} {q : Instr × Nat} (hi : dtX8_treeCount_p0[i]? = some (pc, q)) : decode cX8_treeCount pc = .ok q := dt_get dX8_treeCount_p0_ok i hi
def dtX8_acceptBest_p0 : DT := [(0, .aload_n 0, 1), (1, .iload_n 1, 1), (2, .invokevirtual 98, 3), (5, .ifCond .ne 6, 3), (8, .ldc 128, 2), (10, .ireturn, 1), (11, .aload_n 0, 1), (12, .iload_n 1, 1), (13, .invokevirtual 226, 3), (16, .aload_n 0, 1), (17, .getfield 171, 3), (20, .ifCond .ne 6, 3), (23, .ldc 118, 2), (25, .ireturn, 1), (26, .aload_n 0, 1), (27, .getfield 13, 3), (30, .iload_n 1, 1), (31, .iaload, 1), (32, .aload_n 0, 1), (33, .iload_n 1, 1), (34, .invokevirtual 229, 3), (37, .isub, 1), (38, .istore_n 2, 1), (39, .iconst 1, 1), (40, .istore_n 3, 1), (41, .iload_n 3, 1), (42, .aload_n 0, 1), (43, .getfield 13, 3), (46, .iload_n 1, 1), (47, .iaload, 1), (48, .if_icmp .gt 25, 3), (51, .aload_n 0, 1), (52, .getfield 19, 3), (55, .iload_n 1, 1), (56, .iload_n 3, 1), (57, .invokestatic 124, 3), (60, .aload_n 0, 1), (61, .getfield 63, 3), (64, .iload_n 3, 1), (65, .iaload, 1), (66, .iastore, 1), (67, .iinc 3 1, 3), (70, .goto (-29), 3), (73, .iload_n 2, 1), (74, .ireturn, 1)]
set_option maxRecDepth 100000 in
theorem dX8_acceptBest_p0_ok : (dtX8_acceptBest_p0.all fun e => decide (decode cX8_acceptBest e.1 = .ok e.2)) = true := by decide +kernel
theorem dX8_acceptBest_p0 (i : Nat) {pc : Nat} {q : Instr × Nat} (hi : dtX8_acceptBest_p0[i]? = some (pc, q)) : decode cX8_acceptBest pc = .ok q := dt_get dX8_acceptBest_p0_ok i hi
def dtX8_weightSum_p0 : DT := [(0, .aload_n 0, 1), (1, .iload_n 1, 1), (2, .invokevirtual 98, 3), (5, .ifCond .ne 7, 3), (8, .ldc2_w 232, 3), (11, .lreturn, 1), (12, .aload_n 0, 1), (13, .iload_n 1, 1), (14, .invokevirtual 226, 3), (17, .aload_n 0, 1), (18, .getfield 177, 3), (21, .lreturn, 1)]
set_option maxRecDepth 100000 in
theorem dX8_weightSum_p0_ok : (dtX8_weightSum_p0.all fun e => decide (decode cX8_weightSum e.1 = .ok e.2)) = true := by decide +kernel
theorem dX8_weightSum_p0 (i : Nat) {pc : Nat} {q : Instr × Nat} (hi : dtX8_weightSum_p0[i]? = some (pc, q)) : decode cX8_weightSum pc = .ok q := dt_get dX8_weightSum_p0_ok i hi
def dtX8_chance_p0 : DT := [(0, .aload_n 0, 1), (1, .iload_n 1, 1), (2, .iload_n 2, 1), (3, .iload_n 3, 1), (4, .invokevirtual 129, 3), (7, .ifCond .ne 7, 3), (10, .ldc2_w 232, 3), (13, .lreturn, 1), (14, .aload_n 0, 1), (15, .iload_n 1, 1), (16, .invokevirtual 226, 3), (19, .aload_n 0, 1), (20, .getfield 177, 3), (23, .lconst 0, 1), (24, .lcmp, 1), (25, .ifCond .ne 7, 3), (28, .ldc2_w 234, 3), (31, .lreturn, 1), (32, .aload_n 0, 1), (33, .getfield 69, 3), (36, .bipush 7, 2), (38, .iload_n 2, 1), (39, .imul, 1), (40, .iload_n 3, 1), (41, .iadd, 1), (42, .laload, 1), (43, .lstore 5, 2), (45, .lload 5, 2), (47, .lstore 7, 2), (49, .aload_n 0, 1), (50, .getfield 177, 3), (53, .lstore 9, 2), (55, .lload 9, 2), (57, .lconst 0, 1), (58, .lcmp, 1), (59, .ifCond .eq 21, 3), (62, .lload 7, 2), (64, .lload 9, 2), (66, .lrem, 1), (67, .lstore 11, 2), (69, .lload 9, 2), (71, .lstore 7, 2), (73, .lload 11, 2), (75, .lstore 9, 2), (77, .goto (-22), 3), (80, .iload 4, 2), (82, .ifCond .eq 13, 3), (85, .aload_n 0, 1), (86, .getfield 177, 3), (89, .lload 7, 2), (91, .ldiv, 1), (92, .goto 8, 3), (95, .lload 5, 2), (97, .lload 7, 2), (99, .ldiv, 1), (100, .lreturn, 1)]
set_option maxRecDepth 100000 in
theorem dX8_chance_p0_ok : (dtX8_chance_p0.all fun e => decide (decode cX8_chance e.1 = .ok e.2)) = true := by decide +kernel
theorem dX8_chance_p0 (i : Nat) {pc : Nat} {q : Instr × Nat} (hi : dtX8_chance_p0[i]? = some (pc, q)) : decode cX8_chance pc = .ok q := dt_get dX8_chance_p0_ok i hi
def dtX8_riskHead_p0 : DT := [(0, .aload_n 0, 1), (1, .iload_n 1, 1), (2, .iload_n 2, 1), (3, .invokevirtual 102, 3), (6, .ifCond .ne 6, 3), (9, .ldc 128, 2), (11, .ireturn, 1), (12, .aload_n 0, 1), (13, .iload_n 1, 1), (14, .invokevirtual 226, 3), (17, .aload_n 0, 1), (18, .getfield 177, 3), (21, .lconst 0, 1), (22, .lcmp, 1), (23, .ifCond .ne 6, 3), (26, .ldc 118, 2), (28, .ireturn, 1), (29, .aload_n 0, 1), (30, .iload_n 1, 1), (31, .invokevirtual 236, 3), (34, .aload_n 0, 1), (35, .getfield 73, 3), (38, .iload_n 2, 1), (39, .iaload, 1), (40, .ireturn, 1)]
set_option maxRecDepth 100000 in
theorem dX8_riskHead_p0_ok : (dtX8_riskHead_p0.all fun e => decide (decode cX8_riskHead e.1 = .ok e.2)) = true := by decide +kernel
theorem dX8_riskHead_p0 (i : Nat) {pc : Nat} {q : Instr × Nat} (hi : dtX8_riskHead_p0[i]? = some (pc, q)) : decode cX8_riskHead pc = .ok q := dt_get dX8_riskHead_p0_ok i hi
def dtX8_crossings_p0 : DT := [(0, .aload_n 0, 1), (1, .iload_n 1, 1), (2, .invokevirtual 98, 3), (5, .ifCond .eq 23, 3), (8, .aload_n 0, 1), (9, .getfield 19, 3), (12, .bipush 7, 2), (14, .iload_n 1, 1), (15, .imul, 1), (16, .aload_n 0, 1), (17, .getfield 13, 3), (20, .iload_n 1, 1), (21, .iaload, 1), (22, .invokestatic 193, 3), (25, .goto 5, 3), (28, .ldc 128, 2), (30, .ireturn, 1)]
set_option maxRecDepth 100000 in
theorem dX8_crossings_p0_ok : (dtX8_crossings_p0.all fun e => decide (decode cX8_crossings e.1 = .ok e.2)) = true := by decide +kernel
theorem dX8_crossings_p0 (i : Nat) {pc : Nat} {q : Instr × Nat} (hi : dtX8_crossings_p0[i]? = some (pc, q)) : decode cX8_crossings pc = .ok q := dt_get dX8_crossings_p0_ok i hi
def dtX8_depth_p0 : DT := [(0, .aload_n 0, 1), (1, .iload_n 1, 1), (2, .iload_n 2, 1), (3, .invokevirtual 102, 3), (6, .ifCond .ne 6, 3), (9, .ldc 128, 2), (11, .ireturn, 1), (12, .iconst 0, 1), (13, .istore_n 3, 1), (14, .iload_n 2, 1), (15, .istore 4, 2), (17, .iload 4, 2), (19, .ifCond .le 22, 3), (22, .aload_n 0, 1), (23, .getfield 19, 3), (26, .iload_n 1, 1), (27, .iload 4, 2), (29, .invokestatic 124, 3), (32, .iaload, 1), (33, .istore 4, 2), (35, .iinc 3 1, 3), (38, .goto (-21), 3), (41, .iload_n 3, 1), (42, .ireturn, 1)]
set_option maxRecDepth 100000 in
theorem dX8_depth_p0_ok : (dtX8_depth_p0.all fun e => decide (decode cX8_depth e.1 = .ok e.2)) = true := by decide +kernel
theorem dX8_depth_p0 (i : Nat) {pc : Nat} {q : Instr × Nat} (hi : dtX8_depth_p0[i]? = some (pc, q)) : decode cX8_depth pc = .ok q := dt_get dX8_depth_p0_ok i hi
def dtX8_inserts_p0 : DT := [(0, .iload_n 2, 1), (1, .istore 4, 2), (3, .iload 4, 2), (5, .iload_n 1, 1), (6, .if_icmp .le 25, 3), (9, .aload_n 0, 1), (10, .getfield 76, 3), (13, .iload 4, 2), (15, .aload_n 0, 1), (16, .getfield 76, 3), (19, .iload 4, 2), (21, .iconst 1, 1), (22, .isub, 1), (23, .iaload, 1), (24, .iastore, 1), (25, .iinc 4 (-1), 3), (28, .goto (-25), 3), (31, .aload_n 0, 1), (32, .getfield 76, 3), (35, .iload_n 1, 1), (36, .iload_n 3, 1), (37, .iastore, 1), (38, .return_, 1)]
set_option maxRecDepth 100000 in
theorem dX8_inserts_p0_ok : (dtX8_inserts_p0.all fun e => decide (decode cX8_inserts e.1 = .ok e.2)) = true := by decide +kernel
theorem dX8_inserts_p0 (i : Nat) {pc : Nat} {q : Instr × Nat} (hi : dtX8_inserts_p0[i]? = some (pc, q)) : decode cX8_inserts pc = .ok q := dt_get dX8_inserts_p0_ok i hi
def dtX8_placeOf_p0 : DT := [(0, .iconst 0, 1), (1, .istore_n 3, 1), (2, .iload_n 3, 1), (3, .iload_n 2, 1), (4, .if_icmp .ge 21, 3), (7, .aload_n 0, 1), (8, .getfield 76, 3), (11, .iload_n 3, 1), (12, .iaload, 1), (13, .iload_n 1, 1), (14, .if_icmp .ne 5, 3), (17, .iload_n 3, 1), (18, .ireturn, 1), (19, .iinc 3 1, 3), (22, .goto (-20), 3), (25, .iconst (-1), 1), (26, .ireturn, 1)]
set_option maxRecDepth 100000 in
theorem dX8_placeOf_p0_ok : (dtX8_placeOf_p0.all fun e => decide (decode cX8_placeOf e.1 = .ok e.2)) = true := by decide +kernel
theorem dX8_placeOf_p0 (i : Nat) {pc : Nat} {q : Instr × Nat} (hi : dtX8_placeOf_p0[i]? = some (pc, q)) : decode cX8_placeOf pc = .ok q := dt_get dX8_placeOf_p0_ok i hi
def dtX8_orders_p0 : DT := [(0, .aload_n 0, 1), (1, .getfield 13, 3), (4, .iload_n 1, 1), (5, .iaload, 1), (6, .istore_n 2, 1), (7, .aload_n 0, 1), (8, .getfield 76, 3), (11, .iconst 0, 1), (12, .iconst 0, 1), (13, .iastore, 1), (14, .iconst 1, 1), (15, .istore_n 3, 1), (16, .iconst 0, 1), (17, .istore 4, 2), (19, .iload_n 3, 1), (20, .iload_n 2, 1), (21, .if_icmp .gt 154, 3), (24, .iconst 0, 1), (25, .istore 5, 2), (27, .iload 4, 2), (29, .iload 5, 2), (31, .ishr, 1), (32, .iconst 1, 1), (33, .iand, 1), (34, .iconst 1, 1), (35, .if_icmp .eq 13, 3), (38, .aload_n 0, 1), (39, .iload 5, 2), (41, .iload_n 3, 1), (42, .invokevirtual 239, 3), (45, .ifCond .ge 9, 3), (48, .iinc 5 1, 3), (51, .goto (-24), 3), (54, .iload 4, 2), (56, .iconst 1, 1), (57, .iload 5, 2), (59, .ishl, 1), (60, .ior, 1), (61, .istore 4, 2), (63, .iconst 1, 1), (64, .istore 6, 2), (66, .iload 6, 2), (68, .iload 5, 2), (70, .if_icmp .ge 42, 3), (73, .aload_n 0, 1), (74, .getfield 19, 3), (77, .iload_n 1, 1), (78, .iload 6, 2), (80, .invokestatic 124, 3), (83, .iaload, 1), (84, .iload 5, 2), (86, .if_icmp .ne 20, 3), (89, .aload_n 0, 1), (90, .aload_n 0, 1), (91, .iload 5, 2), (93, .iload_n 3, 1), (94, .invokevirtual 239, 3), (97, .iload_n 3, 1), (98, .iload 6, 2), (100, .invokevirtual 242, 3), (103, .iinc 3 1, 3), (106, .iinc 6 1, 3), (109, .goto (-43), 3), (112, .aload_n 0, 1)]
set_option maxRecDepth 100000 in
theorem dX8_orders_p0_ok : (dtX8_orders_p0.all fun e => decide (decode cX8_orders e.1 = .ok e.2)) = true := by decide +kernel
theorem dX8_orders_p0 (i : Nat) {pc : Nat} {q : Instr × Nat} (hi : dtX8_orders_p0[i]? = some (pc, q)) : decode cX8_orders pc = .ok q := dt_get dX8_orders_p0_ok i hi
def dtX8_orders_p1 : DT := [(113, .iload 5, 2), (115, .iload_n 3, 1), (116, .invokevirtual 239, 3), (119, .iconst 1, 1), (120, .iadd, 1), (121, .istore 6, 2), (123, .iload 5, 2), (125, .iconst 1, 1), (126, .iadd, 1), (127, .istore 7, 2), (129, .iload 7, 2), (131, .iload_n 2, 1), (132, .if_icmp .gt 40, 3), (135, .aload_n 0, 1), (136, .getfield 19, 3), (139, .iload_n 1, 1), (140, .iload 7, 2), (142, .invokestatic 124, 3), (145, .iaload, 1), (146, .iload 5, 2), (148, .if_icmp .ne 18, 3), (151, .aload_n 0, 1), (152, .iload 6, 2), (154, .iload_n 3, 1), (155, .iload 7, 2), (157, .invokevirtual 242, 3), (160, .iinc 6 1, 3), (163, .iinc 3 1, 3), (166, .iinc 7 1, 3), (169, .goto (-40), 3), (172, .goto (-153), 3), (175, .iconst 0, 1), (176, .istore 5, 2), (178, .iload 5, 2), (180, .iload_n 2, 1), (181, .if_icmp .gt 23, 3), (184, .aload_n 0, 1), (185, .getfield 79, 3), (188, .aload_n 0, 1), (189, .getfield 76, 3), (192, .iload 5, 2), (194, .iaload, 1), (195, .iload 5, 2), (197, .iastore, 1), (198, .iinc 5 1, 3), (201, .goto (-23), 3), (204, .return_, 1)]
set_option maxRecDepth 100000 in
theorem dX8_orders_p1_ok : (dtX8_orders_p1.all fun e => decide (decode cX8_orders e.1 = .ok e.2)) = true := by decide +kernel
theorem dX8_orders_p1 (i : Nat) {pc : Nat} {q : Instr × Nat} (hi : dtX8_orders_p1[i]? = some (pc, q)) : decode cX8_orders pc = .ok q := dt_get dX8_orders_p1_ok i hi
def dtX8_projectiveOrder_p0 : DT := [(0, .aload_n 0, 1), (1, .iload_n 1, 1), (2, .invokevirtual 98, 3), (5, .ifCond .eq 19, 3), (8, .iload_n 2, 1), (9, .iconst 0, 1), (10, .aload_n 0, 1), (11, .getfield 13, 3), (14, .iload_n 1, 1), (15, .iaload, 1), (16, .iconst 1, 1), (17, .isub, 1), (18, .invokestatic 94, 3), (21, .ifCond .ne 6, 3), (24, .ldc 128, 2), (26, .ireturn, 1), (27, .aload_n 0, 1), (28, .iload_n 1, 1), (29, .invokevirtual 246, 3), (32, .aload_n 0, 1), (33, .getfield 76, 3), (36, .iload_n 2, 1), (37, .aload_n 0, 1), (38, .getfield 79, 3), (41, .iconst 0, 1), (42, .iaload, 1), (43, .if_icmp .ge 7, 3), (46, .iload_n 2, 1), (47, .goto 6, 3), (50, .iload_n 2, 1), (51, .iconst 1, 1), (52, .iadd, 1), (53, .iaload, 1), (54, .ireturn, 1)]
set_option maxRecDepth 100000 in
theorem dX8_projectiveOrder_p0_ok : (dtX8_projectiveOrder_p0.all fun e => decide (decode cX8_projectiveOrder e.1 = .ok e.2)) = true := by decide +kernel
theorem dX8_projectiveOrder_p0 (i : Nat) {pc : Nat} {q : Instr × Nat} (hi : dtX8_projectiveOrder_p0[i]? = some (pc, q)) : decode cX8_projectiveOrder pc = .ok q := dt_get dX8_projectiveOrder_p0_ok i hi
def dtX8_isReady_p0 : DT := [(0, .iconst 1, 1), (1, .istore_n 3, 1), (2, .iconst 1, 1), (3, .istore 4, 2), (5, .iload 4, 2), (7, .aload_n 0, 1), (8, .getfield 13, 3), (11, .iload_n 1, 1), (12, .iaload, 1), (13, .if_icmp .gt 47, 3), (16, .iload_n 3, 1), (17, .ifCond .eq 35, 3), (20, .aload_n 0, 1), (21, .getfield 19, 3), (24, .iload_n 1, 1), (25, .iload 4, 2), (27, .invokestatic 124, 3), (30, .iaload, 1), (31, .iload_n 2, 1), (32, .if_icmp .ne 16, 3), (35, .aload_n 0, 1), (36, .getfield 249, 3), (39, .iload 4, 2), (41, .ishr, 1), (42, .iconst 1, 1), (43, .iand, 1), (44, .iconst 1, 1), (45, .if_icmp .ne 7, 3), (48, .iconst 1, 1), (49, .goto 4, 3), (52, .iconst 0, 1), (53, .istore_n 3, 1), (54, .iinc 4 1, 3), (57, .goto (-52), 3), (60, .iload_n 3, 1), (61, .ireturn, 1)]
set_option maxRecDepth 100000 in
theorem dX8_isReady_p0_ok : (dtX8_isReady_p0.all fun e => decide (decode cX8_isReady e.1 = .ok e.2)) = true := by decide +kernel
theorem dX8_isReady_p0 (i : Nat) {pc : Nat} {q : Instr × Nat} (hi : dtX8_isReady_p0[i]? = some (pc, q)) : decode cX8_isReady pc = .ok q := dt_get dX8_isReady_p0_ok i hi
def dtX8_next_p0 : DT := [(0, .aload_n 0, 1), (1, .getfield 252, 3), (4, .iconst 1, 1), (5, .if_icmp .le 107, 3), (8, .aload_n 0, 1), (9, .getfield 85, 3), (12, .aload_n 0, 1), (13, .getfield 252, 3), (16, .iconst 1, 1), (17, .isub, 1), (18, .iaload, 1), (19, .istore_n 2, 1), (20, .aload_n 0, 1), (21, .getfield 85, 3), (24, .aload_n 0, 1), (25, .getfield 252, 3), (28, .iconst 2, 1), (29, .isub, 1), (30, .iaload, 1), (31, .istore_n 3, 1), (32, .iload_n 3, 1), (33, .ifCond .eq 28, 3), (36, .aload_n 0, 1), (37, .getfield 19, 3), (40, .iload_n 1, 1), (41, .iload_n 3, 1), (42, .invokestatic 124, 3), (45, .iaload, 1), (46, .iload_n 2, 1), (47, .if_icmp .ne 14, 3), (50, .aload_n 0, 1), (51, .iload_n 1, 1), (52, .iload_n 3, 1), (53, .invokevirtual 255, 3), (56, .ifCond .eq 5, 3), (59, .iconst 1, 1), (60, .ireturn, 1), (61, .aload_n 0, 1), (62, .getfield 19, 3), (65, .iload_n 1, 1), (66, .iload_n 2, 1), (67, .invokestatic 124, 3), (70, .iaload, 1), (71, .iload_n 3, 1), (72, .if_icmp .ne 14, 3), (75, .aload_n 0, 1), (76, .iload_n 1, 1), (77, .iload_n 2, 1), (78, .invokevirtual 255, 3), (81, .ifCond .eq 5, 3), (84, .iconst 2, 1), (85, .ireturn, 1), (86, .iload_n 3, 1), (87, .ifCond .eq 25, 3), (90, .iload_n 3, 1), (91, .iload_n 2, 1), (92, .if_icmp .ge 20, 3), (95, .aload_n 0, 1), (96, .getfield 79, 3), (99, .iload_n 3, 1), (100, .iaload, 1), (101, .aload_n 0, 1), (102, .getfield 79, 3), (105, .iload_n 2, 1)]
set_option maxRecDepth 100000 in
theorem dX8_next_p0_ok : (dtX8_next_p0.all fun e => decide (decode cX8_next e.1 = .ok e.2)) = true := by decide +kernel
theorem dX8_next_p0 (i : Nat) {pc : Nat} {q : Instr × Nat} (hi : dtX8_next_p0[i]? = some (pc, q)) : decode cX8_next pc = .ok q := dt_get dX8_next_p0_ok i hi
def dtX8_next_p1 : DT := [(106, .iaload, 1), (107, .if_icmp .le 5, 3), (110, .iconst 3, 1), (111, .ireturn, 1), (112, .aload_n 0, 1), (113, .getfield 258, 3), (116, .ifCond .le 7, 3), (119, .iconst 0, 1), (120, .goto 4, 3), (123, .iconst (-1), 1), (124, .ireturn, 1)]
set_option maxRecDepth 100000 in
theorem dX8_next_p1_ok : (dtX8_next_p1.all fun e => decide (decode cX8_next e.1 = .ok e.2)) = true := by decide +kernel
theorem dX8_next_p1 (i : Nat) {pc : Nat} {q : Instr × Nat} (hi : dtX8_next_p1[i]? = some (pc, q)) : decode cX8_next pc = .ok q := dt_get dX8_next_p1_ok i hi
def dtX8_moves_p0 : DT := [(0, .aload_n 0, 1), (1, .iload_n 1, 1), (2, .invokevirtual 246, 3), (5, .aload_n 0, 1), (6, .iconst 0, 1), (7, .putfield 261, 3), (10, .aload_n 0, 1), (11, .iconst 0, 1), (12, .putfield 249, 3), (15, .aload_n 0, 1), (16, .getfield 85, 3), (19, .iconst 0, 1), (20, .iconst 0, 1), (21, .iastore, 1), (22, .aload_n 0, 1), (23, .iconst 1, 1), (24, .putfield 252, 3), (27, .aload_n 0, 1), (28, .aload_n 0, 1), (29, .getfield 13, 3), (32, .iload_n 1, 1), (33, .iaload, 1), (34, .putfield 258, 3), (37, .iconst 0, 1), (38, .istore_n 2, 1), (39, .iload_n 2, 1), (40, .aload_n 0, 1), (41, .getfield 258, 3), (44, .if_icmp .ge 21, 3), (47, .aload_n 0, 1), (48, .getfield 88, 3), (51, .iload_n 2, 1), (52, .aload_n 0, 1), (53, .getfield 258, 3), (56, .iload_n 2, 1), (57, .isub, 1), (58, .iastore, 1), (59, .iinc 2 1, 3), (62, .goto (-23), 3), (65, .aload_n 0, 1), (66, .iload_n 1, 1), (67, .invokevirtual 264, 3), (70, .istore_n 2, 1), (71, .iload_n 2, 1), (72, .ifCond .lt 196, 3), (75, .aload_n 0, 1), (76, .getfield 85, 3), (79, .aload_n 0, 1), (80, .getfield 252, 3), (83, .iconst 1, 1), (84, .isub, 1), (85, .iaload, 1), (86, .istore_n 3, 1), (87, .iload_n 2, 1), (88, .ifCond .ne 44, 3), (91, .aload_n 0, 1), (92, .dup, 1), (93, .getfield 258, 3), (96, .iconst 1, 1), (97, .isub, 1), (98, .putfield 258, 3), (101, .aload_n 0, 1), (102, .getfield 85, 3), (105, .aload_n 0, 1)]
set_option maxRecDepth 100000 in
theorem dX8_moves_p0_ok : (dtX8_moves_p0.all fun e => decide (decode cX8_moves e.1 = .ok e.2)) = true := by decide +kernel
theorem dX8_moves_p0 (i : Nat) {pc : Nat} {q : Instr × Nat} (hi : dtX8_moves_p0[i]? = some (pc, q)) : decode cX8_moves pc = .ok q := dt_get dX8_moves_p0_ok i hi
def dtX8_moves_p1 : DT := [(106, .getfield 252, 3), (109, .aload_n 0, 1), (110, .getfield 88, 3), (113, .aload_n 0, 1), (114, .getfield 258, 3), (117, .iaload, 1), (118, .iastore, 1), (119, .aload_n 0, 1), (120, .dup, 1), (121, .getfield 252, 3), (124, .iconst 1, 1), (125, .iadd, 1), (126, .putfield 252, 3), (129, .goto 110, 3), (132, .iload_n 2, 1), (133, .iconst 2, 1), (134, .if_icmp .ne 28, 3), (137, .aload_n 0, 1), (138, .dup, 1), (139, .getfield 249, 3), (142, .iconst 1, 1), (143, .iload_n 3, 1), (144, .ishl, 1), (145, .ior, 1), (146, .putfield 249, 3), (149, .aload_n 0, 1), (150, .dup, 1), (151, .getfield 252, 3), (154, .iconst 1, 1), (155, .isub, 1), (156, .putfield 252, 3), (159, .goto 80, 3), (162, .aload_n 0, 1), (163, .getfield 85, 3), (166, .aload_n 0, 1), (167, .getfield 252, 3), (170, .iconst 2, 1), (171, .isub, 1), (172, .iaload, 1), (173, .istore 4, 2), (175, .iload_n 2, 1), (176, .iconst 1, 1), (177, .if_icmp .ne 19, 3), (180, .aload_n 0, 1), (181, .dup, 1), (182, .getfield 249, 3), (185, .iconst 1, 1), (186, .iload 4, 2), (188, .ishl, 1), (189, .ior, 1), (190, .putfield 249, 3), (193, .goto 24, 3), (196, .aload_n 0, 1), (197, .getfield 88, 3), (200, .aload_n 0, 1), (201, .getfield 258, 3), (204, .iload 4, 2), (206, .iastore, 1), (207, .aload_n 0, 1), (208, .dup, 1), (209, .getfield 258, 3), (212, .iconst 1, 1), (213, .iadd, 1), (214, .putfield 258, 3)]
set_option maxRecDepth 100000 in
theorem dX8_moves_p1_ok : (dtX8_moves_p1.all fun e => decide (decode cX8_moves e.1 = .ok e.2)) = true := by decide +kernel
theorem dX8_moves_p1 (i : Nat) {pc : Nat} {q : Instr × Nat} (hi : dtX8_moves_p1[i]? = some (pc, q)) : decode cX8_moves pc = .ok q := dt_get dX8_moves_p1_ok i hi
def dtX8_moves_p2 : DT := [(217, .aload_n 0, 1), (218, .getfield 85, 3), (221, .aload_n 0, 1), (222, .getfield 252, 3), (225, .iconst 2, 1), (226, .isub, 1), (227, .iload_n 3, 1), (228, .iastore, 1), (229, .aload_n 0, 1), (230, .dup, 1), (231, .getfield 252, 3), (234, .iconst 1, 1), (235, .isub, 1), (236, .putfield 252, 3), (239, .aload_n 0, 1), (240, .getfield 82, 3), (243, .aload_n 0, 1), (244, .getfield 261, 3), (247, .iload_n 2, 1), (248, .iastore, 1), (249, .aload_n 0, 1), (250, .dup, 1), (251, .getfield 261, 3), (254, .iconst 1, 1), (255, .iadd, 1), (256, .putfield 261, 3), (259, .aload_n 0, 1), (260, .iload_n 1, 1), (261, .invokevirtual 264, 3), (264, .istore_n 2, 1), (265, .goto (-194), 3), (268, .return_, 1)]
set_option maxRecDepth 100000 in
theorem dX8_moves_p2_ok : (dtX8_moves_p2.all fun e => decide (decode cX8_moves e.1 = .ok e.2)) = true := by decide +kernel
theorem dX8_moves_p2 (i : Nat) {pc : Nat} {q : Instr × Nat} (hi : dtX8_moves_p2[i]? = some (pc, q)) : decode cX8_moves pc = .ok q := dt_get dX8_moves_p2_ok i hi
def dtX8_transitions_p0 : DT := [(0, .aload_n 0, 1), (1, .iload_n 1, 1), (2, .invokevirtual 98, 3), (5, .ifCond .ne 6, 3), (8, .ldc 128, 2), (10, .ireturn, 1), (11, .aload_n 0, 1), (12, .iload_n 1, 1), (13, .invokevirtual 267, 3), (16, .aload_n 0, 1), (17, .getfield 261, 3), (20, .ireturn, 1)]
set_option maxRecDepth 100000 in
theorem dX8_transitions_p0_ok : (dtX8_transitions_p0.all fun e => decide (decode cX8_transitions e.1 = .ok e.2)) = true := by decide +kernel
theorem dX8_transitions_p0 (i : Nat) {pc : Nat} {q : Instr × Nat} (hi : dtX8_transitions_p0[i]? = some (pc, q)) : decode cX8_transitions pc = .ok q := dt_get dX8_transitions_p0_ok i hi
def dtX8_transition_p0 : DT := [(0, .aload_n 0, 1), (1, .iload_n 1, 1), (2, .invokevirtual 98, 3), (5, .ifCond .ne 6, 3), (8, .ldc 128, 2), (10, .ireturn, 1), (11, .aload_n 0, 1), (12, .iload_n 1, 1), (13, .invokevirtual 267, 3), (16, .iload_n 2, 1), (17, .iconst 0, 1), (18, .aload_n 0, 1), (19, .getfield 261, 3), (22, .iconst 1, 1), (23, .isub, 1), (24, .invokestatic 94, 3), (27, .ifCond .eq 12, 3), (30, .aload_n 0, 1), (31, .getfield 82, 3), (34, .iload_n 2, 1), (35, .iaload, 1), (36, .goto 5, 3), (39, .ldc 118, 2), (41, .ireturn, 1)]
set_option maxRecDepth 100000 in
theorem dX8_transition_p0_ok : (dtX8_transition_p0.all fun e => decide (decode cX8_transition e.1 = .ok e.2)) = true := by decide +kernel
theorem dX8_transition_p0 (i : Nat) {pc : Nat} {q : Instr × Nat} (hi : dtX8_transition_p0[i]? = some (pc, q)) : decode cX8_transition pc = .ok q := dt_get dX8_transition_p0_ok i hi
def dtX8_changes_p0 : DT := [(0, .aload_n 0, 1), (1, .getfield 28, 3), (4, .iload_n 1, 1), (5, .iaload, 1), (6, .iload_n 2, 1), (7, .iadd, 1), (8, .istore_n 3, 1), (9, .aload_n 0, 1), (10, .getfield 28, 3), (13, .iload_n 1, 1), (14, .iload_n 3, 1), (15, .sipush 999, 3), (18, .if_icmp .le 9, 3), (21, .sipush 999, 3), (24, .goto 17, 3), (27, .iload_n 3, 1), (28, .sipush (-999), 3), (31, .if_icmp .ge 9, 3), (34, .sipush (-999), 3), (37, .goto 4, 3), (40, .iload_n 3, 1), (41, .iastore, 1), (42, .return_, 1)]
set_option maxRecDepth 100000 in
theorem dX8_changes_p0_ok : (dtX8_changes_p0.all fun e => decide (decode cX8_changes e.1 = .ok e.2)) = true := by decide +kernel
theorem dX8_changes_p0 (i : Nat) {pc : Nat} {q : Instr × Nat} (hi : dtX8_changes_p0[i]? = some (pc, q)) : decode cX8_changes pc = .ok q := dt_get dX8_changes_p0_ok i hi
def dtX8_trains_p0 : DT := [(0, .aload_n 0, 1), (1, .iload_n 1, 1), (2, .invokevirtual 226, 3), (5, .aload_n 0, 1), (6, .getfield 171, 3), (9, .ifCond .ne 6, 3), (12, .ldc 118, 2), (14, .ireturn, 1), (15, .iconst 0, 1), (16, .istore_n 2, 1), (17, .iconst 1, 1), (18, .istore_n 3, 1), (19, .iload_n 3, 1), (20, .aload_n 0, 1), (21, .getfield 13, 3), (24, .iload_n 1, 1), (25, .iaload, 1), (26, .if_icmp .gt 87, 3), (29, .aload_n 0, 1), (30, .getfield 19, 3), (33, .iload_n 1, 1), (34, .iload_n 3, 1), (35, .invokestatic 124, 3), (38, .iaload, 1), (39, .istore 4, 2), (41, .aload_n 0, 1), (42, .getfield 63, 3), (45, .iload_n 3, 1), (46, .iaload, 1), (47, .istore 5, 2), (49, .iload 4, 2), (51, .iload 5, 2), (53, .if_icmp .eq 54, 3), (56, .aload_n 0, 1), (57, .aload_n 0, 1), (58, .iload_n 1, 1), (59, .iload 4, 2), (61, .iload_n 3, 1), (62, .invokevirtual 161, 3), (65, .iconst 1, 1), (66, .invokevirtual 269, 3), (69, .aload_n 0, 1), (70, .iload 4, 2), (72, .iload_n 3, 1), (73, .invokestatic 164, 3), (76, .iconst 1, 1), (77, .invokevirtual 269, 3), (80, .aload_n 0, 1), (81, .aload_n 0, 1), (82, .iload_n 1, 1), (83, .iload 5, 2), (85, .iload_n 3, 1), (86, .invokevirtual 161, 3), (89, .iconst (-1), 1), (90, .invokevirtual 269, 3), (93, .aload_n 0, 1), (94, .iload 5, 2), (96, .iload_n 3, 1), (97, .invokestatic 164, 3), (100, .iconst (-1), 1), (101, .invokevirtual 269, 3), (104, .iinc 2 1, 3), (107, .iinc 3 1, 3), (110, .goto (-91), 3)]
set_option maxRecDepth 100000 in
theorem dX8_trains_p0_ok : (dtX8_trains_p0.all fun e => decide (decode cX8_trains e.1 = .ok e.2)) = true := by decide +kernel
theorem dX8_trains_p0 (i : Nat) {pc : Nat} {q : Instr × Nat} (hi : dtX8_trains_p0[i]? = some (pc, q)) : decode cX8_trains pc = .ok q := dt_get dX8_trains_p0_ok i hi
def dtX8_trains_p1 : DT := [(113, .iload_n 2, 1), (114, .ireturn, 1)]
set_option maxRecDepth 100000 in
theorem dX8_trains_p1_ok : (dtX8_trains_p1.all fun e => decide (decode cX8_trains e.1 = .ok e.2)) = true := by decide +kernel
theorem dX8_trains_p1 (i : Nat) {pc : Nat} {q : Instr × Nat} (hi : dtX8_trains_p1[i]? = some (pc, q)) : decode cX8_trains pc = .ok q := dt_get dX8_trains_p1_ok i hi
def dtX8_train_p0 : DT := [(0, .aload_n 0, 1), (1, .iload_n 1, 1), (2, .invokevirtual 98, 3), (5, .ifCond .eq 11, 3), (8, .aload_n 0, 1), (9, .iload_n 1, 1), (10, .invokevirtual 272, 3), (13, .goto 5, 3), (16, .ldc 128, 2), (18, .ireturn, 1)]
set_option maxRecDepth 100000 in
theorem dX8_train_p0_ok : (dtX8_train_p0.all fun e => decide (decode cX8_train e.1 = .ok e.2)) = true := by decide +kernel
theorem dX8_train_p0 (i : Nat) {pc : Nat} {q : Instr × Nat} (hi : dtX8_train_p0[i]? = some (pc, q)) : decode cX8_train pc = .ok q := dt_get dX8_train_p0_ok i hi
def dtX8_trainAll_p0 : DT := [(0, .iload_n 1, 1), (1, .iconst 1, 1), (2, .bipush 10, 2), (4, .invokestatic 94, 3), (7, .ifCond .ne 6, 3), (10, .ldc 106, 2), (12, .ireturn, 1), (13, .iconst 0, 1), (14, .istore_n 2, 1), (15, .iload_n 2, 1), (16, .iload_n 1, 1), (17, .if_icmp .ge 57, 3), (20, .iconst 0, 1), (21, .istore_n 3, 1), (22, .iconst 0, 1), (23, .istore 4, 2), (25, .iload 4, 2), (27, .aload_n 0, 1), (28, .getfield 91, 3), (31, .if_icmp .ge 31, 3), (34, .aload_n 0, 1), (35, .iload 4, 2), (37, .invokevirtual 272, 3), (40, .istore 5, 2), (42, .iload_n 3, 1), (43, .iload 5, 2), (45, .ifCond .le 8, 3), (48, .iload 5, 2), (50, .goto 4, 3), (53, .iconst 0, 1), (54, .iadd, 1), (55, .istore_n 3, 1), (56, .iinc 4 1, 3), (59, .goto (-34), 3), (62, .iload_n 3, 1), (63, .ifCond .ne 5, 3), (66, .iload_n 2, 1), (67, .ireturn, 1), (68, .iinc 2 1, 3), (71, .goto (-56), 3), (74, .ldc 118, 2), (76, .ireturn, 1)]
set_option maxRecDepth 100000 in
theorem dX8_trainAll_p0_ok : (dtX8_trainAll_p0.all fun e => decide (decode cX8_trainAll e.1 = .ok e.2)) = true := by decide +kernel
theorem dX8_trainAll_p0 (i : Nat) {pc : Nat} {q : Instr × Nat} (hi : dtX8_trainAll_p0[i]? = some (pc, q)) : decode cX8_trainAll pc = .ok q := dt_get dX8_trainAll_p0_ok i hi
def dtX8_used_p0 : DT := [(0, .iconst 0, 1), (1, .istore_n 1, 1), (2, .iconst 0, 1), (3, .istore_n 2, 1), (4, .iload_n 2, 1), (5, .bipush 84, 2), (7, .if_icmp .ge 26, 3), (10, .iload_n 1, 1), (11, .aload_n 0, 1), (12, .getfield 28, 3), (15, .iload_n 2, 1), (16, .iaload, 1), (17, .ifCond .ne 7, 3), (20, .iconst 0, 1), (21, .goto 4, 3), (24, .iconst 1, 1), (25, .iadd, 1), (26, .istore_n 1, 1), (27, .iinc 2 1, 3), (30, .goto (-26), 3), (33, .iload_n 1, 1), (34, .ireturn, 1)]
set_option maxRecDepth 100000 in
theorem dX8_used_p0_ok : (dtX8_used_p0.all fun e => decide (decode cX8_used e.1 = .ok e.2)) = true := by decide +kernel
theorem dX8_used_p0 (i : Nat) {pc : Nat} {q : Instr × Nat} (hi : dtX8_used_p0[i]? = some (pc, q)) : decode cX8_used pc = .ok q := dt_get dX8_used_p0_ok i hi
def dtX8_save_p0 : DT := [(0, .iload_n 1, 1), (1, .iconst 0, 1), (2, .iconst 1, 1), (3, .invokestatic 94, 3), (6, .ifCond .ne 6, 3), (9, .ldc 128, 2), (11, .ireturn, 1), (12, .iconst 0, 1), (13, .istore_n 2, 1), (14, .iload_n 2, 1), (15, .bipush 84, 2), (17, .if_icmp .ge 26, 3), (20, .aload_n 0, 1), (21, .getfield 31, 3), (24, .bipush 84, 2), (26, .iload_n 1, 1), (27, .imul, 1), (28, .iload_n 2, 1), (29, .iadd, 1), (30, .aload_n 0, 1), (31, .getfield 28, 3), (34, .iload_n 2, 1), (35, .iaload, 1), (36, .iastore, 1), (37, .iinc 2 1, 3), (40, .goto (-26), 3), (43, .aload_n 0, 1), (44, .getfield 34, 3), (47, .iload_n 1, 1), (48, .iconst 1, 1), (49, .bastore, 1), (50, .aload_n 0, 1), (51, .invokevirtual 275, 3), (54, .ireturn, 1)]
set_option maxRecDepth 100000 in
theorem dX8_save_p0_ok : (dtX8_save_p0.all fun e => decide (decode cX8_save e.1 = .ok e.2)) = true := by decide +kernel
theorem dX8_save_p0 (i : Nat) {pc : Nat} {q : Instr × Nat} (hi : dtX8_save_p0[i]? = some (pc, q)) : decode cX8_save pc = .ok q := dt_get dX8_save_p0_ok i hi
def dtX8_restore_p0 : DT := [(0, .iload_n 1, 1), (1, .iconst 0, 1), (2, .iconst 1, 1), (3, .invokestatic 94, 3), (6, .ifCond .ne 6, 3), (9, .ldc 128, 2), (11, .ireturn, 1), (12, .aload_n 0, 1), (13, .getfield 34, 3), (16, .iload_n 1, 1), (17, .baload, 1), (18, .ifCond .ne 6, 3), (21, .ldc 118, 2), (23, .ireturn, 1), (24, .iconst 0, 1), (25, .istore_n 2, 1), (26, .iload_n 2, 1), (27, .bipush 84, 2), (29, .if_icmp .ge 26, 3), (32, .aload_n 0, 1), (33, .getfield 28, 3), (36, .iload_n 2, 1), (37, .aload_n 0, 1), (38, .getfield 31, 3), (41, .bipush 84, 2), (43, .iload_n 1, 1), (44, .imul, 1), (45, .iload_n 2, 1), (46, .iadd, 1), (47, .iaload, 1), (48, .iastore, 1), (49, .iinc 2 1, 3), (52, .goto (-26), 3), (55, .aload_n 0, 1), (56, .invokevirtual 275, 3), (59, .ireturn, 1)]
set_option maxRecDepth 100000 in
theorem dX8_restore_p0_ok : (dtX8_restore_p0.all fun e => decide (decode cX8_restore e.1 = .ok e.2)) = true := by decide +kernel
theorem dX8_restore_p0 (i : Nat) {pc : Nat} {q : Instr × Nat} (hi : dtX8_restore_p0[i]? = some (pc, q)) : decode cX8_restore pc = .ok q := dt_get dX8_restore_p0_ok i hi
def dtX8_checksum_p0 : DT := [(0, .ldc2_w 278, 3), (3, .aload_n 0, 1), (4, .getfield 91, 3), (7, .i2l, 1), (8, .ladd, 1), (9, .lstore_n 1, 1), (10, .iconst 0, 1), (11, .istore_n 3, 1), (12, .iload_n 3, 1), (13, .aload_n 0, 1), (14, .getfield 91, 3), (17, .if_icmp .ge 204, 3), (20, .aload_n 0, 1), (21, .iload_n 3, 1), (22, .invokevirtual 226, 3), (25, .ldc2_w 280, 3), (28, .lload_n 1, 1), (29, .lmul, 1), (30, .aload_n 0, 1), (31, .getfield 13, 3), (34, .iload_n 3, 1), (35, .iaload, 1), (36, .i2l, 1), (37, .ladd, 1), (38, .lstore_n 1, 1), (39, .iconst 1, 1), (40, .istore 4, 2), (42, .iload 4, 2), (44, .aload_n 0, 1), (45, .getfield 13, 3), (48, .iload_n 3, 1), (49, .iaload, 1), (50, .if_icmp .gt 74, 3), (53, .ldc2_w 280, 3), (56, .lload_n 1, 1), (57, .lmul, 1), (58, .aload_n 0, 1), (59, .getfield 16, 3), (62, .iload_n 3, 1), (63, .iload 4, 2), (65, .invokestatic 124, 3), (68, .iaload, 1), (69, .i2l, 1), (70, .ladd, 1), (71, .lstore_n 1, 1), (72, .ldc2_w 280, 3), (75, .lload_n 1, 1), (76, .lmul, 1), (77, .aload_n 0, 1), (78, .getfield 19, 3), (81, .iload_n 3, 1), (82, .iload 4, 2), (84, .invokestatic 124, 3), (87, .iaload, 1), (88, .i2l, 1), (89, .ladd, 1), (90, .lstore_n 1, 1), (91, .ldc2_w 280, 3), (94, .lload_n 1, 1), (95, .lmul, 1), (96, .aload_n 0, 1), (97, .getfield 171, 3), (100, .ifCond .le 13, 3), (103, .aload_n 0, 1)]
set_option maxRecDepth 100000 in
theorem dX8_checksum_p0_ok : (dtX8_checksum_p0.all fun e => decide (decode cX8_checksum e.1 = .ok e.2)) = true := by decide +kernel
theorem dX8_checksum_p0 (i : Nat) {pc : Nat} {q : Instr × Nat} (hi : dtX8_checksum_p0[i]? = some (pc, q)) : decode cX8_checksum pc = .ok q := dt_get dX8_checksum_p0_ok i hi
def dtX8_checksum_p1 : DT := [(104, .getfield 63, 3), (107, .iload 4, 2), (109, .iaload, 1), (110, .goto 5, 3), (113, .ldc 118, 2), (115, .i2l, 1), (116, .ladd, 1), (117, .lstore_n 1, 1), (118, .iinc 4 1, 3), (121, .goto (-79), 3), (124, .ldc2_w 280, 3), (127, .lload_n 1, 1), (128, .lmul, 1), (129, .aload_n 0, 1), (130, .getfield 171, 3), (133, .ifCond .le 12, 3), (136, .aload_n 0, 1), (137, .getfield 60, 3), (140, .iconst 0, 1), (141, .iaload, 1), (142, .goto 5, 3), (145, .ldc 118, 2), (147, .i2l, 1), (148, .ladd, 1), (149, .lstore_n 1, 1), (150, .ldc2_w 280, 3), (153, .lload_n 1, 1), (154, .lmul, 1), (155, .aload_n 0, 1), (156, .getfield 174, 3), (159, .i2l, 1), (160, .ladd, 1), (161, .lstore_n 1, 1), (162, .ldc2_w 280, 3), (165, .lload_n 1, 1), (166, .lmul, 1), (167, .aload_n 0, 1), (168, .getfield 177, 3), (171, .ladd, 1), (172, .lstore_n 1, 1), (173, .ldc2_w 280, 3), (176, .lload_n 1, 1), (177, .lmul, 1), (178, .aload_n 0, 1), (179, .getfield 19, 3), (182, .bipush 7, 2), (184, .iload_n 3, 1), (185, .imul, 1), (186, .aload_n 0, 1), (187, .getfield 13, 3), (190, .iload_n 3, 1), (191, .iaload, 1), (192, .invokestatic 193, 3), (195, .i2l, 1), (196, .ladd, 1), (197, .lstore_n 1, 1), (198, .aload_n 0, 1), (199, .iload_n 3, 1), (200, .invokevirtual 267, 3), (203, .ldc2_w 280, 3), (206, .lload_n 1, 1), (207, .lmul, 1), (208, .aload_n 0, 1), (209, .getfield 261, 3)]
set_option maxRecDepth 100000 in
theorem dX8_checksum_p1_ok : (dtX8_checksum_p1.all fun e => decide (decode cX8_checksum e.1 = .ok e.2)) = true := by decide +kernel
theorem dX8_checksum_p1 (i : Nat) {pc : Nat} {q : Instr × Nat} (hi : dtX8_checksum_p1[i]? = some (pc, q)) : decode cX8_checksum pc = .ok q := dt_get dX8_checksum_p1_ok i hi
def dtX8_checksum_p2 : DT := [(212, .i2l, 1), (213, .ladd, 1), (214, .lstore_n 1, 1), (215, .iinc 3 1, 3), (218, .goto (-206), 3), (221, .iconst 0, 1), (222, .istore_n 3, 1), (223, .iload_n 3, 1), (224, .bipush 84, 2), (226, .if_icmp .ge 23, 3), (229, .ldc2_w 280, 3), (232, .lload_n 1, 1), (233, .lmul, 1), (234, .aload_n 0, 1), (235, .getfield 28, 3), (238, .iload_n 3, 1), (239, .iaload, 1), (240, .i2l, 1), (241, .ladd, 1), (242, .lstore_n 1, 1), (243, .iinc 3 1, 3), (246, .goto (-23), 3), (249, .lload_n 1, 1), (250, .lreturn, 1)]
set_option maxRecDepth 100000 in
theorem dX8_checksum_p2_ok : (dtX8_checksum_p2.all fun e => decide (decode cX8_checksum e.1 = .ok e.2)) = true := by decide +kernel
theorem dX8_checksum_p2 (i : Nat) {pc : Nat} {q : Instr × Nat} (hi : dtX8_checksum_p2[i]? = some (pc, q)) : decode cX8_checksum pc = .ok q := dt_get dX8_checksum_p2_ok i hi
def dtJ6_bitCount_0f7a4_p0 : DT := [(0, .iload_n 0, 1), (1, .iload_n 0, 1), (2, .iconst 1, 1), (3, .iushr, 1), (4, .ldc_w 265, 3), (7, .iand, 1), (8, .isub, 1), (9, .istore_n 0, 1), (10, .iload_n 0, 1), (11, .ldc_w 266, 3), (14, .iand, 1), (15, .iload_n 0, 1), (16, .iconst 2, 1), (17, .iushr, 1), (18, .ldc_w 266, 3), (21, .iand, 1), (22, .iadd, 1), (23, .istore_n 0, 1), (24, .iload_n 0, 1), (25, .iload_n 0, 1), (26, .iconst 4, 1), (27, .iushr, 1), (28, .iadd, 1), (29, .ldc_w 267, 3), (32, .iand, 1), (33, .istore_n 0, 1), (34, .iload_n 0, 1), (35, .iload_n 0, 1), (36, .bipush 8, 2), (38, .iushr, 1), (39, .iadd, 1), (40, .istore_n 0, 1), (41, .iload_n 0, 1), (42, .iload_n 0, 1), (43, .bipush 16, 2), (45, .iushr, 1), (46, .iadd, 1), (47, .istore_n 0, 1), (48, .iload_n 0, 1), (49, .bipush 63, 2), (51, .iand, 1), (52, .ireturn, 1)]
set_option maxRecDepth 100000 in
theorem dJ6_bitCount_0f7a4_p0_ok : (dtJ6_bitCount_0f7a4_p0.all fun e => decide (decode cJ6_bitCount_0f7a4 e.1 = .ok e.2)) = true := by decide +kernel
theorem dJ6_bitCount_0f7a4_p0 (i : Nat) {pc : Nat} {q : Instr × Nat} (hi : dtJ6_bitCount_0f7a4_p0[i]? = some (pc, q)) : decode cJ6_bitCount_0f7a4 pc = .ok q := dt_get dJ6_bitCount_0f7a4_p0_ok i hi
def dtJ9_floorDiv_f86c9_p0 : DT := [(0, .lload_n 0, 1), (1, .lload_n 2, 1), (2, .ldiv, 1), (3, .lstore 4, 2), (5, .lload_n 0, 1), (6, .lload_n 2, 1), (7, .lxor, 1), (8, .lconst 0, 1), (9, .lcmp, 1), (10, .ifCond .ge 17, 3), (13, .lload 4, 2), (15, .lload_n 2, 1), (16, .lmul, 1), (17, .lload_n 0, 1), (18, .lcmp, 1), (19, .ifCond .eq 8, 3), (22, .lload 4, 2), (24, .lconst 1, 1), (25, .lsub, 1), (26, .lreturn, 1), (27, .lload 4, 2), (29, .lreturn, 1)]
set_option maxRecDepth 100000 in
theorem dJ9_floorDiv_f86c9_p0_ok : (dtJ9_floorDiv_f86c9_p0.all fun e => decide (decode cJ9_floorDiv_f86c9 e.1 = .ok e.2)) = true := by decide +kernel
theorem dJ9_floorDiv_f86c9_p0 (i : Nat) {pc : Nat} {q : Instr × Nat} (hi : dtJ9_floorDiv_f86c9_p0[i]? = some (pc, q)) : decode cJ9_floorDiv_f86c9 pc = .ok q := dt_get dJ9_floorDiv_f86c9_p0_ok i hi
def dtJ9_floorMod_f86c9_p0 : DT := [(0, .lload_n 0, 1), (1, .lload_n 2, 1), (2, .lrem, 1), (3, .lstore 4, 2), (5, .lload_n 0, 1), (6, .lload_n 2, 1), (7, .lxor, 1), (8, .lconst 0, 1), (9, .lcmp, 1), (10, .ifCond .ge 15, 3), (13, .lload 4, 2), (15, .lconst 0, 1), (16, .lcmp, 1), (17, .ifCond .eq 8, 3), (20, .lload 4, 2), (22, .lload_n 2, 1), (23, .ladd, 1), (24, .lreturn, 1), (25, .lload 4, 2), (27, .lreturn, 1)]
set_option maxRecDepth 100000 in
theorem dJ9_floorMod_f86c9_p0_ok : (dtJ9_floorMod_f86c9_p0.all fun e => decide (decode cJ9_floorMod_f86c9 e.1 = .ok e.2)) = true := by decide +kernel
theorem dJ9_floorMod_f86c9_p0 (i : Nat) {pc : Nat} {q : Instr × Nat} (hi : dtJ9_floorMod_f86c9_p0[i]? = some (pc, q)) : decode cJ9_floorMod_f86c9 pc = .ok q := dt_get dJ9_floorMod_f86c9_p0_ok i hi
def dtJ9_abs_0f7a4_p0 : DT := [(0, .iload_n 0, 1), (1, .ifCond .ge 8, 3), (4, .iload_n 0, 1), (5, .ineg, 1), (6, .goto 4, 3), (9, .iload_n 0, 1), (10, .ireturn, 1)]
set_option maxRecDepth 100000 in
theorem dJ9_abs_0f7a4_p0_ok : (dtJ9_abs_0f7a4_p0.all fun e => decide (decode cJ9_abs_0f7a4 e.1 = .ok e.2)) = true := by decide +kernel
theorem dJ9_abs_0f7a4_p0 (i : Nat) {pc : Nat} {q : Instr × Nat} (hi : dtJ9_abs_0f7a4_p0[i]? = some (pc, q)) : decode cJ9_abs_0f7a4 pc = .ok q := dt_get dJ9_abs_0f7a4_p0_ok i hi
def dtJ9_max_7cf53_p0 : DT := [(0, .iload_n 0, 1), (1, .iload_n 1, 1), (2, .if_icmp .lt 7, 3), (5, .iload_n 0, 1), (6, .goto 4, 3), (9, .iload_n 1, 1), (10, .ireturn, 1)]
set_option maxRecDepth 100000 in
theorem dJ9_max_7cf53_p0_ok : (dtJ9_max_7cf53_p0.all fun e => decide (decode cJ9_max_7cf53 e.1 = .ok e.2)) = true := by decide +kernel
theorem dJ9_max_7cf53_p0 (i : Nat) {pc : Nat} {q : Instr × Nat} (hi : dtJ9_max_7cf53_p0[i]? = some (pc, q)) : decode cJ9_max_7cf53 pc = .ok q := dt_get dJ9_max_7cf53_p0_ok i hi
def dtJ9_min_7cf53_p0 : DT := [(0, .iload_n 0, 1), (1, .iload_n 1, 1), (2, .if_icmp .gt 7, 3), (5, .iload_n 0, 1), (6, .goto 4, 3), (9, .iload_n 1, 1), (10, .ireturn, 1)]
set_option maxRecDepth 100000 in
theorem dJ9_min_7cf53_p0_ok : (dtJ9_min_7cf53_p0.all fun e => decide (decode cJ9_min_7cf53 e.1 = .ok e.2)) = true := by decide +kernel
theorem dJ9_min_7cf53_p0 (i : Nat) {pc : Nat} {q : Instr × Nat} (hi : dtJ9_min_7cf53_p0[i]? = some (pc, q)) : decode cJ9_min_7cf53 pc = .ok q := dt_get dJ9_min_7cf53_p0_ok i hi
def dtL_law_p0 : DT := [(0, .new 7, 3), (3, .dup, 1), (4, .invokespecial 9, 3), (7, .astore_n 1, 1), (8, .new 10, 3), (11, .dup, 1), (12, .invokespecial 12, 3), (15, .astore_n 2, 1), (16, .iconst 0, 1), (17, .istore_n 3, 1), (18, .iload_n 3, 1), (19, .aload_n 0, 1), (20, .arraylength, 1), (21, .iconst 5, 1), (22, .isub, 1), (23, .if_icmp .gt 1476, 3), (26, .aload_n 0, 1), (27, .iload_n 3, 1), (28, .iaload, 1), (29, .bipush 63, 2), (31, .iand, 1), (32, .tableswitch 1461 0 41 #[184, 207, 220, 233, 246, 269, 282, 305, 338, 371, 414, 437, 480, 523, 576, 629, 668, 707, 730, 763, 796, 839, 862, 895, 928, 971, 1014, 1037, 1060, 1083, 1107, 1177, 1210, 1233, 1266, 1299, 1322, 1355, 1378, 1401, 1424, 1447], 184), (216, .aload_n 1, 1), (217, .aload_n 0, 1), (218, .iload_n 3, 1), (219, .iconst 1, 1), (220, .iadd, 1), (221, .iaload, 1), (222, .invokevirtual 13, 3), (225, .aload_n 2, 1), (226, .aload_n 0, 1), (227, .iload_n 3, 1), (228, .iconst 1, 1), (229, .iadd, 1), (230, .iaload, 1), (231, .invokevirtual 17, 3), (234, .if_icmp .eq 1259, 3), (237, .iconst 0, 1), (238, .ireturn, 1), (239, .aload_n 1, 1)]
set_option maxRecDepth 100000 in
theorem dL_law_p0_ok : (dtL_law_p0.all fun e => decide (decode cL_law e.1 = .ok e.2)) = true := by decide +kernel
theorem dL_law_p0 (i : Nat) {pc : Nat} {q : Instr × Nat} (hi : dtL_law_p0[i]? = some (pc, q)) : decode cL_law pc = .ok q := dt_get dL_law_p0_ok i hi
def dtL_law_p1 : DT := [(240, .invokevirtual 18, 3), (243, .aload_n 2, 1), (244, .invokevirtual 22, 3), (247, .if_icmp .eq 1246, 3), (250, .iconst 0, 1), (251, .ireturn, 1), (252, .aload_n 1, 1), (253, .invokevirtual 23, 3), (256, .aload_n 2, 1), (257, .invokevirtual 26, 3), (260, .if_icmp .eq 1233, 3), (263, .iconst 0, 1), (264, .ireturn, 1), (265, .aload_n 1, 1), (266, .invokevirtual 27, 3), (269, .aload_n 2, 1), (270, .invokevirtual 30, 3), (273, .if_icmp .eq 1220, 3), (276, .iconst 0, 1), (277, .ireturn, 1), (278, .aload_n 1, 1), (279, .aload_n 0, 1), (280, .iload_n 3, 1), (281, .iconst 1, 1), (282, .iadd, 1), (283, .iaload, 1), (284, .invokevirtual 31, 3), (287, .aload_n 2, 1), (288, .aload_n 0, 1), (289, .iload_n 3, 1), (290, .iconst 1, 1), (291, .iadd, 1), (292, .iaload, 1), (293, .invokevirtual 34, 3), (296, .if_icmp .eq 1197, 3), (299, .iconst 0, 1), (300, .ireturn, 1), (301, .aload_n 1, 1), (302, .invokevirtual 35, 3), (305, .aload_n 2, 1)]
set_option maxRecDepth 100000 in
theorem dL_law_p1_ok : (dtL_law_p1.all fun e => decide (decode cL_law e.1 = .ok e.2)) = true := by decide +kernel
theorem dL_law_p1 (i : Nat) {pc : Nat} {q : Instr × Nat} (hi : dtL_law_p1[i]? = some (pc, q)) : decode cL_law pc = .ok q := dt_get dL_law_p1_ok i hi
def dtL_law_p2 : DT := [(306, .invokevirtual 38, 3), (309, .if_icmp .eq 1184, 3), (312, .iconst 0, 1), (313, .ireturn, 1), (314, .aload_n 1, 1), (315, .aload_n 0, 1), (316, .iload_n 3, 1), (317, .iconst 1, 1), (318, .iadd, 1), (319, .iaload, 1), (320, .invokevirtual 39, 3), (323, .aload_n 2, 1), (324, .aload_n 0, 1), (325, .iload_n 3, 1), (326, .iconst 1, 1), (327, .iadd, 1), (328, .iaload, 1), (329, .invokevirtual 42, 3), (332, .if_icmp .eq 1161, 3), (335, .iconst 0, 1), (336, .ireturn, 1), (337, .aload_n 1, 1), (338, .aload_n 0, 1), (339, .iload_n 3, 1), (340, .iconst 1, 1), (341, .iadd, 1), (342, .iaload, 1), (343, .aload_n 0, 1), (344, .iload_n 3, 1), (345, .iconst 2, 1), (346, .iadd, 1), (347, .iaload, 1), (348, .invokevirtual 43, 3), (351, .aload_n 2, 1), (352, .aload_n 0, 1), (353, .iload_n 3, 1), (354, .iconst 1, 1), (355, .iadd, 1), (356, .iaload, 1), (357, .aload_n 0, 1)]
set_option maxRecDepth 100000 in
theorem dL_law_p2_ok : (dtL_law_p2.all fun e => decide (decode cL_law e.1 = .ok e.2)) = true := by decide +kernel
theorem dL_law_p2 (i : Nat) {pc : Nat} {q : Instr × Nat} (hi : dtL_law_p2[i]? = some (pc, q)) : decode cL_law pc = .ok q := dt_get dL_law_p2_ok i hi
def dtL_law_p3 : DT := [(358, .iload_n 3, 1), (359, .iconst 2, 1), (360, .iadd, 1), (361, .iaload, 1), (362, .invokevirtual 47, 3), (365, .if_icmp .eq 1128, 3), (368, .iconst 0, 1), (369, .ireturn, 1), (370, .aload_n 1, 1), (371, .aload_n 0, 1), (372, .iload_n 3, 1), (373, .iconst 1, 1), (374, .iadd, 1), (375, .iaload, 1), (376, .aload_n 0, 1), (377, .iload_n 3, 1), (378, .iconst 2, 1), (379, .iadd, 1), (380, .iaload, 1), (381, .invokevirtual 48, 3), (384, .aload_n 2, 1), (385, .aload_n 0, 1), (386, .iload_n 3, 1), (387, .iconst 1, 1), (388, .iadd, 1), (389, .iaload, 1), (390, .aload_n 0, 1), (391, .iload_n 3, 1), (392, .iconst 2, 1), (393, .iadd, 1), (394, .iaload, 1), (395, .invokevirtual 51, 3), (398, .if_icmp .eq 1095, 3), (401, .iconst 0, 1), (402, .ireturn, 1), (403, .aload_n 1, 1), (404, .aload_n 0, 1), (405, .iload_n 3, 1), (406, .iconst 1, 1), (407, .iadd, 1)]
set_option maxRecDepth 100000 in
theorem dL_law_p3_ok : (dtL_law_p3.all fun e => decide (decode cL_law e.1 = .ok e.2)) = true := by decide +kernel
theorem dL_law_p3 (i : Nat) {pc : Nat} {q : Instr × Nat} (hi : dtL_law_p3[i]? = some (pc, q)) : decode cL_law pc = .ok q := dt_get dL_law_p3_ok i hi
def dtL_law_p4 : DT := [(408, .iaload, 1), (409, .aload_n 0, 1), (410, .iload_n 3, 1), (411, .iconst 2, 1), (412, .iadd, 1), (413, .iaload, 1), (414, .aload_n 0, 1), (415, .iload_n 3, 1), (416, .iconst 3, 1), (417, .iadd, 1), (418, .iaload, 1), (419, .invokevirtual 52, 3), (422, .aload_n 2, 1), (423, .aload_n 0, 1), (424, .iload_n 3, 1), (425, .iconst 1, 1), (426, .iadd, 1), (427, .iaload, 1), (428, .aload_n 0, 1), (429, .iload_n 3, 1), (430, .iconst 2, 1), (431, .iadd, 1), (432, .iaload, 1), (433, .aload_n 0, 1), (434, .iload_n 3, 1), (435, .iconst 3, 1), (436, .iadd, 1), (437, .iaload, 1), (438, .invokevirtual 56, 3), (441, .if_icmp .eq 1052, 3), (444, .iconst 0, 1), (445, .ireturn, 1), (446, .aload_n 1, 1), (447, .aload_n 0, 1), (448, .iload_n 3, 1), (449, .iconst 1, 1), (450, .iadd, 1), (451, .iaload, 1), (452, .invokevirtual 57, 3), (455, .aload_n 2, 1)]
set_option maxRecDepth 100000 in
theorem dL_law_p4_ok : (dtL_law_p4.all fun e => decide (decode cL_law e.1 = .ok e.2)) = true := by decide +kernel
theorem dL_law_p4 (i : Nat) {pc : Nat} {q : Instr × Nat} (hi : dtL_law_p4[i]? = some (pc, q)) : decode cL_law pc = .ok q := dt_get dL_law_p4_ok i hi
def dtL_law_p5 : DT := [(456, .aload_n 0, 1), (457, .iload_n 3, 1), (458, .iconst 1, 1), (459, .iadd, 1), (460, .iaload, 1), (461, .invokevirtual 60, 3), (464, .if_icmp .eq 1029, 3), (467, .iconst 0, 1), (468, .ireturn, 1), (469, .aload_n 1, 1), (470, .aload_n 0, 1), (471, .iload_n 3, 1), (472, .iconst 1, 1), (473, .iadd, 1), (474, .iaload, 1), (475, .aload_n 0, 1), (476, .iload_n 3, 1), (477, .iconst 2, 1), (478, .iadd, 1), (479, .iaload, 1), (480, .aload_n 0, 1), (481, .iload_n 3, 1), (482, .iconst 3, 1), (483, .iadd, 1), (484, .iaload, 1), (485, .invokevirtual 61, 3), (488, .aload_n 2, 1), (489, .aload_n 0, 1), (490, .iload_n 3, 1), (491, .iconst 1, 1), (492, .iadd, 1), (493, .iaload, 1), (494, .aload_n 0, 1), (495, .iload_n 3, 1), (496, .iconst 2, 1), (497, .iadd, 1), (498, .iaload, 1), (499, .aload_n 0, 1), (500, .iload_n 3, 1), (501, .iconst 3, 1)]
set_option maxRecDepth 100000 in
theorem dL_law_p5_ok : (dtL_law_p5.all fun e => decide (decode cL_law e.1 = .ok e.2)) = true := by decide +kernel
theorem dL_law_p5 (i : Nat) {pc : Nat} {q : Instr × Nat} (hi : dtL_law_p5[i]? = some (pc, q)) : decode cL_law pc = .ok q := dt_get dL_law_p5_ok i hi
def dtL_law_p6 : DT := [(502, .iadd, 1), (503, .iaload, 1), (504, .invokevirtual 64, 3), (507, .if_icmp .eq 986, 3), (510, .iconst 0, 1), (511, .ireturn, 1), (512, .aload_n 1, 1), (513, .aload_n 0, 1), (514, .iload_n 3, 1), (515, .iconst 1, 1), (516, .iadd, 1), (517, .iaload, 1), (518, .aload_n 0, 1), (519, .iload_n 3, 1), (520, .iconst 2, 1), (521, .iadd, 1), (522, .iaload, 1), (523, .aload_n 0, 1), (524, .iload_n 3, 1), (525, .iconst 3, 1), (526, .iadd, 1), (527, .iaload, 1), (528, .invokevirtual 65, 3), (531, .aload_n 2, 1), (532, .aload_n 0, 1), (533, .iload_n 3, 1), (534, .iconst 1, 1), (535, .iadd, 1), (536, .iaload, 1), (537, .aload_n 0, 1), (538, .iload_n 3, 1), (539, .iconst 2, 1), (540, .iadd, 1), (541, .iaload, 1), (542, .aload_n 0, 1), (543, .iload_n 3, 1), (544, .iconst 3, 1), (545, .iadd, 1), (546, .iaload, 1), (547, .invokevirtual 68, 3)]
set_option maxRecDepth 100000 in
theorem dL_law_p6_ok : (dtL_law_p6.all fun e => decide (decode cL_law e.1 = .ok e.2)) = true := by decide +kernel
theorem dL_law_p6 (i : Nat) {pc : Nat} {q : Instr × Nat} (hi : dtL_law_p6[i]? = some (pc, q)) : decode cL_law pc = .ok q := dt_get dL_law_p6_ok i hi
def dtL_law_p7 : DT := [(550, .if_icmp .eq 943, 3), (553, .iconst 0, 1), (554, .ireturn, 1), (555, .aload_n 1, 1), (556, .aload_n 0, 1), (557, .iload_n 3, 1), (558, .iconst 1, 1), (559, .iadd, 1), (560, .iaload, 1), (561, .aload_n 0, 1), (562, .iload_n 3, 1), (563, .iconst 2, 1), (564, .iadd, 1), (565, .iaload, 1), (566, .aload_n 0, 1), (567, .iload_n 3, 1), (568, .iconst 3, 1), (569, .iadd, 1), (570, .iaload, 1), (571, .aload_n 0, 1), (572, .iload_n 3, 1), (573, .iconst 4, 1), (574, .iadd, 1), (575, .iaload, 1), (576, .invokevirtual 69, 3), (579, .aload_n 2, 1), (580, .aload_n 0, 1), (581, .iload_n 3, 1), (582, .iconst 1, 1), (583, .iadd, 1), (584, .iaload, 1), (585, .aload_n 0, 1), (586, .iload_n 3, 1), (587, .iconst 2, 1), (588, .iadd, 1), (589, .iaload, 1), (590, .aload_n 0, 1), (591, .iload_n 3, 1), (592, .iconst 3, 1), (593, .iadd, 1)]
set_option maxRecDepth 100000 in
theorem dL_law_p7_ok : (dtL_law_p7.all fun e => decide (decode cL_law e.1 = .ok e.2)) = true := by decide +kernel
theorem dL_law_p7 (i : Nat) {pc : Nat} {q : Instr × Nat} (hi : dtL_law_p7[i]? = some (pc, q)) : decode cL_law pc = .ok q := dt_get dL_law_p7_ok i hi
def dtL_law_p8 : DT := [(594, .iaload, 1), (595, .aload_n 0, 1), (596, .iload_n 3, 1), (597, .iconst 4, 1), (598, .iadd, 1), (599, .iaload, 1), (600, .invokevirtual 73, 3), (603, .if_icmp .eq 890, 3), (606, .iconst 0, 1), (607, .ireturn, 1), (608, .aload_n 1, 1), (609, .aload_n 0, 1), (610, .iload_n 3, 1), (611, .iconst 1, 1), (612, .iadd, 1), (613, .iaload, 1), (614, .aload_n 0, 1), (615, .iload_n 3, 1), (616, .iconst 2, 1), (617, .iadd, 1), (618, .iaload, 1), (619, .aload_n 0, 1), (620, .iload_n 3, 1), (621, .iconst 3, 1), (622, .iadd, 1), (623, .iaload, 1), (624, .aload_n 0, 1), (625, .iload_n 3, 1), (626, .iconst 4, 1), (627, .iadd, 1), (628, .iaload, 1), (629, .invokevirtual 74, 3), (632, .aload_n 2, 1), (633, .aload_n 0, 1), (634, .iload_n 3, 1), (635, .iconst 1, 1), (636, .iadd, 1), (637, .iaload, 1), (638, .aload_n 0, 1), (639, .iload_n 3, 1)]
set_option maxRecDepth 100000 in
theorem dL_law_p8_ok : (dtL_law_p8.all fun e => decide (decode cL_law e.1 = .ok e.2)) = true := by decide +kernel
theorem dL_law_p8 (i : Nat) {pc : Nat} {q : Instr × Nat} (hi : dtL_law_p8[i]? = some (pc, q)) : decode cL_law pc = .ok q := dt_get dL_law_p8_ok i hi
def dtL_law_p9 : DT := [(640, .iconst 2, 1), (641, .iadd, 1), (642, .iaload, 1), (643, .aload_n 0, 1), (644, .iload_n 3, 1), (645, .iconst 3, 1), (646, .iadd, 1), (647, .iaload, 1), (648, .aload_n 0, 1), (649, .iload_n 3, 1), (650, .iconst 4, 1), (651, .iadd, 1), (652, .iaload, 1), (653, .invokevirtual 77, 3), (656, .if_icmp .eq 837, 3), (659, .iconst 0, 1), (660, .ireturn, 1), (661, .aload_n 1, 1), (662, .aload_n 0, 1), (663, .iload_n 3, 1), (664, .iconst 1, 1), (665, .iadd, 1), (666, .iaload, 1), (667, .ifCond .eq 7, 3), (670, .iconst 1, 1), (671, .goto 4, 3), (674, .iconst 0, 1), (675, .invokevirtual 78, 3), (678, .aload_n 2, 1), (679, .aload_n 0, 1), (680, .iload_n 3, 1), (681, .iconst 1, 1), (682, .iadd, 1), (683, .iaload, 1), (684, .ifCond .eq 7, 3), (687, .iconst 1, 1), (688, .goto 4, 3), (691, .iconst 0, 1), (692, .invokevirtual 82, 3), (695, .if_icmp .eq 798, 3)]
set_option maxRecDepth 100000 in
theorem dL_law_p9_ok : (dtL_law_p9.all fun e => decide (decode cL_law e.1 = .ok e.2)) = true := by decide +kernel
theorem dL_law_p9 (i : Nat) {pc : Nat} {q : Instr × Nat} (hi : dtL_law_p9[i]? = some (pc, q)) : decode cL_law pc = .ok q := dt_get dL_law_p9_ok i hi
def dtL_law_p10 : DT := [(698, .iconst 0, 1), (699, .ireturn, 1), (700, .aload_n 1, 1), (701, .aload_n 0, 1), (702, .iload_n 3, 1), (703, .iconst 1, 1), (704, .iadd, 1), (705, .iaload, 1), (706, .ifCond .eq 7, 3), (709, .iconst 1, 1), (710, .goto 4, 3), (713, .iconst 0, 1), (714, .invokevirtual 83, 3), (717, .aload_n 2, 1), (718, .aload_n 0, 1), (719, .iload_n 3, 1), (720, .iconst 1, 1), (721, .iadd, 1), (722, .iaload, 1), (723, .ifCond .eq 7, 3), (726, .iconst 1, 1), (727, .goto 4, 3), (730, .iconst 0, 1), (731, .invokevirtual 86, 3), (734, .if_icmp .eq 759, 3), (737, .iconst 0, 1), (738, .ireturn, 1), (739, .aload_n 1, 1), (740, .aload_n 0, 1), (741, .iload_n 3, 1), (742, .iconst 1, 1), (743, .iadd, 1), (744, .iaload, 1), (745, .invokevirtual 87, 3), (748, .aload_n 2, 1), (749, .aload_n 0, 1), (750, .iload_n 3, 1), (751, .iconst 1, 1), (752, .iadd, 1), (753, .iaload, 1)]
set_option maxRecDepth 100000 in
theorem dL_law_p10_ok : (dtL_law_p10.all fun e => decide (decode cL_law e.1 = .ok e.2)) = true := by decide +kernel
theorem dL_law_p10 (i : Nat) {pc : Nat} {q : Instr × Nat} (hi : dtL_law_p10[i]? = some (pc, q)) : decode cL_law pc = .ok q := dt_get dL_law_p10_ok i hi
def dtL_law_p11 : DT := [(754, .invokevirtual 90, 3), (757, .if_icmp .eq 736, 3), (760, .iconst 0, 1), (761, .ireturn, 1), (762, .aload_n 1, 1), (763, .aload_n 0, 1), (764, .iload_n 3, 1), (765, .iconst 1, 1), (766, .iadd, 1), (767, .iaload, 1), (768, .aload_n 0, 1), (769, .iload_n 3, 1), (770, .iconst 2, 1), (771, .iadd, 1), (772, .iaload, 1), (773, .invokevirtual 91, 3), (776, .aload_n 2, 1), (777, .aload_n 0, 1), (778, .iload_n 3, 1), (779, .iconst 1, 1), (780, .iadd, 1), (781, .iaload, 1), (782, .aload_n 0, 1), (783, .iload_n 3, 1), (784, .iconst 2, 1), (785, .iadd, 1), (786, .iaload, 1), (787, .invokevirtual 94, 3), (790, .if_icmp .eq 703, 3), (793, .iconst 0, 1), (794, .ireturn, 1), (795, .aload_n 1, 1), (796, .aload_n 0, 1), (797, .iload_n 3, 1), (798, .iconst 1, 1), (799, .iadd, 1), (800, .iaload, 1), (801, .aload_n 0, 1), (802, .iload_n 3, 1), (803, .iconst 2, 1)]
set_option maxRecDepth 100000 in
theorem dL_law_p11_ok : (dtL_law_p11.all fun e => decide (decode cL_law e.1 = .ok e.2)) = true := by decide +kernel
theorem dL_law_p11 (i : Nat) {pc : Nat} {q : Instr × Nat} (hi : dtL_law_p11[i]? = some (pc, q)) : decode cL_law pc = .ok q := dt_get dL_law_p11_ok i hi
def dtL_law_p12 : DT := [(804, .iadd, 1), (805, .iaload, 1), (806, .invokevirtual 95, 3), (809, .aload_n 2, 1), (810, .aload_n 0, 1), (811, .iload_n 3, 1), (812, .iconst 1, 1), (813, .iadd, 1), (814, .iaload, 1), (815, .aload_n 0, 1), (816, .iload_n 3, 1), (817, .iconst 2, 1), (818, .iadd, 1), (819, .iaload, 1), (820, .invokevirtual 98, 3), (823, .if_icmp .eq 670, 3), (826, .iconst 0, 1), (827, .ireturn, 1), (828, .aload_n 1, 1), (829, .aload_n 0, 1), (830, .iload_n 3, 1), (831, .iconst 1, 1), (832, .iadd, 1), (833, .iaload, 1), (834, .aload_n 0, 1), (835, .iload_n 3, 1), (836, .iconst 2, 1), (837, .iadd, 1), (838, .iaload, 1), (839, .aload_n 0, 1), (840, .iload_n 3, 1), (841, .iconst 3, 1), (842, .iadd, 1), (843, .iaload, 1), (844, .invokevirtual 99, 3), (847, .aload_n 2, 1), (848, .aload_n 0, 1), (849, .iload_n 3, 1), (850, .iconst 1, 1), (851, .iadd, 1)]
set_option maxRecDepth 100000 in
theorem dL_law_p12_ok : (dtL_law_p12.all fun e => decide (decode cL_law e.1 = .ok e.2)) = true := by decide +kernel
theorem dL_law_p12 (i : Nat) {pc : Nat} {q : Instr × Nat} (hi : dtL_law_p12[i]? = some (pc, q)) : decode cL_law pc = .ok q := dt_get dL_law_p12_ok i hi
def dtL_law_p13 : DT := [(852, .iaload, 1), (853, .aload_n 0, 1), (854, .iload_n 3, 1), (855, .iconst 2, 1), (856, .iadd, 1), (857, .iaload, 1), (858, .aload_n 0, 1), (859, .iload_n 3, 1), (860, .iconst 3, 1), (861, .iadd, 1), (862, .iaload, 1), (863, .invokevirtual 102, 3), (866, .if_icmp .eq 627, 3), (869, .iconst 0, 1), (870, .ireturn, 1), (871, .aload_n 1, 1), (872, .aload_n 0, 1), (873, .iload_n 3, 1), (874, .iconst 1, 1), (875, .iadd, 1), (876, .iaload, 1), (877, .invokevirtual 103, 3), (880, .aload_n 2, 1), (881, .aload_n 0, 1), (882, .iload_n 3, 1), (883, .iconst 1, 1), (884, .iadd, 1), (885, .iaload, 1), (886, .invokevirtual 106, 3), (889, .if_icmp .eq 604, 3), (892, .iconst 0, 1), (893, .ireturn, 1), (894, .aload_n 1, 1), (895, .aload_n 0, 1), (896, .iload_n 3, 1), (897, .iconst 1, 1), (898, .iadd, 1), (899, .iaload, 1), (900, .aload_n 0, 1), (901, .iload_n 3, 1)]
set_option maxRecDepth 100000 in
theorem dL_law_p13_ok : (dtL_law_p13.all fun e => decide (decode cL_law e.1 = .ok e.2)) = true := by decide +kernel
theorem dL_law_p13 (i : Nat) {pc : Nat} {q : Instr × Nat} (hi : dtL_law_p13[i]? = some (pc, q)) : decode cL_law pc = .ok q := dt_get dL_law_p13_ok i hi
def dtL_law_p14 : DT := [(902, .iconst 2, 1), (903, .iadd, 1), (904, .iaload, 1), (905, .invokevirtual 107, 3), (908, .aload_n 2, 1), (909, .aload_n 0, 1), (910, .iload_n 3, 1), (911, .iconst 1, 1), (912, .iadd, 1), (913, .iaload, 1), (914, .aload_n 0, 1), (915, .iload_n 3, 1), (916, .iconst 2, 1), (917, .iadd, 1), (918, .iaload, 1), (919, .invokevirtual 110, 3), (922, .if_icmp .eq 571, 3), (925, .iconst 0, 1), (926, .ireturn, 1), (927, .aload_n 1, 1), (928, .aload_n 0, 1), (929, .iload_n 3, 1), (930, .iconst 1, 1), (931, .iadd, 1), (932, .iaload, 1), (933, .aload_n 0, 1), (934, .iload_n 3, 1), (935, .iconst 2, 1), (936, .iadd, 1), (937, .iaload, 1), (938, .invokevirtual 111, 3), (941, .aload_n 2, 1), (942, .aload_n 0, 1), (943, .iload_n 3, 1), (944, .iconst 1, 1), (945, .iadd, 1), (946, .iaload, 1), (947, .aload_n 0, 1), (948, .iload_n 3, 1), (949, .iconst 2, 1)]
set_option maxRecDepth 100000 in
theorem dL_law_p14_ok : (dtL_law_p14.all fun e => decide (decode cL_law e.1 = .ok e.2)) = true := by decide +kernel
theorem dL_law_p14 (i : Nat) {pc : Nat} {q : Instr × Nat} (hi : dtL_law_p14[i]? = some (pc, q)) : decode cL_law pc = .ok q := dt_get dL_law_p14_ok i hi
def dtL_law_p15 : DT := [(950, .iadd, 1), (951, .iaload, 1), (952, .invokevirtual 114, 3), (955, .if_icmp .eq 538, 3), (958, .iconst 0, 1), (959, .ireturn, 1), (960, .aload_n 1, 1), (961, .aload_n 0, 1), (962, .iload_n 3, 1), (963, .iconst 1, 1), (964, .iadd, 1), (965, .iaload, 1), (966, .aload_n 0, 1), (967, .iload_n 3, 1), (968, .iconst 2, 1), (969, .iadd, 1), (970, .iaload, 1), (971, .aload_n 0, 1), (972, .iload_n 3, 1), (973, .iconst 3, 1), (974, .iadd, 1), (975, .iaload, 1), (976, .invokevirtual 115, 3), (979, .aload_n 2, 1), (980, .aload_n 0, 1), (981, .iload_n 3, 1), (982, .iconst 1, 1), (983, .iadd, 1), (984, .iaload, 1), (985, .aload_n 0, 1), (986, .iload_n 3, 1), (987, .iconst 2, 1), (988, .iadd, 1), (989, .iaload, 1), (990, .aload_n 0, 1), (991, .iload_n 3, 1), (992, .iconst 3, 1), (993, .iadd, 1), (994, .iaload, 1), (995, .invokevirtual 118, 3)]
set_option maxRecDepth 100000 in
theorem dL_law_p15_ok : (dtL_law_p15.all fun e => decide (decode cL_law e.1 = .ok e.2)) = true := by decide +kernel
theorem dL_law_p15 (i : Nat) {pc : Nat} {q : Instr × Nat} (hi : dtL_law_p15[i]? = some (pc, q)) : decode cL_law pc = .ok q := dt_get dL_law_p15_ok i hi
def dtL_law_p16 : DT := [(998, .if_icmp .eq 495, 3), (1001, .iconst 0, 1), (1002, .ireturn, 1), (1003, .aload_n 1, 1), (1004, .aload_n 0, 1), (1005, .iload_n 3, 1), (1006, .iconst 1, 1), (1007, .iadd, 1), (1008, .iaload, 1), (1009, .aload_n 0, 1), (1010, .iload_n 3, 1), (1011, .iconst 2, 1), (1012, .iadd, 1), (1013, .iaload, 1), (1014, .aload_n 0, 1), (1015, .iload_n 3, 1), (1016, .iconst 3, 1), (1017, .iadd, 1), (1018, .iaload, 1), (1019, .invokevirtual 119, 3), (1022, .aload_n 2, 1), (1023, .aload_n 0, 1), (1024, .iload_n 3, 1), (1025, .iconst 1, 1), (1026, .iadd, 1), (1027, .iaload, 1), (1028, .aload_n 0, 1), (1029, .iload_n 3, 1), (1030, .iconst 2, 1), (1031, .iadd, 1), (1032, .iaload, 1), (1033, .aload_n 0, 1), (1034, .iload_n 3, 1), (1035, .iconst 3, 1), (1036, .iadd, 1), (1037, .iaload, 1), (1038, .invokevirtual 122, 3), (1041, .if_icmp .eq 452, 3), (1044, .iconst 0, 1), (1045, .ireturn, 1)]
set_option maxRecDepth 100000 in
theorem dL_law_p16_ok : (dtL_law_p16.all fun e => decide (decode cL_law e.1 = .ok e.2)) = true := by decide +kernel
theorem dL_law_p16 (i : Nat) {pc : Nat} {q : Instr × Nat} (hi : dtL_law_p16[i]? = some (pc, q)) : decode cL_law pc = .ok q := dt_get dL_law_p16_ok i hi
def dtL_law_p17 : DT := [(1046, .aload_n 1, 1), (1047, .aload_n 0, 1), (1048, .iload_n 3, 1), (1049, .iconst 1, 1), (1050, .iadd, 1), (1051, .iaload, 1), (1052, .invokevirtual 123, 3), (1055, .aload_n 2, 1), (1056, .aload_n 0, 1), (1057, .iload_n 3, 1), (1058, .iconst 1, 1), (1059, .iadd, 1), (1060, .iaload, 1), (1061, .invokevirtual 126, 3), (1064, .if_icmp .eq 429, 3), (1067, .iconst 0, 1), (1068, .ireturn, 1), (1069, .aload_n 1, 1), (1070, .aload_n 0, 1), (1071, .iload_n 3, 1), (1072, .iconst 1, 1), (1073, .iadd, 1), (1074, .iaload, 1), (1075, .invokevirtual 127, 3), (1078, .aload_n 2, 1), (1079, .aload_n 0, 1), (1080, .iload_n 3, 1), (1081, .iconst 1, 1), (1082, .iadd, 1), (1083, .iaload, 1), (1084, .invokevirtual 130, 3), (1087, .if_icmp .eq 406, 3), (1090, .iconst 0, 1), (1091, .ireturn, 1), (1092, .aload_n 1, 1), (1093, .aload_n 0, 1), (1094, .iload_n 3, 1), (1095, .iconst 1, 1), (1096, .iadd, 1), (1097, .iaload, 1)]
set_option maxRecDepth 100000 in
theorem dL_law_p17_ok : (dtL_law_p17.all fun e => decide (decode cL_law e.1 = .ok e.2)) = true := by decide +kernel
theorem dL_law_p17 (i : Nat) {pc : Nat} {q : Instr × Nat} (hi : dtL_law_p17[i]? = some (pc, q)) : decode cL_law pc = .ok q := dt_get dL_law_p17_ok i hi
def dtL_law_p18 : DT := [(1098, .invokevirtual 131, 3), (1101, .aload_n 2, 1), (1102, .aload_n 0, 1), (1103, .iload_n 3, 1), (1104, .iconst 1, 1), (1105, .iadd, 1), (1106, .iaload, 1), (1107, .invokevirtual 134, 3), (1110, .if_icmp .eq 383, 3), (1113, .iconst 0, 1), (1114, .ireturn, 1), (1115, .aload_n 1, 1), (1116, .aload_n 0, 1), (1117, .iload_n 3, 1), (1118, .iconst 1, 1), (1119, .iadd, 1), (1120, .iaload, 1), (1121, .invokevirtual 135, 3), (1124, .aload_n 2, 1), (1125, .aload_n 0, 1), (1126, .iload_n 3, 1), (1127, .iconst 1, 1), (1128, .iadd, 1), (1129, .iaload, 1), (1130, .invokevirtual 139, 3), (1133, .lcmp, 1), (1134, .ifCond .eq 359, 3), (1137, .iconst 0, 1), (1138, .ireturn, 1), (1139, .aload_n 1, 1), (1140, .aload_n 0, 1), (1141, .iload_n 3, 1), (1142, .iconst 1, 1), (1143, .iadd, 1), (1144, .iaload, 1), (1145, .aload_n 0, 1), (1146, .iload_n 3, 1), (1147, .iconst 2, 1), (1148, .iadd, 1), (1149, .iaload, 1)]
set_option maxRecDepth 100000 in
theorem dL_law_p18_ok : (dtL_law_p18.all fun e => decide (decode cL_law e.1 = .ok e.2)) = true := by decide +kernel
theorem dL_law_p18 (i : Nat) {pc : Nat} {q : Instr × Nat} (hi : dtL_law_p18[i]? = some (pc, q)) : decode cL_law pc = .ok q := dt_get dL_law_p18_ok i hi
def dtL_law_p19 : DT := [(1150, .aload_n 0, 1), (1151, .iload_n 3, 1), (1152, .iconst 3, 1), (1153, .iadd, 1), (1154, .iaload, 1), (1155, .aload_n 0, 1), (1156, .iload_n 3, 1), (1157, .iconst 4, 1), (1158, .iadd, 1), (1159, .iaload, 1), (1160, .ifCond .eq 7, 3), (1163, .iconst 1, 1), (1164, .goto 4, 3), (1167, .iconst 0, 1), (1168, .invokevirtual 140, 3), (1171, .aload_n 2, 1), (1172, .aload_n 0, 1), (1173, .iload_n 3, 1), (1174, .iconst 1, 1), (1175, .iadd, 1), (1176, .iaload, 1), (1177, .aload_n 0, 1), (1178, .iload_n 3, 1), (1179, .iconst 2, 1), (1180, .iadd, 1), (1181, .iaload, 1), (1182, .aload_n 0, 1), (1183, .iload_n 3, 1), (1184, .iconst 3, 1), (1185, .iadd, 1), (1186, .iaload, 1), (1187, .aload_n 0, 1), (1188, .iload_n 3, 1), (1189, .iconst 4, 1), (1190, .iadd, 1), (1191, .iaload, 1), (1192, .ifCond .eq 7, 3), (1195, .iconst 1, 1), (1196, .goto 4, 3), (1199, .iconst 0, 1)]
set_option maxRecDepth 100000 in
theorem dL_law_p19_ok : (dtL_law_p19.all fun e => decide (decode cL_law e.1 = .ok e.2)) = true := by decide +kernel
theorem dL_law_p19 (i : Nat) {pc : Nat} {q : Instr × Nat} (hi : dtL_law_p19[i]? = some (pc, q)) : decode cL_law pc = .ok q := dt_get dL_law_p19_ok i hi
def dtL_law_p20 : DT := [(1200, .invokevirtual 144, 3), (1203, .lcmp, 1), (1204, .ifCond .eq 289, 3), (1207, .iconst 0, 1), (1208, .ireturn, 1), (1209, .aload_n 1, 1), (1210, .aload_n 0, 1), (1211, .iload_n 3, 1), (1212, .iconst 1, 1), (1213, .iadd, 1), (1214, .iaload, 1), (1215, .aload_n 0, 1), (1216, .iload_n 3, 1), (1217, .iconst 2, 1), (1218, .iadd, 1), (1219, .iaload, 1), (1220, .invokevirtual 145, 3), (1223, .aload_n 2, 1), (1224, .aload_n 0, 1), (1225, .iload_n 3, 1), (1226, .iconst 1, 1), (1227, .iadd, 1), (1228, .iaload, 1), (1229, .aload_n 0, 1), (1230, .iload_n 3, 1), (1231, .iconst 2, 1), (1232, .iadd, 1), (1233, .iaload, 1), (1234, .invokevirtual 148, 3), (1237, .if_icmp .eq 256, 3), (1240, .iconst 0, 1), (1241, .ireturn, 1), (1242, .aload_n 1, 1), (1243, .aload_n 0, 1), (1244, .iload_n 3, 1), (1245, .iconst 1, 1), (1246, .iadd, 1), (1247, .iaload, 1), (1248, .invokevirtual 149, 3), (1251, .aload_n 2, 1)]
set_option maxRecDepth 100000 in
theorem dL_law_p20_ok : (dtL_law_p20.all fun e => decide (decode cL_law e.1 = .ok e.2)) = true := by decide +kernel
theorem dL_law_p20 (i : Nat) {pc : Nat} {q : Instr × Nat} (hi : dtL_law_p20[i]? = some (pc, q)) : decode cL_law pc = .ok q := dt_get dL_law_p20_ok i hi
def dtL_law_p21 : DT := [(1252, .aload_n 0, 1), (1253, .iload_n 3, 1), (1254, .iconst 1, 1), (1255, .iadd, 1), (1256, .iaload, 1), (1257, .invokevirtual 152, 3), (1260, .if_icmp .eq 233, 3), (1263, .iconst 0, 1), (1264, .ireturn, 1), (1265, .aload_n 1, 1), (1266, .aload_n 0, 1), (1267, .iload_n 3, 1), (1268, .iconst 1, 1), (1269, .iadd, 1), (1270, .iaload, 1), (1271, .aload_n 0, 1), (1272, .iload_n 3, 1), (1273, .iconst 2, 1), (1274, .iadd, 1), (1275, .iaload, 1), (1276, .invokevirtual 153, 3), (1279, .aload_n 2, 1), (1280, .aload_n 0, 1), (1281, .iload_n 3, 1), (1282, .iconst 1, 1), (1283, .iadd, 1), (1284, .iaload, 1), (1285, .aload_n 0, 1), (1286, .iload_n 3, 1), (1287, .iconst 2, 1), (1288, .iadd, 1), (1289, .iaload, 1), (1290, .invokevirtual 156, 3), (1293, .if_icmp .eq 200, 3), (1296, .iconst 0, 1), (1297, .ireturn, 1), (1298, .aload_n 1, 1), (1299, .aload_n 0, 1), (1300, .iload_n 3, 1), (1301, .iconst 1, 1)]
set_option maxRecDepth 100000 in
theorem dL_law_p21_ok : (dtL_law_p21.all fun e => decide (decode cL_law e.1 = .ok e.2)) = true := by decide +kernel
theorem dL_law_p21 (i : Nat) {pc : Nat} {q : Instr × Nat} (hi : dtL_law_p21[i]? = some (pc, q)) : decode cL_law pc = .ok q := dt_get dL_law_p21_ok i hi
def dtL_law_p22 : DT := [(1302, .iadd, 1), (1303, .iaload, 1), (1304, .aload_n 0, 1), (1305, .iload_n 3, 1), (1306, .iconst 2, 1), (1307, .iadd, 1), (1308, .iaload, 1), (1309, .invokevirtual 157, 3), (1312, .aload_n 2, 1), (1313, .aload_n 0, 1), (1314, .iload_n 3, 1), (1315, .iconst 1, 1), (1316, .iadd, 1), (1317, .iaload, 1), (1318, .aload_n 0, 1), (1319, .iload_n 3, 1), (1320, .iconst 2, 1), (1321, .iadd, 1), (1322, .iaload, 1), (1323, .invokevirtual 160, 3), (1326, .if_icmp .eq 167, 3), (1329, .iconst 0, 1), (1330, .ireturn, 1), (1331, .aload_n 1, 1), (1332, .aload_n 0, 1), (1333, .iload_n 3, 1), (1334, .iconst 1, 1), (1335, .iadd, 1), (1336, .iaload, 1), (1337, .invokevirtual 161, 3), (1340, .aload_n 2, 1), (1341, .aload_n 0, 1), (1342, .iload_n 3, 1), (1343, .iconst 1, 1), (1344, .iadd, 1), (1345, .iaload, 1), (1346, .invokevirtual 164, 3), (1349, .if_icmp .eq 144, 3), (1352, .iconst 0, 1), (1353, .ireturn, 1)]
set_option maxRecDepth 100000 in
theorem dL_law_p22_ok : (dtL_law_p22.all fun e => decide (decode cL_law e.1 = .ok e.2)) = true := by decide +kernel
theorem dL_law_p22 (i : Nat) {pc : Nat} {q : Instr × Nat} (hi : dtL_law_p22[i]? = some (pc, q)) : decode cL_law pc = .ok q := dt_get dL_law_p22_ok i hi
def dtL_law_p23 : DT := [(1354, .aload_n 1, 1), (1355, .aload_n 0, 1), (1356, .iload_n 3, 1), (1357, .iconst 1, 1), (1358, .iadd, 1), (1359, .iaload, 1), (1360, .aload_n 0, 1), (1361, .iload_n 3, 1), (1362, .iconst 2, 1), (1363, .iadd, 1), (1364, .iaload, 1), (1365, .invokevirtual 165, 3), (1368, .aload_n 2, 1), (1369, .aload_n 0, 1), (1370, .iload_n 3, 1), (1371, .iconst 1, 1), (1372, .iadd, 1), (1373, .iaload, 1), (1374, .aload_n 0, 1), (1375, .iload_n 3, 1), (1376, .iconst 2, 1), (1377, .iadd, 1), (1378, .iaload, 1), (1379, .invokevirtual 168, 3), (1382, .if_icmp .eq 111, 3), (1385, .iconst 0, 1), (1386, .ireturn, 1), (1387, .aload_n 1, 1), (1388, .aload_n 0, 1), (1389, .iload_n 3, 1), (1390, .iconst 1, 1), (1391, .iadd, 1), (1392, .iaload, 1), (1393, .invokevirtual 169, 3), (1396, .aload_n 2, 1), (1397, .aload_n 0, 1), (1398, .iload_n 3, 1), (1399, .iconst 1, 1), (1400, .iadd, 1), (1401, .iaload, 1)]
set_option maxRecDepth 100000 in
theorem dL_law_p23_ok : (dtL_law_p23.all fun e => decide (decode cL_law e.1 = .ok e.2)) = true := by decide +kernel
theorem dL_law_p23 (i : Nat) {pc : Nat} {q : Instr × Nat} (hi : dtL_law_p23[i]? = some (pc, q)) : decode cL_law pc = .ok q := dt_get dL_law_p23_ok i hi
def dtL_law_p24 : DT := [(1402, .invokevirtual 172, 3), (1405, .if_icmp .eq 88, 3), (1408, .iconst 0, 1), (1409, .ireturn, 1), (1410, .aload_n 1, 1), (1411, .aload_n 0, 1), (1412, .iload_n 3, 1), (1413, .iconst 1, 1), (1414, .iadd, 1), (1415, .iaload, 1), (1416, .invokevirtual 173, 3), (1419, .aload_n 2, 1), (1420, .aload_n 0, 1), (1421, .iload_n 3, 1), (1422, .iconst 1, 1), (1423, .iadd, 1), (1424, .iaload, 1), (1425, .invokevirtual 176, 3), (1428, .if_icmp .eq 65, 3), (1431, .iconst 0, 1), (1432, .ireturn, 1), (1433, .aload_n 1, 1), (1434, .aload_n 0, 1), (1435, .iload_n 3, 1), (1436, .iconst 1, 1), (1437, .iadd, 1), (1438, .iaload, 1), (1439, .invokevirtual 177, 3), (1442, .aload_n 2, 1), (1443, .aload_n 0, 1), (1444, .iload_n 3, 1), (1445, .iconst 1, 1), (1446, .iadd, 1), (1447, .iaload, 1), (1448, .invokevirtual 180, 3), (1451, .if_icmp .eq 42, 3), (1454, .iconst 0, 1), (1455, .ireturn, 1), (1456, .aload_n 1, 1), (1457, .aload_n 0, 1)]
set_option maxRecDepth 100000 in
theorem dL_law_p24_ok : (dtL_law_p24.all fun e => decide (decode cL_law e.1 = .ok e.2)) = true := by decide +kernel
theorem dL_law_p24 (i : Nat) {pc : Nat} {q : Instr × Nat} (hi : dtL_law_p24[i]? = some (pc, q)) : decode cL_law pc = .ok q := dt_get dL_law_p24_ok i hi
def dtL_law_p25 : DT := [(1458, .iload_n 3, 1), (1459, .iconst 1, 1), (1460, .iadd, 1), (1461, .iaload, 1), (1462, .invokevirtual 181, 3), (1465, .aload_n 2, 1), (1466, .aload_n 0, 1), (1467, .iload_n 3, 1), (1468, .iconst 1, 1), (1469, .iadd, 1), (1470, .iaload, 1), (1471, .invokevirtual 184, 3), (1474, .if_icmp .eq 19, 3), (1477, .iconst 0, 1), (1478, .ireturn, 1), (1479, .aload_n 1, 1), (1480, .invokevirtual 185, 3), (1483, .aload_n 2, 1), (1484, .invokevirtual 189, 3), (1487, .lcmp, 1), (1488, .ifCond .eq 5, 3), (1491, .iconst 0, 1), (1492, .ireturn, 1), (1493, .iinc 3 5, 3), (1496, .goto (-1478), 3), (1499, .iconst 1, 1), (1500, .ireturn, 1)]
set_option maxRecDepth 100000 in
theorem dL_law_p25_ok : (dtL_law_p25.all fun e => decide (decode cL_law e.1 = .ok e.2)) = true := by decide +kernel
theorem dL_law_p25 (i : Nat) {pc : Nat} {q : Instr × Nat} (hi : dtL_law_p25[i]? = some (pc, q)) : decode cL_law pc = .ok q := dt_get dL_law_p25_ok i hi
end
section
/-! THE FLAT STORE. Behind the constructors no cell is made: 230 cells, each with a number (its place in the order of making), a kind and a length; what they hold is three functions: ints by cell and place, longs by cell and place, and which sentences the places of the array "stored" hold. All other references stand still. -/
abbrev St : Type := (Nat → Nat → Int32) × (Nat → Nat → Int64) × (Nat → Nat)
def up2 {α : Type} (f : Nat → Nat → α) (a i : Nat) (v : α) : Nat → Nat → α := fun b j => if b = a ∧ j = i then v else f b j
def wI (σ : St) (a i : Nat) (v : Int32) : St := (up2 σ.1 a i v, σ.2)
def wL (σ : St) (a i : Nat) (v : Int64) : St := (σ.1, up2 σ.2.1 a i v, σ.2.2)
def wS (σ : St) (i v : Nat) : St := (σ.1, σ.2.1, fun j => if j = i then v else σ.2.2 j)
/-- an int array taken over from another, n places from place 0 on -/
def wC (σ : St) (a b n : Nat) : St := (fun c j => if c = a ∧ j < n then σ.1 b j else σ.1 c j, σ.2)
abbrev NC : Nat := 230
def shpL : List (Nat × Nat) := [(7, 10), (2, 3), (10, 100), (10, 7), (15, 4), (0, 5), (10, 7), (10, 7), (13, 7), (10, 7), (10, 7), (10, 7), (10, 7), (10, 7), (10, 7), (10, 7), (13, 7), (10, 7), (10, 7), (10, 7), (10, 7), (10, 7), (10, 7), (10, 7), (0, 5), (10, 7), (10, 7), (13, 7), (10, 7), (10, 7), (10, 7), (10, 7), (10, 7), (10, 7), (10, 7), (13, 7), (10, 7), (10, 7), (10, 7), (10, 7), (10, 7), (10, 7), (10, 7), (0, 5), (10, 7), (10, 7), (13, 7), (10, 7), (10, 7), (10, 7), (10, 7), (10, 7), (10, 7), (10, 7), (13, 7), (10, 7), (10, 7), (10, 7), (10, 7), (10, 7), (10, 7), (10, 7), (0, 5), (10, 7), (10, 7), (13, 7), (10, 7), (10, 7), (10, 7), (10, 7), (10, 7), (10, 7), (10, 7), (13, 7), (10, 7), (10, 7), (10, 7), (10, 7), (10, 7), (10, 7), (10, 7), (6, 2), (13, 9), (10, 8), (10, 8), (10, 8), (10, 8), (10, 8), (10, 8), (10, 8), (10, 8), (10, 8), (13, 2), (10, 7), (10, 7), (16, 2), (6, 2), (13, 9), (10, 8), (10, 8), (10, 8), (10, 8), (10, 8), (10, 8), (10, 8), (10, 8), (10, 8), (13, 2), (10, 7), (10, 7), (6, 2), (13, 9), (10, 8), (10, 8), (10, 8), (10, 8), (10, 8), (10, 8), (10, 8), (10, 8), (10, 8), (13, 2), (10, 7), (10, 7), (11, 2), (1, 3), (4, 10), (14, 7), (12, 7), (12, 7), (12, 7), (12, 7), (12, 7), (12, 7), (12, 7), (13, 7), (10, 7), (10, 7), (10, 7), (10, 7), (10, 7), (10, 7), (10, 7), (10, 7), (12, 8), (10, 7), (12, 6), (5, 8), (14, 7), (12, 7), (12, 7), (12, 7), (12, 7), (12, 7), (12, 7), (12, 7), (14, 7), (12, 64), (12, 64), (12, 64), (12, 64), (12, 64), (12, 64), (12, 64), (14, 7), (12, 64), (12, 64), (12, 64), (12, 64), (12, 64), (12, 64), (12, 64), (14, 7), (12, 64), (12, 64), (12, 64), (12, 64), (12, 64), (12, 64), (12, 64), (14, 7), (12, 64), (12, 64), (12, 64), (12, 64), (12, 64), (12, 64), (12, 64), (14, 7), (12, 7), (12, 7), (12, 7), (12, 7), (12, 7), (12, 7), (12, 7), (3, 12), (10, 7), (10, 7), (10, 7), (10, 64), (10, 7), (10, 7), (11, 7), (8, 40), (10, 100), (10, 4), (10, 28), (10, 28), (10, 196), (10, 196), (10, 84), (10, 168), (11, 2), (10, 50), (10, 50), (10, 7), (10, 49), (10, 49), (10, 7), (10, 7), (10, 49), (10, 49), (12, 49), (10, 7), (10, 7), (10, 7), (10, 200), (10, 8), (10, 8)]
def kd (k : Nat) : Nat := (shpL.getD k (99, 0)).1
def ln (k : Nat) : Nat := (shpL.getD k (99, 0)).2
def ftL : List (List Nat) := [[0, 2, 2, 2, 2], [0, 0, 0], [2, 0, 2], [0, 2, 2, 0, 2, 2, 0, 2, 0, 2, 0, 2], [2, 0, 2, 2, 2, 2, 2, 2, 0, 0], [2, 0, 2, 2, 2, 2, 2, 2], [2, 2], [2, 2, 0, 2, 2, 2, 2, 2, 2, 2], [2, 0, 0, 2, 2, 2, 2, 2, 2, 2, 2, 0, 0, 0, 0, 2, 2, 2, 2, 2, 2, 0, 2, 2, 0, 1, 2, 2, 0, 1, 2, 2, 2, 0, 2, 2, 0, 2, 0, 0]]
def ftk (ci j : Nat) : Nat := (ftL.getD ci []).getD j 0
def layT : List (List Nat) := [[1, 4, 0, 81, 95, 124, 125, 126, 147, 196], [2, 0, 3], [], [], [], [0, 6, 7, 8, 16], [], [], [9, 10, 11, 12, 13, 14, 15], [], [], [], [], [], [], [], [17, 18, 19, 20, 21, 22, 23], [], [], [], [], [], [], [], [0, 25, 26, 27, 35], [], [], [28, 29, 30, 31, 32, 33, 34], [], [], [], [], [], [], [], [36, 37, 38, 39, 40, 41, 42], [], [], [], [], [], [], [], [0, 44, 45, 46, 54], [], [], [47, 48, 49, 50, 51, 52, 53], [], [], [], [], [], [], [], [55, 56, 57, 58, 59, 60, 61], [], [], [], [], [], [], [], [0, 63, 64, 65, 73], [], [], [66, 67, 68, 69, 70, 71, 72], [], [], [], [], [], [], [], [74, 75, 76, 77, 78, 79, 80], [], [], [], [], [], [], [], [82, 92], [83, 84, 85, 86, 87, 88, 89, 90, 91], [], [], [], [], [], [], [], [], [], [93, 94], [], [], [96, 110], [97, 107], [98, 99, 100, 101, 102, 103, 104, 105, 106], [], [], [], [], [], [], [], [], [], [108, 109], [], [], [111, 121], [112, 113, 114, 115, 116, 117, 118, 119, 120], [], [], [], [], [], [], [], [], [], [122, 123], [], [], [], [], [125, 0, 127, 135, 143, 144, 145, 146], [128, 129, 130, 131, 132, 133, 134], [], [], [], [], [], [], [], [136, 137, 138, 139, 140, 141, 142], [], [], [], [], [], [], [], [], [], [], [], [125, 0, 148, 156, 164, 172, 180, 188], [149, 150, 151, 152, 153, 154, 155], [], [], [], [], [], [], [], [157, 158, 159, 160, 161, 162, 163], [], [], [], [], [], [], [], [165, 166, 167, 168, 169, 170, 171], [], [], [], [], [], [], [], [173, 174, 175, 176, 177, 178, 179], [], [], [], [], [], [], [], [181, 182, 183, 184, 185, 186, 187], [], [], [], [], [], [], [], [189, 190, 191, 192, 193, 194, 195], [], [], [], [], [], [], [], [0, 197, 198, 0, 199, 200, 0, 201, 0, 202, 0, 203], [], [], [], [], [], [], [], [205, 0, 0, 206, 207, 208, 209, 210, 211, 212, 213, 0, 0, 0, 0, 214, 215, 216, 217, 218, 219, 0, 220, 221, 0, 0, 222, 223, 0, 0, 224, 225, 226, 0, 227, 228, 0, 229], [], [], [], [], [], [], [], [], [], [], [], [], [], [], [], [], [], [], [], [], [], [], [], [], []]
def lay (k j : Nat) : Nat := (layT.getD k []).getD j 0
def mrN (sp : Nat → Nat) (k j : Nat) : Nat := if k = 4 then sp j else lay k j
def fv (ad : Nat → Nat) (ci : Nat) (f : Nat → Int32) (g : Nat → Int64) (r : Nat → Nat) (j : Nat) : Value := if ftk ci j = 0 then .int (f j) else if ftk ci j = 1 then .long (g j) else .ref (ad (r j))
def fvs (ad : Nat → Nat) (ci n : Nat) (f : Nat → Int32) (g : Nat → Int64) (r : Nat → Nat) : List Value := (List.range n).map (fv ad ci f g r)
def cellN (ad : Nat → Nat) (ca : Nat → ClassId) (σ : St) (k : Nat) : va_E :=
  if kd k < 10 then .inr (kd k, fvs ad (kd k) (ln k) (σ.1 k) (σ.2.1 k) (mrN σ.2.2 k))
  else if kd k = 10 then .inl (ca 0, ln k, .inl (σ.1 k))
  else if kd k = 11 then .inl (ca 1, ln k, .inl (σ.1 k))
  else if kd k = 12 then .inl (ca 2, ln k, .inr (.inl (σ.2.1 k)))
  else .inl (ca (kd k - 10), ln k, .inr (.inr (.inr (.inr (fun j => some (ad (mrN σ.2.2 k j)))))))
def wsN (ad : Nat → Nat) (ca : Nat → ClassId) (σ : St) : va_W := (List.range NC).map (fun k => (ad k, cellN ad ca σ k))
theorem wsN_at {ad : Nat → Nat} {ca : Nat → ClassId} {σ : St} {k : Nat} (h : k < NC) : (wsN ad ca σ)[k]? = some (ad k, cellN ad ca σ k) := by
  unfold wsN
  rw [List.getElem?_map, List.getElem?_range h]
  rfl
theorem wsN_len {ad : Nat → Nat} {ca : Nat → ClassId} {σ : St} : (wsN ad ca σ).length = NC := by simp [wsN]
theorem wsN_set {ad : Nat → Nat} {ca : Nat → ClassId} {σ σ' : St} {k : Nat} {e : va_E} (h : k < NC) (h1 : ∀ j, j ≠ k → cellN ad ca σ' j = cellN ad ca σ j) (h2 : cellN ad ca σ' k = e) : (wsN ad ca σ).set k (ad k, e) = wsN ad ca σ' := by
  apply List.ext_getElem?
  intro j
  by_cases hj : j < NC
  · rw [wsN_at (σ := σ') hj]
    by_cases hk : k = j
    · subst hk
      rw [List.getElem?_set_self (by rw [wsN_len]; exact hj), h2]
    · rw [List.getElem?_set_ne hk, wsN_at hj, h1 j (fun q => hk q.symm)]
  · rw [List.getElem?_eq_none (by rw [List.length_set, wsN_len]; omega), List.getElem?_eq_none (by rw [wsN_len]; omega)]
theorem up2_ne {α : Type} {f : Nat → Nat → α} {a i b : Nat} {v : α} (h : b ≠ a) : up2 f a i v b = f b := by
  funext j
  simp [up2, h]
theorem up2_self {α : Type} {f : Nat → Nat → α} {a i : Nat} {v : α} : up2 f a i v a = fun j => if j = i then v else f a j := by
  funext j
  simp [up2]
theorem cellN_wI_ne {ad : Nat → Nat} {ca : Nat → ClassId} {σ : St} {a i : Nat} {v : Int32} (j : Nat) (h : j ≠ a) : cellN ad ca (wI σ a i v) j = cellN ad ca σ j := by
  unfold cellN wI
  simp only [up2_ne h]
theorem cellN_wL_ne {ad : Nat → Nat} {ca : Nat → ClassId} {σ : St} {a i : Nat} {v : Int64} (j : Nat) (h : j ≠ a) : cellN ad ca (wL σ a i v) j = cellN ad ca σ j := by
  unfold cellN wL
  simp only [up2_ne h]
theorem cellN_wS_ne {ad : Nat → Nat} {ca : Nat → ClassId} {σ : St} {i v : Nat} (j : Nat) (h : j ≠ 4) : cellN ad ca (wS σ i v) j = cellN ad ca σ j := by
  have e : mrN (wS σ i v).2.2 j = mrN σ.2.2 j := by
    funext q
    simp [mrN, h]
  unfold cellN
  rw [e]
  rfl
theorem cellN_wC_ne {ad : Nat → Nat} {ca : Nat → ClassId} {σ : St} {a b n : Nat} (j : Nat) (h : j ≠ a) : cellN ad ca (wC σ a b n) j = cellN ad ca σ j := by
  have e : (wC σ a b n).1 j = σ.1 j := by
    funext q
    simp [wC, h]
  unfold cellN
  rw [e]
  rfl
theorem cellN_obj {ad : Nat → Nat} {ca : Nat → ClassId} {σ : St} {k ci : Nat} (h : kd k = ci) (hc : ci < 10) : cellN ad ca σ k = .inr (ci, fvs ad ci (ln k) (σ.1 k) (σ.2.1 k) (mrN σ.2.2 k)) := by
  subst h
  unfold cellN
  rw [if_pos hc]
theorem cellN_i {ad : Nat → Nat} {ca : Nat → ClassId} {σ : St} {k : Nat} (h : kd k = 10) : cellN ad ca σ k = .inl (ca 0, ln k, .inl (σ.1 k)) := by
  unfold cellN
  rw [h]
  rfl
theorem cellN_z {ad : Nat → Nat} {ca : Nat → ClassId} {σ : St} {k : Nat} (h : kd k = 11) : cellN ad ca σ k = .inl (ca 1, ln k, .inl (σ.1 k)) := by
  unfold cellN
  rw [h]
  rfl
theorem cellN_l {ad : Nat → Nat} {ca : Nat → ClassId} {σ : St} {k : Nat} (h : kd k = 12) : cellN ad ca σ k = .inl (ca 2, ln k, .inr (.inl (σ.2.1 k))) := by
  unfold cellN
  rw [h]
  rfl
theorem cellN_q {ad : Nat → Nat} {ca : Nat → ClassId} {σ : St} {k c : Nat} (h : kd k = c) (hc : 12 < c) : cellN ad ca σ k = .inl (ca (c - 10), ln k, .inr (.inr (.inr (.inr (fun j => some (ad (mrN σ.2.2 k j))))))) := by
  subst h
  unfold cellN
  rw [if_neg (by omega), if_neg (by omega), if_neg (by omega), if_neg (by omega)]
theorem fvs_at {ad : Nat → Nat} {ci n : Nat} {f : Nat → Int32} {g : Nat → Int64} {r : Nat → Nat} {j : Nat} (h : j < n) : (fvs ad ci n f g r)[j]? = some (fv ad ci f g r j) := by
  unfold fvs
  rw [List.getElem?_map, List.getElem?_range h]
  rfl
theorem fvs_len {ad : Nat → Nat} {ci n : Nat} {f : Nat → Int32} {g : Nat → Int64} {r : Nat → Nat} : (fvs ad ci n f g r).length = n := by simp [fvs]
theorem fvs_set {ad : Nat → Nat} {ci n : Nat} {f f' : Nat → Int32} {g g' : Nat → Int64} {r : Nat → Nat} {j : Nat} {v : Value} (h : j < n) (h1 : ∀ q, q ≠ j → fv ad ci f' g' r q = fv ad ci f g r q) (h2 : fv ad ci f' g' r j = v) : (fvs ad ci n f g r).set j v = fvs ad ci n f' g' r := by
  apply List.ext_getElem?
  intro q
  by_cases hq : q < n
  · rw [fvs_at (f := f') hq]
    by_cases hk : j = q
    · subst hk
      rw [List.getElem?_set_self (by rw [fvs_len]; exact hq), h2]
    · rw [List.getElem?_set_ne hk, fvs_at hq, h1 q (fun z => hk z.symm)]
  · rw [List.getElem?_eq_none (by rw [List.length_set, fvs_len]; omega), List.getElem?_eq_none (by rw [fvs_len]; omega)]
def adOk (ad : Nat → Nat) : Prop := ∀ i j, i < NC → j < NC → ad i = ad j → i = j
theorem D_wsN {ad : Nat → Nat} {ca : Nat → ClassId} {σ : St} {A : Nat → Prop} (h : adOk ad) (hA : ∀ k, k < NC → A (ad k)) : va_D A (wsN ad ca σ) := by
  have key : ∀ (i : Nat) (x : Nat × va_E), (wsN ad ca σ)[i]? = some x → i < NC ∧ x.1 = ad i := by
    intro i x hx
    have hl : i < NC := by
      have := (List.getElem?_eq_some_iff.mp hx).1
      rwa [wsN_len] at this
    rw [wsN_at hl] at hx
    cases hx
    exact ⟨hl, rfl⟩
  refine ⟨fun i j x y hx hy e => ?_, fun k x hx => ?_⟩
  · obtain ⟨h1, h2⟩ := key i x hx
    obtain ⟨h3, h4⟩ := key j y hy
    exact h i j h1 h3 (by rw [← h2, ← h4, e])
  · obtain ⟨h1, h2⟩ := key k x hx
    rw [h2]
    exact hA k h1
abbrev tysL (ca : Nat → ClassId) : List (ClassId × FieldType) := [(ca 0, .int), (ca 1, .boolean), (ca 2, .long), (ca 3, .array .int), (ca 4, .array .long), (ca 5, .object RX0), (ca 6, .object RX6)]
/-- the table PLACES -/
def plv (j : Nat) : Int32 := ([0, 16807, 2401, 343, 49, 7, 1] : List Int32).getD j 0
/-- what the tables say of every state on the way: classes, array classes, nest mates' links, the static table -/
def Kn (D : va_G) (ca : Nat → ClassId) (A : Nat → Prop) (U : State) : Prop := va_K D vwCl (tysL ca) U ∧ (va_Nw (.methodLinkNest RX2 26 yX7_formTree RX7) U ∧ va_Nw (.methodLinkNest RX4 87 yX7_cross RX7) U ∧ va_Nw (.methodLinkNest RX6 50 yX7_mix RX7) U) ∧ ∃ t : Nat, va_Z RX4 "PLACES" "[I" (.ref t) A U U.heap ∧ va_T .int t 7 (fun j => .int (plv j)) A U U.heap
abbrev Kap : Type := (Program × Launch × Env × Room × State × MethodId) × (Array Value × List Frame × Method × Code × (State → Prop)) × (Nat × Nat × Nat × (Nat → Prop)) × ((Nat → Nat) × va_G × (Nat → ClassId))
abbrev kP (κ : Kap) : Program := κ.1.1
abbrev kL (κ : Kap) : Launch := κ.1.2.1
abbrev kE (κ : Kap) : Env := κ.1.2.2.1
abbrev kR (κ : Kap) : Room := κ.1.2.2.2.1
abbrev kS (κ : Kap) : State := κ.1.2.2.2.2.1
abbrev kM (κ : Kap) : MethodId := κ.1.2.2.2.2.2
abbrev kArgs (κ : Kap) : Array Value := κ.2.1.1
abbrev kBelow (κ : Kap) : List Frame := κ.2.1.2.1
abbrev kMeth (κ : Kap) : Method := κ.2.1.2.2.1
abbrev kC (κ : Kap) : Code := κ.2.1.2.2.2.1
abbrev kQ (κ : Kap) : State → Prop := κ.2.1.2.2.2.2
abbrev knL (κ : Kap) : Nat := κ.2.2.1.1
abbrev kcells (κ : Kap) : Nat := κ.2.2.1.2.1
abbrev kslots (κ : Kap) : Nat := κ.2.2.1.2.2.1
abbrev kA (κ : Kap) : Nat → Prop := κ.2.2.1.2.2.2
abbrev kad (κ : Kap) : Nat → Nat := κ.2.2.2.1
abbrev kD (κ : Kap) : va_G := κ.2.2.2.2.1
abbrev kca (κ : Kap) : Nat → ClassId := κ.2.2.2.2.2
/-- the machine at pc, with these locals, this stack and this store, comes to the method's goal -/
def GG (κ : Kap) (pc : Nat) (loc : List (Nat × Value)) (stk : List Value) (σ : St) : Prop :=
  ∀ (ls : Array Slot) (H : Heap) (locs : List Loc), lv_has ls (knL κ) loc → va_P (kD κ) vwCl (wsN (kad κ) (kca κ) σ) H → va_S (kA κ) (kS κ).heap H locs →
    W (kP κ) (kL κ) (kE κ) (kR κ) (kS κ) (kM κ) (kArgs κ) (kBelow κ) (kMeth κ) (kC κ) H locs (kcells κ) (kslots κ) (kQ κ) (F0 (kM κ) pc ls stk)
/-- the room of a method above which d calls may stand open -/
def rmD (d : Nat) : Room := { frames := d, cells := 0, slots := 0, locals := 64 * d }
/-- what holds all through a method of the class own with the code cc -/
def Ok (κ : Kap) (own : String) (cc : ByteArray) (nL d : Nat) : Prop :=
  (kP κ).tables.exec = Jvm.exec ∧ (kC κ).code = cc ∧ ((kC κ).maxLocals = nL ∧ knL κ = nL) ∧ (kS κ).vm.findClass own = some (kM κ).cls ∧ (∀ w ∈ gtbl, w.before (kArgs κ) (kS κ) = true) ∧ Kn (kD κ) (kca κ) (kA κ) (kS κ) ∧ adOk (kad κ) ∧ (∀ k, k < NC → kA κ (kad κ k)) ∧ (d ≤ (kR κ).frames ∧ 64 * d ≤ (kR κ).locals) ∧ kcells κ ≤ (kR κ).cells ∧ kslots κ ≤ (kR κ).slots
section XR
variable {κ : Kap} {own : String} {cc : ByteArray} {nL d pc : Nat} {loc loc' : List (Nat × Value)} {st : List Value} {σ : St}
theorem Ok.hx (C : Ok κ own cc nL d) : (kP κ).tables.exec = Jvm.exec := C.1
theorem Ok.hb (C : Ok κ own cc nL d) : (kC κ).code = cc := C.2.1
theorem Ok.ml (C : Ok κ own cc nL d) : (kC κ).maxLocals = nL := C.2.2.1.1
theorem Ok.nl (C : Ok κ own cc nL d) : knL κ = nL := C.2.2.1.2
theorem Ok.hown (C : Ok κ own cc nL d) : (kS κ).vm.findClass own = some (kM κ).cls := C.2.2.2.1
theorem Ok.hts (C : Ok κ own cc nL d) : ∀ w ∈ gtbl, w.before (kArgs κ) (kS κ) = true := C.2.2.2.2.1
theorem Ok.kn (C : Ok κ own cc nL d) : Kn (kD κ) (kca κ) (kA κ) (kS κ) := C.2.2.2.2.2.1
theorem Ok.hK (C : Ok κ own cc nL d) : va_K (kD κ) vwCl (tysL (kca κ)) (kS κ) := C.2.2.2.2.2.1.1
theorem Ok.ado (C : Ok κ own cc nL d) : adOk (kad κ) := C.2.2.2.2.2.2.1
theorem Ok.hA (C : Ok κ own cc nL d) : ∀ k, k < NC → kA κ (kad κ k) := C.2.2.2.2.2.2.2.1
theorem Ok.room (C : Ok κ own cc nL d) : d ≤ (kR κ).frames ∧ 64 * d ≤ (kR κ).locals := C.2.2.2.2.2.2.2.2.1
theorem Ok.rc (C : Ok κ own cc nL d) : kcells κ ≤ (kR κ).cells := C.2.2.2.2.2.2.2.2.2.1
theorem Ok.rs (C : Ok κ own cc nL d) : kslots κ ≤ (kR κ).slots := C.2.2.2.2.2.2.2.2.2.2
theorem Ok.hD (C : Ok κ own cc nL d) : va_D (kA κ) (wsN (kad κ) (kca κ) σ) := D_wsN C.ado C.hA
theorem x_loc (ks : List Nat) (hl : lv_pick loc ks = loc') (k : GG κ pc loc' st σ) : GG κ pc loc st σ := fun ls H locs h hP hS => k ls H locs (lv_sub h ks hl) hP hS

theorem x_iconst {n : Int} {v : Int32} (C : Ok κ own cc nL d) (hv : Int32.ofInt n = v) (hd : decode cc pc = .ok (.iconst n, 1)) (k : GG κ (pc + 1) loc (.int v :: st) σ) : GG κ pc loc (st) σ := fun ls H locs hl hP hS => lv_iconst C.hx C.hb hd hv (k ls H locs hl hP hS)
theorem x_bipush {n : Int} {v : Int32} (C : Ok κ own cc nL d) (hv : (Int8.ofInt n).toInt32 = v) (hd : decode cc pc = .ok (.bipush n, 2)) (k : GG κ (pc + 2) loc (.int v :: st) σ) : GG κ pc loc (st) σ := fun ls H locs hl hP hS => lv_bipush C.hx C.hb hd hv (k ls H locs hl hP hS)
theorem x_sipush {n : Int} {v : Int32} (C : Ok κ own cc nL d) (hv : (Int16.ofInt n).toInt32 = v) (hd : decode cc pc = .ok (.sipush n, 3)) (k : GG κ (pc + 3) loc (.int v :: st) σ) : GG κ pc loc (st) σ := fun ls H locs hl hP hS => lv_sipush C.hx C.hb hd hv (k ls H locs hl hP hS)
theorem x_lconst {n : Fin 2} {v : Int64} (C : Ok κ own cc nL d) (hv : Int64.ofNat (n : Nat) = v) (hd : decode cc pc = .ok (.lconst n, 1)) (k : GG κ (pc + 1) loc (.long v :: st) σ) : GG κ pc loc (st) σ := fun ls H locs hl hP hS => lv_lconst C.hx C.hb hd hv (k ls H locs hl hP hS)
theorem x_null  (C : Ok κ own cc nL d) (hd : decode cc pc = .ok (.aconst_null, 1)) (k : GG κ (pc + 1) loc (.null :: st) σ) : GG κ pc loc (st) σ := fun ls H locs hl hP hS => lv_null C.hx C.hb hd (k ls H locs hl hP hS)
theorem x_ldc {i : Nat} {v : Int32} (C : Ok κ own cc nL d) (hw : Cond.constant own i v ∈ gtbl) (hd : decode cc pc = .ok (.ldc i, 2)) (k : GG κ (pc + 2) loc (.int v :: st) σ) : GG κ pc loc (st) σ := fun ls H locs hl hP hS => lv_ldc C.hx C.hb C.hown (C.hts _ hw) hd (k ls H locs hl hP hS)
theorem x_ldc2 {i : Nat} {v : Int64} (C : Ok κ own cc nL d) (hw : Cond.constantLong own i v ∈ gtbl) (hd : decode cc pc = .ok (.ldc2_w i, 3)) (k : GG κ (pc + 3) loc (.long v :: st) σ) : GG κ pc loc (st) σ := fun ls H locs hl hP hS => lv_ldc2 C.hx C.hb C.hown (C.hts _ hw) hd (k ls H locs hl hP hS)
theorem x_ldcw {i : Nat} {v : Int32} (C : Ok κ own cc nL d) (hw : Cond.constant own i v ∈ gtbl) (hd : decode cc pc = .ok (.ldc_w i, 3)) (k : GG κ (pc + 3) loc (.int v :: st) σ) : GG κ pc loc (st) σ := fun ls H locs hl hP hS => lv_ldcw C.hx C.hb C.hown (C.hts _ hw) hd (k ls H locs hl hP hS)
theorem x_iload_n {k0 : Fin 4} {x : Int32} (q : Nat) (C : Ok κ own cc nL d) (hq : loc[q]? = some ((k0 : Nat), .int x)) (hd : decode cc pc = .ok (.iload_n k0, 1)) (k : GG κ (pc + 1) loc (.int x :: st) σ) : GG κ pc loc st σ := fun ls H locs hl hP hS => lv_iload_n C.hx C.hb hd rfl (lv_at hl q hq) (k ls H locs hl hP hS)
theorem x_iload {i : Nat} {x : Int32} (q : Nat) (C : Ok κ own cc nL d) (hq : loc[q]? = some (i, .int x)) (hd : decode cc pc = .ok (.iload i, 2)) (k : GG κ (pc + 2) loc (.int x :: st) σ) : GG κ pc loc st σ := fun ls H locs hl hP hS => lv_iload C.hx C.hb hd (lv_at hl q hq) (k ls H locs hl hP hS)
theorem x_istore_n {k0 : Fin 4} {i : Nat} {x : Int32} (C : Ok κ own cc nL d) (hi : (k0 : Nat) = i) (hn : i < nL) (hl : (i, Value.int x) :: loc.filter (fun q => !(q.1 == i) && !(q.1 + 1 == i && q.2.category == 2)) = loc') (hd : decode cc pc = .ok (.istore_n k0, 1)) (k : GG κ (pc + 1) loc' st σ) : GG κ pc loc (.int x :: st) σ := fun ls H locs hls hP hS => lv_istore_n C.hx C.hb hd hi hls (by rw [C.nl]; exact hn) hl (fun ls' h' => k ls' H locs h' hP hS)
theorem x_istore {i : Nat} {x : Int32} (C : Ok κ own cc nL d) (hn : i < nL) (hl : (i, Value.int x) :: loc.filter (fun q => !(q.1 == i) && !(q.1 + 1 == i && q.2.category == 2)) = loc') (hd : decode cc pc = .ok (.istore i, 2)) (k : GG κ (pc + 2) loc' st σ) : GG κ pc loc (.int x :: st) σ := fun ls H locs hls hP hS => lv_istore C.hx C.hb hd hls (by rw [C.nl]; exact hn) hl (fun ls' h' => k ls' H locs h' hP hS)
theorem x_lload_n {k0 : Fin 4} {x : Int64} (q : Nat) (C : Ok κ own cc nL d) (hq : loc[q]? = some ((k0 : Nat), .long x)) (hd : decode cc pc = .ok (.lload_n k0, 1)) (k : GG κ (pc + 1) loc (.long x :: st) σ) : GG κ pc loc st σ := fun ls H locs hl hP hS => lv_lload_n C.hx C.hb hd rfl (lv_at hl q hq) (k ls H locs hl hP hS)
theorem x_lload {i : Nat} {x : Int64} (q : Nat) (C : Ok κ own cc nL d) (hq : loc[q]? = some (i, .long x)) (hd : decode cc pc = .ok (.lload i, 2)) (k : GG κ (pc + 2) loc (.long x :: st) σ) : GG κ pc loc st σ := fun ls H locs hl hP hS => lv_lload C.hx C.hb hd (lv_at hl q hq) (k ls H locs hl hP hS)
theorem x_lstore_n {k0 : Fin 4} {i : Nat} {x : Int64} (C : Ok κ own cc nL d) (hi : (k0 : Nat) = i) (hn : i + 1 < nL) (hl : (i, Value.long x) :: loc.filter (fun q => !(q.1 == i) && (!(q.1 == i + 1) && !(q.1 + 1 == i && q.2.category == 2))) = loc') (hd : decode cc pc = .ok (.lstore_n k0, 1)) (k : GG κ (pc + 1) loc' st σ) : GG κ pc loc (.long x :: st) σ := fun ls H locs hls hP hS => lv_lstore_n C.hx C.hb hd hi hls (by rw [C.nl]; exact hn) hl (fun ls' h' => k ls' H locs h' hP hS)
theorem x_lstore {i : Nat} {x : Int64} (C : Ok κ own cc nL d) (hn : i + 1 < nL) (hl : (i, Value.long x) :: loc.filter (fun q => !(q.1 == i) && (!(q.1 == i + 1) && !(q.1 + 1 == i && q.2.category == 2))) = loc') (hd : decode cc pc = .ok (.lstore i, 2)) (k : GG κ (pc + 2) loc' st σ) : GG κ pc loc (.long x :: st) σ := fun ls H locs hls hP hS => lv_lstore C.hx C.hb hd hls (by rw [C.nl]; exact hn) hl (fun ls' h' => k ls' H locs h' hP hS)
theorem x_aload_n {k0 : Fin 4} {x : Nat} (q : Nat) (C : Ok κ own cc nL d) (hq : loc[q]? = some ((k0 : Nat), .ref x)) (hd : decode cc pc = .ok (.aload_n k0, 1)) (k : GG κ (pc + 1) loc (.ref x :: st) σ) : GG κ pc loc st σ := fun ls H locs hl hP hS => lv_aload_n C.hx C.hb hd rfl (lv_at hl q hq) (k ls H locs hl hP hS)
theorem x_aload {i : Nat} {x : Nat} (q : Nat) (C : Ok κ own cc nL d) (hq : loc[q]? = some (i, .ref x)) (hd : decode cc pc = .ok (.aload i, 2)) (k : GG κ (pc + 2) loc (.ref x :: st) σ) : GG κ pc loc st σ := fun ls H locs hl hP hS => lv_aload C.hx C.hb hd (lv_at hl q hq) (k ls H locs hl hP hS)
theorem x_astore_n {k0 : Fin 4} {i : Nat} {x : Nat} (C : Ok κ own cc nL d) (hi : (k0 : Nat) = i) (hn : i < nL) (hl : (i, Value.ref x) :: loc.filter (fun q => !(q.1 == i) && !(q.1 + 1 == i && q.2.category == 2)) = loc') (hd : decode cc pc = .ok (.astore_n k0, 1)) (k : GG κ (pc + 1) loc' st σ) : GG κ pc loc (.ref x :: st) σ := fun ls H locs hls hP hS => lv_astore_n C.hx C.hb hd hi hls (by rw [C.nl]; exact hn) hl (fun ls' h' => k ls' H locs h' hP hS)
theorem x_astore {i : Nat} {x : Nat} (C : Ok κ own cc nL d) (hn : i < nL) (hl : (i, Value.ref x) :: loc.filter (fun q => !(q.1 == i) && !(q.1 + 1 == i && q.2.category == 2)) = loc') (hd : decode cc pc = .ok (.astore i, 2)) (k : GG κ (pc + 2) loc' st σ) : GG κ pc loc (.ref x :: st) σ := fun ls H locs hls hP hS => lv_astore C.hx C.hb hd hls (by rw [C.nl]; exact hn) hl (fun ls' h' => k ls' H locs h' hP hS)
theorem x_aload_nN {k0 : Fin 4} (q : Nat) (C : Ok κ own cc nL d) (hq : loc[q]? = some ((k0 : Nat), .null)) (hd : decode cc pc = .ok (.aload_n k0, 1)) (k : GG κ (pc + 1) loc (.null :: st) σ) : GG κ pc loc st σ := fun ls H locs hl hP hS => lv_aload_nN C.hx C.hb hd rfl (lv_at hl q hq) (k ls H locs hl hP hS)
theorem x_aloadN {i : Nat} (q : Nat) (C : Ok κ own cc nL d) (hq : loc[q]? = some (i, .null)) (hd : decode cc pc = .ok (.aload i, 2)) (k : GG κ (pc + 2) loc (.null :: st) σ) : GG κ pc loc st σ := fun ls H locs hl hP hS => lv_aloadN C.hx C.hb hd (lv_at hl q hq) (k ls H locs hl hP hS)
theorem x_astore_nN {k0 : Fin 4} {i : Nat} (C : Ok κ own cc nL d) (hi : (k0 : Nat) = i) (hn : i < nL) (hl : (i, Value.null) :: loc.filter (fun q => !(q.1 == i) && !(q.1 + 1 == i && q.2.category == 2)) = loc') (hd : decode cc pc = .ok (.astore_n k0, 1)) (k : GG κ (pc + 1) loc' st σ) : GG κ pc loc (.null :: st) σ := fun ls H locs hls hP hS => lv_astore_nN C.hx C.hb hd hi hls (by rw [C.nl]; exact hn) hl (fun ls' h' => k ls' H locs h' hP hS)
theorem x_astoreN {i : Nat} (C : Ok κ own cc nL d) (hn : i < nL) (hl : (i, Value.null) :: loc.filter (fun q => !(q.1 == i) && !(q.1 + 1 == i && q.2.category == 2)) = loc') (hd : decode cc pc = .ok (.astore i, 2)) (k : GG κ (pc + 2) loc' st σ) : GG κ pc loc (.null :: st) σ := fun ls H locs hls hP hS => lv_astoreN C.hx C.hb hd hls (by rw [C.nl]; exact hn) hl (fun ls' h' => k ls' H locs h' hP hS)
theorem x_iinc {i : Nat} {n : Int} {x v : Int32} (q : Nat) (C : Ok κ own cc nL d) (hq : loc[q]? = some (i, .int x)) (hv : x + Int32.ofInt n = v) (hn : i < nL) (hl : (i, Value.int v) :: loc.filter (fun q => !(q.1 == i) && !(q.1 + 1 == i && q.2.category == 2)) = loc') (hd : decode cc pc = .ok (.iinc i n, 3)) (k : GG κ (pc + 3) loc' st σ) : GG κ pc loc st σ := fun ls H locs hls hP hS => lv_iinc C.hx C.hb hd hls hq hv (by rw [C.nl]; exact hn) hl (fun ls' h' => k ls' H locs h' hP hS)
theorem x_iadd {x y : Int32} (C : Ok κ own cc nL d) (hd : decode cc pc = .ok (.iadd, 1)) (k : GG κ (pc + 1) loc (.int (x + y) :: st) σ) : GG κ pc loc (.int y :: .int x :: st) σ := fun ls H locs hl hP hS => lv_iadd C.hx C.hb hd (k ls H locs hl hP hS)
theorem x_isub {x y : Int32} (C : Ok κ own cc nL d) (hd : decode cc pc = .ok (.isub, 1)) (k : GG κ (pc + 1) loc (.int (x - y) :: st) σ) : GG κ pc loc (.int y :: .int x :: st) σ := fun ls H locs hl hP hS => lv_isub C.hx C.hb hd (k ls H locs hl hP hS)
theorem x_imul {x y : Int32} (C : Ok κ own cc nL d) (hd : decode cc pc = .ok (.imul, 1)) (k : GG κ (pc + 1) loc (.int (x * y) :: st) σ) : GG κ pc loc (.int y :: .int x :: st) σ := fun ls H locs hl hP hS => lv_imul C.hx C.hb hd (k ls H locs hl hP hS)
theorem x_iand {x y : Int32} (C : Ok κ own cc nL d) (hd : decode cc pc = .ok (.iand, 1)) (k : GG κ (pc + 1) loc (.int (x &&& y) :: st) σ) : GG κ pc loc (.int y :: .int x :: st) σ := fun ls H locs hl hP hS => lv_iand C.hx C.hb hd (k ls H locs hl hP hS)
theorem x_ior {x y : Int32} (C : Ok κ own cc nL d) (hd : decode cc pc = .ok (.ior, 1)) (k : GG κ (pc + 1) loc (.int (x ||| y) :: st) σ) : GG κ pc loc (.int y :: .int x :: st) σ := fun ls H locs hl hP hS => lv_ior C.hx C.hb hd (k ls H locs hl hP hS)
theorem x_ixor {x y : Int32} (C : Ok κ own cc nL d) (hd : decode cc pc = .ok (.ixor, 1)) (k : GG κ (pc + 1) loc (.int (x ^^^ y) :: st) σ) : GG κ pc loc (.int y :: .int x :: st) σ := fun ls H locs hl hP hS => lv_ixor C.hx C.hb hd (k ls H locs hl hP hS)
theorem x_ishl {x y : Int32} (C : Ok κ own cc nL d) (hd : decode cc pc = .ok (.ishl, 1)) (k : GG κ (pc + 1) loc (.int (x <<< (y &&& 31)) :: st) σ) : GG κ pc loc (.int y :: .int x :: st) σ := fun ls H locs hl hP hS => lv_ishl C.hx C.hb hd (k ls H locs hl hP hS)
theorem x_ishr {x y : Int32} (C : Ok κ own cc nL d) (hd : decode cc pc = .ok (.ishr, 1)) (k : GG κ (pc + 1) loc (.int (x >>> (y &&& 31)) :: st) σ) : GG κ pc loc (.int y :: .int x :: st) σ := fun ls H locs hl hP hS => lv_ishr C.hx C.hb hd (k ls H locs hl hP hS)
theorem x_idiv {x y : Int32} (C : Ok κ own cc nL d) (hne : ¬ y = 0) (hd : decode cc pc = .ok (.idiv, 1)) (k : GG κ (pc + 1) loc (.int (x / y) :: st) σ) : GG κ pc loc (.int y :: .int x :: st) σ := fun ls H locs hl hP hS => lv_idiv C.hx C.hb hd hne (k ls H locs hl hP hS)
theorem x_irem {x y : Int32} (C : Ok κ own cc nL d) (hne : ¬ y = 0) (hd : decode cc pc = .ok (.irem, 1)) (k : GG κ (pc + 1) loc (.int (x - x / y * y) :: st) σ) : GG κ pc loc (.int y :: .int x :: st) σ := fun ls H locs hl hP hS => lv_irem C.hx C.hb hd hne (k ls H locs hl hP hS)
theorem x_ladd {x y : Int64} (C : Ok κ own cc nL d) (hd : decode cc pc = .ok (.ladd, 1)) (k : GG κ (pc + 1) loc (.long (x + y) :: st) σ) : GG κ pc loc (.long y :: .long x :: st) σ := fun ls H locs hl hP hS => lv_ladd C.hx C.hb hd (k ls H locs hl hP hS)
theorem x_lsub {x y : Int64} (C : Ok κ own cc nL d) (hd : decode cc pc = .ok (.lsub, 1)) (k : GG κ (pc + 1) loc (.long (x - y) :: st) σ) : GG κ pc loc (.long y :: .long x :: st) σ := fun ls H locs hl hP hS => lv_lsub C.hx C.hb hd (k ls H locs hl hP hS)
theorem x_lmul {x y : Int64} (C : Ok κ own cc nL d) (hd : decode cc pc = .ok (.lmul, 1)) (k : GG κ (pc + 1) loc (.long (x * y) :: st) σ) : GG κ pc loc (.long y :: .long x :: st) σ := fun ls H locs hl hP hS => lv_lmul C.hx C.hb hd (k ls H locs hl hP hS)
theorem x_lxor {x y : Int64} (C : Ok κ own cc nL d) (hd : decode cc pc = .ok (.lxor, 1)) (k : GG κ (pc + 1) loc (.long (x ^^^ y) :: st) σ) : GG κ pc loc (.long y :: .long x :: st) σ := fun ls H locs hl hP hS => lv_lxor C.hx C.hb hd (k ls H locs hl hP hS)
theorem x_ldiv {x y : Int64} (C : Ok κ own cc nL d) (hne : ¬ y = 0) (hd : decode cc pc = .ok (.ldiv, 1)) (k : GG κ (pc + 1) loc (.long (x / y) :: st) σ) : GG κ pc loc (.long y :: .long x :: st) σ := fun ls H locs hl hP hS => lv_ldiv C.hx C.hb hd hne (k ls H locs hl hP hS)
theorem x_lrem {x y : Int64} (C : Ok κ own cc nL d) (hne : ¬ y = 0) (hd : decode cc pc = .ok (.lrem, 1)) (k : GG κ (pc + 1) loc (.long (x - x / y * y) :: st) σ) : GG κ pc loc (.long y :: .long x :: st) σ := fun ls H locs hl hP hS => lv_lrem C.hx C.hb hd hne (k ls H locs hl hP hS)
theorem x_ineg {x : Int32} (C : Ok κ own cc nL d) (hd : decode cc pc = .ok (.ineg, 1)) (k : GG κ (pc + 1) loc (.int (-x) :: st) σ) : GG κ pc loc (.int x :: st) σ := fun ls H locs hl hP hS => lv_ineg C.hx C.hb hd (k ls H locs hl hP hS)
theorem x_lneg {x : Int64} (C : Ok κ own cc nL d) (hd : decode cc pc = .ok (.lneg, 1)) (k : GG κ (pc + 1) loc (.long (-x) :: st) σ) : GG κ pc loc (.long x :: st) σ := fun ls H locs hl hP hS => lv_lneg C.hx C.hb hd (k ls H locs hl hP hS)
theorem x_i2l {x : Int32} (C : Ok κ own cc nL d) (hd : decode cc pc = .ok (.i2l, 1)) (k : GG κ (pc + 1) loc (.long x.toInt64 :: st) σ) : GG κ pc loc (.int x :: st) σ := fun ls H locs hl hP hS => lv_i2l C.hx C.hb hd rfl (k ls H locs hl hP hS)
theorem x_l2i {x : Int64} (C : Ok κ own cc nL d) (hd : decode cc pc = .ok (.l2i, 1)) (k : GG κ (pc + 1) loc (.int x.toInt32 :: st) σ) : GG κ pc loc (.long x :: st) σ := fun ls H locs hl hP hS => lv_l2i C.hx C.hb hd rfl (k ls H locs hl hP hS)
def ushr (x y : Int32) : Int32 := (x.toUInt32 >>> (y.toUInt32 &&& Int32.toUInt32 31)).toInt32
theorem x_iushr {x y : Int32} (C : Ok κ own cc nL d) (hd : decode cc pc = .ok (.iushr, 1)) (k : GG κ (pc + 1) loc (.int (ushr x y) :: st) σ) : GG κ pc loc (.int y :: .int x :: st) σ := fun ls H locs hl hP hS => lv_iushr C.hx C.hb hd rfl (k ls H locs hl hP hS)
theorem x_lcmp {x y : Int64} (C : Ok κ own cc nL d) (hd : decode cc pc = .ok (.lcmp, 1)) (k : GG κ (pc + 1) loc (.int (lg_cmp x y) :: st) σ) : GG κ pc loc (.long y :: .long x :: st) σ := fun ls H locs hl hP hS => W.lcmp C.hx C.hb hd (k ls H locs hl hP hS)
theorem x_dup {v : Value} (C : Ok κ own cc nL d) (hv : v.category = 1) (hd : decode cc pc = .ok (.dup, 1)) (k : GG κ (pc + 1) loc (v :: v :: st) σ) : GG κ pc loc (v :: st) σ := fun ls H locs hl hP hS => lv_dup C.hx C.hb hd hv (k ls H locs hl hP hS)
theorem x_dup2 {v w : Value} (C : Ok κ own cc nL d) (hv : v.category = 1) (hw : w.category = 1) (hd : decode cc pc = .ok (.dup2, 1)) (k : GG κ (pc + 1) loc (v :: w :: v :: w :: st) σ) : GG κ pc loc (v :: w :: st) σ := fun ls H locs hl hP hS => lv_dup2_11 C.hx C.hb hd hv hw (k ls H locs hl hP hS)
theorem x_dup2l {x : Int64} (C : Ok κ own cc nL d) (hd : decode cc pc = .ok (.dup2, 1)) (k : GG κ (pc + 1) loc (.long x :: .long x :: st) σ) : GG κ pc loc (.long x :: st) σ := fun ls H locs hl hP hS => lv_dup2_2 C.hx C.hb hd rfl (k ls H locs hl hP hS)
theorem x_if_eq {x : Int32} {off : Int} {tgt : Nat} (C : Ok κ own cc nL d) (hd : decode cc pc = .ok (.ifCond .eq off, 3)) (ht : (pc : Int) + off = (tgt : Int)) (kt : x = 0 → GG κ tgt loc st σ) (kf : ¬ (x = 0) → GG κ (pc + 3) loc st σ) : GG κ pc loc (.int x :: st) σ := fun ls H locs hl hP hS => lv_if_eq C.hx C.hb hd ht (fun h => kt h ls H locs hl hP hS) (fun h => kf h ls H locs hl hP hS)
theorem x_icmp_eq {x y : Int32} {off : Int} {tgt : Nat} (C : Ok κ own cc nL d) (hd : decode cc pc = .ok (.if_icmp .eq off, 3)) (ht : (pc : Int) + off = (tgt : Int)) (kt : x = y → GG κ tgt loc st σ) (kf : ¬ (x = y) → GG κ (pc + 3) loc st σ) : GG κ pc loc (.int y :: .int x :: st) σ := fun ls H locs hl hP hS => lv_icmp_eq C.hx C.hb hd ht (fun h => kt h ls H locs hl hP hS) (fun h => kf h ls H locs hl hP hS)
theorem x_if_ne {x : Int32} {off : Int} {tgt : Nat} (C : Ok κ own cc nL d) (hd : decode cc pc = .ok (.ifCond .ne off, 3)) (ht : (pc : Int) + off = (tgt : Int)) (kt : ¬ x = 0 → GG κ tgt loc st σ) (kf : x = 0 → GG κ (pc + 3) loc st σ) : GG κ pc loc (.int x :: st) σ := fun ls H locs hl hP hS => lv_if_ne C.hx C.hb hd ht (fun h => kt h ls H locs hl hP hS) (fun h => kf h ls H locs hl hP hS)
theorem x_icmp_ne {x y : Int32} {off : Int} {tgt : Nat} (C : Ok κ own cc nL d) (hd : decode cc pc = .ok (.if_icmp .ne off, 3)) (ht : (pc : Int) + off = (tgt : Int)) (kt : ¬ x = y → GG κ tgt loc st σ) (kf : x = y → GG κ (pc + 3) loc st σ) : GG κ pc loc (.int y :: .int x :: st) σ := fun ls H locs hl hP hS => lv_icmp_ne C.hx C.hb hd ht (fun h => kt h ls H locs hl hP hS) (fun h => kf h ls H locs hl hP hS)
theorem x_if_lt {x : Int32} {off : Int} {tgt : Nat} (C : Ok κ own cc nL d) (hd : decode cc pc = .ok (.ifCond .lt off, 3)) (ht : (pc : Int) + off = (tgt : Int)) (kt : x < 0 → GG κ tgt loc st σ) (kf : ¬ (x < 0) → GG κ (pc + 3) loc st σ) : GG κ pc loc (.int x :: st) σ := fun ls H locs hl hP hS => lv_if_lt C.hx C.hb hd ht (fun h => kt h ls H locs hl hP hS) (fun h => kf h ls H locs hl hP hS)
theorem x_icmp_lt {x y : Int32} {off : Int} {tgt : Nat} (C : Ok κ own cc nL d) (hd : decode cc pc = .ok (.if_icmp .lt off, 3)) (ht : (pc : Int) + off = (tgt : Int)) (kt : x < y → GG κ tgt loc st σ) (kf : ¬ (x < y) → GG κ (pc + 3) loc st σ) : GG κ pc loc (.int y :: .int x :: st) σ := fun ls H locs hl hP hS => lv_icmp_lt C.hx C.hb hd ht (fun h => kt h ls H locs hl hP hS) (fun h => kf h ls H locs hl hP hS)
theorem x_if_ge {x : Int32} {off : Int} {tgt : Nat} (C : Ok κ own cc nL d) (hd : decode cc pc = .ok (.ifCond .ge off, 3)) (ht : (pc : Int) + off = (tgt : Int)) (kt : 0 ≤ x → GG κ tgt loc st σ) (kf : ¬ (0 ≤ x) → GG κ (pc + 3) loc st σ) : GG κ pc loc (.int x :: st) σ := fun ls H locs hl hP hS => lv_if_ge C.hx C.hb hd ht (fun h => kt h ls H locs hl hP hS) (fun h => kf h ls H locs hl hP hS)
theorem x_icmp_ge {x y : Int32} {off : Int} {tgt : Nat} (C : Ok κ own cc nL d) (hd : decode cc pc = .ok (.if_icmp .ge off, 3)) (ht : (pc : Int) + off = (tgt : Int)) (kt : y ≤ x → GG κ tgt loc st σ) (kf : ¬ (y ≤ x) → GG κ (pc + 3) loc st σ) : GG κ pc loc (.int y :: .int x :: st) σ := fun ls H locs hl hP hS => lv_icmp_ge C.hx C.hb hd ht (fun h => kt h ls H locs hl hP hS) (fun h => kf h ls H locs hl hP hS)
theorem x_if_gt {x : Int32} {off : Int} {tgt : Nat} (C : Ok κ own cc nL d) (hd : decode cc pc = .ok (.ifCond .gt off, 3)) (ht : (pc : Int) + off = (tgt : Int)) (kt : 0 < x → GG κ tgt loc st σ) (kf : ¬ (0 < x) → GG κ (pc + 3) loc st σ) : GG κ pc loc (.int x :: st) σ := fun ls H locs hl hP hS => lv_if_gt C.hx C.hb hd ht (fun h => kt h ls H locs hl hP hS) (fun h => kf h ls H locs hl hP hS)
theorem x_icmp_gt {x y : Int32} {off : Int} {tgt : Nat} (C : Ok κ own cc nL d) (hd : decode cc pc = .ok (.if_icmp .gt off, 3)) (ht : (pc : Int) + off = (tgt : Int)) (kt : y < x → GG κ tgt loc st σ) (kf : ¬ (y < x) → GG κ (pc + 3) loc st σ) : GG κ pc loc (.int y :: .int x :: st) σ := fun ls H locs hl hP hS => lv_icmp_gt C.hx C.hb hd ht (fun h => kt h ls H locs hl hP hS) (fun h => kf h ls H locs hl hP hS)
theorem x_if_le {x : Int32} {off : Int} {tgt : Nat} (C : Ok κ own cc nL d) (hd : decode cc pc = .ok (.ifCond .le off, 3)) (ht : (pc : Int) + off = (tgt : Int)) (kt : x ≤ 0 → GG κ tgt loc st σ) (kf : ¬ (x ≤ 0) → GG κ (pc + 3) loc st σ) : GG κ pc loc (.int x :: st) σ := fun ls H locs hl hP hS => lv_if_le C.hx C.hb hd ht (fun h => kt h ls H locs hl hP hS) (fun h => kf h ls H locs hl hP hS)
theorem x_icmp_le {x y : Int32} {off : Int} {tgt : Nat} (C : Ok κ own cc nL d) (hd : decode cc pc = .ok (.if_icmp .le off, 3)) (ht : (pc : Int) + off = (tgt : Int)) (kt : x ≤ y → GG κ tgt loc st σ) (kf : ¬ (x ≤ y) → GG κ (pc + 3) loc st σ) : GG κ pc loc (.int y :: .int x :: st) σ := fun ls H locs hl hP hS => lv_icmp_le C.hx C.hb hd ht (fun h => kt h ls H locs hl hP hS) (fun h => kf h ls H locs hl hP hS)
theorem x_goto {off : Int} {tgt : Nat} (C : Ok κ own cc nL d) (hd : decode cc pc = .ok (.goto off, 3)) (ht : (pc : Int) + off = (tgt : Int)) (k : GG κ tgt loc st σ) : GG κ pc loc st σ := fun ls H locs hl hP hS => lv_goto C.hx C.hb hd ht (k ls H locs hl hP hS)
theorem x_ifnonnull {x : Nat} {off : Int} {tgt : Nat} (C : Ok κ own cc nL d) (hd : decode cc pc = .ok (.ifnonnull off, 3)) (ht : (pc : Int) + off = (tgt : Int)) (k : GG κ tgt loc st σ) : GG κ pc loc (.ref x :: st) σ := fun ls H locs hl hP hS => lv_ifnonnull C.hx C.hb hd ht (k ls H locs hl hP hS)
theorem x_ifnull {x : Nat} {off : Int} (C : Ok κ own cc nL d) (hd : decode cc pc = .ok (.ifnull off, 3)) (k : GG κ (pc + 3) loc st σ) : GG κ pc loc (.ref x :: st) σ := fun ls H locs hl hP hS => lv_ifnull C.hx C.hb hd (k ls H locs hl hP hS)
theorem x_ifnullN {off : Int} {tgt : Nat} (C : Ok κ own cc nL d) (hd : decode cc pc = .ok (.ifnull off, 3)) (ht : (pc : Int) + off = (tgt : Int)) (k : GG κ tgt loc st σ) : GG κ pc loc (.null :: st) σ := fun ls H locs hl hP hS => lv_ifnullN C.hx C.hb hd ht (k ls H locs hl hP hS)
theorem x_ifnonnullN {off : Int} (C : Ok κ own cc nL d) (hd : decode cc pc = .ok (.ifnonnull off, 3)) (k : GG κ (pc + 3) loc st σ) : GG κ pc loc (.null :: st) σ := fun ls H locs hl hP hS => lv_ifnonnullN C.hx C.hb hd (k ls H locs hl hP hS)
/-- fields -/
theorem x_get {a ci j idx N : Nat} {R : String} {T : u_T} {v : Value} (C : Ok κ own cc nL d) (hc : vwCl[ci]? = some (R, T, N)) (hin : ∀ w ∈ u_ws R T N, w ∈ gtbl) (hk : kd a = ci) (hci : ci < 10) (ha : a < NC) (hj : j < N) (hln : ln a = N) (hw : Cond.fieldLink own idx (T j).1 (T j).2.1 (T j).2.2.1 ∈ gtbl) (hv : fv (kad κ) ci (σ.1 a) (σ.2.1 a) (mrN σ.2.2 a) j = v) (hd : decode cc pc = .ok (.getfield idx, 3)) (k : GG κ (pc + 3) loc (v :: st) σ) : GG κ pc loc (.ref (kad κ a) :: st) σ := fun ls H locs hl hP hS =>
  va_get (ci := ci) C.hx C.hb C.hts hin C.hown C.hK hP a ((wsN_at ha).trans (by rw [cellN_obj hk hci])) hc j hj (C.hts _ hw) (fun _ h => h) (by rw [fvs_at (by rw [hln]; exact hj), hv]) hd (k ls H locs hl hP hS)
theorem fv_i {ad : Nat → Nat} {ci : Nat} {f : Nat → Int32} {g : Nat → Int64} {r : Nat → Nat} {j : Nat} (h : ftk ci j = 0) : fv ad ci f g r j = .int (f j) := by simp [fv, h]
theorem fv_l {ad : Nat → Nat} {ci : Nat} {f : Nat → Int32} {g : Nat → Int64} {r : Nat → Nat} {j : Nat} (h : ftk ci j = 1) : fv ad ci f g r j = .long (g j) := by simp [fv, h]
theorem fv_r {ad : Nat → Nat} {ci : Nat} {f : Nat → Int32} {g : Nat → Int64} {r : Nat → Nat} {j b : Nat} (h : ftk ci j = 2) (hr : r j = b) : fv ad ci f g r j = .ref (ad b) := by simp [fv, h, hr]
theorem x_putI {a ci j idx N : Nat} {R : String} {T : u_T} {ty0 : Nat → FieldType} {v : Int32} (C : Ok κ own cc nL d) (hc : vwCl[ci]? = some (R, T, N)) (hin : ∀ w ∈ u_ws R T N, w ∈ gtbl) (hty : ∀ k, k < N → parseFieldDescriptor (T k).2.2.1 = some (ty0 k)) (hnm : ∀ a, a < N → ∀ b, b < N → a ≠ b → (T a).2.1 ≠ (T b).2.1) (hk : kd a = ci) (hci : ci < 10) (ha : a < NC) (hj : j < N) (hln : ln a = N) (hft : ftk ci j = 0) (hfin : (T j).2.2.2 = false) (hn : narrow (ty0 j) (.int v) = .int v) (hfit : fits (ty0 j) (.int v) = true) (hw : Cond.fieldLink own idx (T j).1 (T j).2.1 (T j).2.2.1 ∈ gtbl) (hd : decode cc pc = .ok (.putfield idx, 3)) (k : GG κ (pc + 3) loc st (wI σ a j v)) : GG κ pc loc (.int v :: .ref (kad κ a) :: st) σ := fun ls H locs hl hP hS => by
  refine va_put (ci := ci) C.hx C.hb C.hts hin ty0 hty hnm C.hown C.hK hP C.hD hS a ((wsN_at ha).trans (by rw [cellN_obj hk hci])) hc j hj (C.hts _ hw) (fun _ h => h) hfin (hty j hj) hn hfit (by rw [fvs_len, hln]; exact hj) hd (fun H1 locs1 hP1 hD1 hS1 => k ls H1 locs1 hl ?_ hS1)
  rw [wsN_set (σ' := wI σ a j v) ha (fun q hq => cellN_wI_ne q hq) ?_] at hP1
  · exact hP1
  · rw [cellN_obj hk hci]
    congr 2
    refine (fvs_set (by rw [hln]; exact hj) (fun q hq => ?_) ?_).symm
    · show fv _ _ (up2 σ.1 a j v a) _ _ _ = _
      rw [up2_self]
      simp [fv, hq] <;> rfl
    · show fv _ _ (up2 σ.1 a j v a) _ _ _ = _
      rw [up2_self, fv_i hft]
      simp
theorem x_putL {a ci j idx N : Nat} {R : String} {T : u_T} {ty0 : Nat → FieldType} {v : Int64} (C : Ok κ own cc nL d) (hc : vwCl[ci]? = some (R, T, N)) (hin : ∀ w ∈ u_ws R T N, w ∈ gtbl) (hty : ∀ k, k < N → parseFieldDescriptor (T k).2.2.1 = some (ty0 k)) (hnm : ∀ a, a < N → ∀ b, b < N → a ≠ b → (T a).2.1 ≠ (T b).2.1) (hk : kd a = ci) (hci : ci < 10) (ha : a < NC) (hj : j < N) (hln : ln a = N) (hft : ftk ci j = 1) (hfin : (T j).2.2.2 = false) (hn : narrow (ty0 j) (.long v) = .long v) (hfit : fits (ty0 j) (.long v) = true) (hw : Cond.fieldLink own idx (T j).1 (T j).2.1 (T j).2.2.1 ∈ gtbl) (hd : decode cc pc = .ok (.putfield idx, 3)) (k : GG κ (pc + 3) loc st (wL σ a j v)) : GG κ pc loc (.long v :: .ref (kad κ a) :: st) σ := fun ls H locs hl hP hS => by
  refine va_put (ci := ci) C.hx C.hb C.hts hin ty0 hty hnm C.hown C.hK hP C.hD hS a ((wsN_at ha).trans (by rw [cellN_obj hk hci])) hc j hj (C.hts _ hw) (fun _ h => h) hfin (hty j hj) hn hfit (by rw [fvs_len, hln]; exact hj) hd (fun H1 locs1 hP1 hD1 hS1 => k ls H1 locs1 hl ?_ hS1)
  rw [wsN_set (σ' := wL σ a j v) ha (fun q hq => cellN_wL_ne q hq) ?_] at hP1
  · exact hP1
  · rw [cellN_obj hk hci]
    congr 2
    refine (fvs_set (by rw [hln]; exact hj) (fun q hq => ?_) ?_).symm
    · show fv _ _ _ (up2 σ.2.1 a j v a) _ _ = _
      rw [up2_self]
      simp [fv, hq] <;> rfl
    · show fv _ _ _ (up2 σ.2.1 a j v a) _ _ = _
      rw [up2_self, fv_l hft]
      simp
/-- arrays -/
theorem x_iald {a : Nat} {i : Int32} (C : Ok κ own cc nL d) (hk : kd a = 10) (ha : a < NC) (hi : vp_in i (ln a)) (hd : decode cc pc = .ok (.iaload, 1)) (k : GG κ (pc + 1) loc (.int (σ.1 a i.toNatClampNeg) :: st) σ) : GG κ pc loc (.int i :: .ref (kad κ a) :: st) σ := fun ls H locs hl hP hS =>
  va_iald C.hx C.hb C.hK hP a 0 ((wsN_at ha).trans (by rw [cellN_i hk])) rfl hi hd (k ls H locs hl hP hS)
theorem x_zald {a : Nat} {i : Int32} (C : Ok κ own cc nL d) (hk : kd a = 11) (ha : a < NC) (hi : vp_in i (ln a)) (hd : decode cc pc = .ok (.baload, 1)) (k : GG κ (pc + 1) loc (.int (σ.1 a i.toNatClampNeg) :: st) σ) : GG κ pc loc (.int i :: .ref (kad κ a) :: st) σ := fun ls H locs hl hP hS =>
  va_zald C.hx C.hb C.hK hP a 1 ((wsN_at ha).trans (by rw [cellN_z hk])) rfl hi hd (k ls H locs hl hP hS)
theorem x_lald {a : Nat} {i : Int32} (C : Ok κ own cc nL d) (hk : kd a = 12) (ha : a < NC) (hi : vp_in i (ln a)) (hd : decode cc pc = .ok (.laload, 1)) (k : GG κ (pc + 1) loc (.long (σ.2.1 a i.toNatClampNeg) :: st) σ) : GG κ pc loc (.int i :: .ref (kad κ a) :: st) σ := fun ls H locs hl hP hS =>
  va_lald C.hx C.hb C.hK hP a 2 ((wsN_at ha).trans (by rw [cellN_l hk])) rfl hi hd (k ls H locs hl hP hS)
theorem x_aald {a b c : Nat} {i : Int32} {ty : FieldType} (C : Ok κ own cc nL d) (hk : kd a = c) (hc : 12 < c) (hty : (tysL (kca κ))[c - 10]? = some (kca κ (c - 10), ty)) (href : ty.isReference = true) (ha : a < NC) (hi : vp_in i (ln a)) (hb : mrN σ.2.2 a i.toNatClampNeg = b) (hd : decode cc pc = .ok (.aaload, 1)) (k : GG κ (pc + 1) loc (.ref (kad κ b) :: st) σ) : GG κ pc loc (.int i :: .ref (kad κ a) :: st) σ := fun ls H locs hl hP hS => by
  have hlt : i.toNatClampNeg < ln a := Nat.not_le.mp fun q => hi (Or.inr q)
  have hcell := hP a _ ((wsN_at ha).trans (by rw [cellN_q hk hc]))
  have h1 : H[kad κ a]? = some (vp_cell (kca κ (c - 10)) (ln a, .inr (.inr (.inr (.inr (fun j => some (kad κ (mrN σ.2.2 a j)))))))) := hcell
  refine W.aald (v := .ref (kad κ b)) (ty := ty) C.hx C.hb h1 ((C.hK.2 (c - 10) _ hty).1 (ln a) (fun j => va_rf (some (kad κ (mrN σ.2.2 a j))))) href (fun q => by cases q) (by show ¬ (i < 0 ∨ (arrV _ _ _).slots.size ≤ _); rw [arrV_size]; exact hi) (by show (arrV _ _ _).slots[_]? = _; rw [arrV_read _ _ hlt]; show some (va_rf (some (kad κ (mrN σ.2.2 a i.toNatClampNeg)))) = _; rw [hb]; rfl) rfl rfl hd (k ls H locs hl hP hS)
theorem x_iast {a : Nat} {i v : Int32} (C : Ok κ own cc nL d) (hk : kd a = 10) (ha : a < NC) (hi : vp_in i (ln a)) (hd : decode cc pc = .ok (.iastore, 1)) (k : GG κ (pc + 1) loc st (wI σ a i.toNatClampNeg v)) : GG κ pc loc (.int v :: .int i :: .ref (kad κ a) :: st) σ := fun ls H locs hl hP hS => by
  refine va_iast C.hx C.hb C.hK hP C.hD hS a 0 ((wsN_at ha).trans (by rw [cellN_i hk])) rfl hi hd (fun H1 locs1 hP1 hD1 hS1 => k ls H1 locs1 hl ?_ hS1)
  rw [wsN_set (σ' := wI σ a i.toNatClampNeg v) ha (fun q hq => cellN_wI_ne q hq) ?_] at hP1
  · exact hP1
  · rw [cellN_i hk]
    show _ = (Sum.inl (_, _, Sum.inl (upd _ _ _)) : va_E)
    congr 4
    exact up2_self
theorem x_zast {a : Nat} {i v : Int32} (C : Ok κ own cc nL d) (hk : kd a = 11) (ha : a < NC) (hi : vp_in i (ln a)) (hv : v = 0 ∨ v = 1) (hd : decode cc pc = .ok (.bastore, 1)) (k : GG κ (pc + 1) loc st (wI σ a i.toNatClampNeg v)) : GG κ pc loc (.int v :: .int i :: .ref (kad κ a) :: st) σ := fun ls H locs hl hP hS => by
  refine va_zast C.hx C.hb C.hK hP C.hD hS a 1 ((wsN_at ha).trans (by rw [cellN_z hk])) rfl hi hd (fun H1 locs1 hP1 hD1 hS1 => k ls H1 locs1 hl ?_ hS1)
  have hnar : vp_nar .boolean v = v := by rcases hv with rfl | rfl <;> decide
  rw [hnar, wsN_set (σ' := wI σ a i.toNatClampNeg v) ha (fun q hq => cellN_wI_ne q hq) ?_] at hP1
  · exact hP1
  · rw [cellN_z hk]
    show _ = (Sum.inl (_, _, Sum.inl (upd _ _ _)) : va_E)
    congr 4
    exact up2_self
theorem x_last {a : Nat} {i : Int32} {v : Int64} (C : Ok κ own cc nL d) (hk : kd a = 12) (ha : a < NC) (hi : vp_in i (ln a)) (hd : decode cc pc = .ok (.lastore, 1)) (k : GG κ (pc + 1) loc st (wL σ a i.toNatClampNeg v)) : GG κ pc loc (.long v :: .int i :: .ref (kad κ a) :: st) σ := fun ls H locs hl hP hS => by
  refine va_last C.hx C.hb C.hK hP C.hD hS a 2 ((wsN_at ha).trans (by rw [cellN_l hk])) rfl hi hd (fun H1 locs1 hP1 hD1 hS1 => k ls H1 locs1 hl ?_ hS1)
  rw [wsN_set (σ' := wL σ a i.toNatClampNeg v) ha (fun q hq => cellN_wL_ne q hq) ?_] at hP1
  · exact hP1
  · rw [cellN_l hk]
    show _ = (Sum.inl (_, _, Sum.inr (Sum.inl (vp_updL _ _ _))) : va_E)
    congr 5
    exact up2_self
/-- the array "stored": a sentence comes to a place -/
theorem x_sast {b : Nat} {i : Int32} (C : Ok κ own cc nL d) (hkb : kd b = 0) (hb : b < NC) (hi : vp_in i 4) (hd : decode cc pc = .ok (.aastore, 1)) (k : GG κ (pc + 1) loc st (wS σ i.toNatClampNeg b)) : GG κ pc loc (.ref (kad κ b) :: .int i :: .ref (kad κ 4) :: st) σ := fun ls H locs hl hP hS => by
  refine va_astq C.hx C.hb C.hK hP C.hD hS 4 5 b 0 (r := (RX0, TX0, 5)) (n := 4) ((wsN_at (k := 4) (by decide)).trans (by rw [cellN_q (c := 15) rfl (by decide)]; rfl)) rfl ((wsN_at hb).trans (by rw [cellN_obj hkb (by decide)])) rfl hi hd (fun H1 locs1 hP1 hD1 hS1 => k ls H1 locs1 hl ?_ hS1)
  rw [wsN_set (σ' := wS σ i.toNatClampNeg b) (k := 4) (by decide) (fun q hq => cellN_wS_ne q hq) ?_] at hP1
  · exact hP1
  · rw [cellN_q (c := 15) rfl (by decide)]
    show _ = (Sum.inl (_, _, Sum.inr (Sum.inr (Sum.inr (Sum.inr (va_up _ _ _))))) : va_E)
    congr 7
    funext q
    by_cases hq : q = i.toNatClampNeg
    · simp [mrN, wS, va_up, hq]
    · simp [mrN, wS, va_up, hq]
/-- the table PLACES -/
theorem x_plc {i : Int32} (C : Ok κ own cc nL d) (hw : Cond.fieldLink own 51 RX4 "PLACES" "[I" ∈ gtbl) (hd : decode cc pc = .ok (.getstatic 51, 3)) (k : ∀ t : Nat, va_T .int t 7 (fun j => .int (plv j)) (kA κ) (kS κ) (kS κ).heap → GG κ (pc + 3) loc (.ref t :: st) σ) : GG κ pc loc st σ := fun ls H locs hl hP hS => by
  obtain ⟨-, -, t, hZ, hT⟩ := C.kn
  exact va_gets C.hx C.hb hZ hS C.hown (C.hts _ hw) (fun _ h => h) hd (k t hT ls H locs hl hP hS)
theorem x_pli {i : Int32} {t : Nat} (C : Ok κ own cc nL d) (hT : va_T .int t 7 (fun j => .int (plv j)) (kA κ) (kS κ) (kS κ).heap) (hi : vp_in i 7) (hd : decode cc pc = .ok (.iaload, 1)) (k : GG κ (pc + 1) loc (.int (plv i.toNatClampNeg) :: st) σ) : GG κ pc loc (.int i :: .ref t :: st) σ := fun ls H locs hl hP hS =>
  va_ti C.hx C.hb hT hS hi rfl hd (k ls H locs hl hP hS)
end XR
end
section
/-! CONTRACTS over the flat store: a method comes back with its answer and a store of which K says what is known; nothing outside the store changes -/
def inAd (ad : Nat → Nat) : Nat → Prop := fun q => ∃ k, k < NC ∧ q = ad k
def Bw (ad : Nat → Nat) (D : va_G) (ca : Nat → ClassId) (σ : St) (t : State) : Prop := va_P D vwCl (wsN ad ca σ) t.heap
def Pw (ad : Nat → Nat) (D : va_G) (ca : Nat → ClassId) (av : List Value) (σ : St) : Array Value → State → Prop := va_Pc av (fun U => va_P D vwCl (wsN ad ca σ) U.heap ∧ Kn D ca (inAd ad) U)
def CtI (l : Launch) (ad : Nat → Nat) (D : va_G) (ca : Nat → ClassId) (y : MethodName) (cc : ByteArray) (nL : Nat) (ty : FieldType) (d : Nat) (av : List Value) (σ : St) (K : Int32 → St → Prop) : Prop :=
  Met l y (Cond.code y cc nL (some ty) :: gtbl) (rmD d) (Pw ad D ca av σ) (va_Qi K (Bw ad D ca) (inAd ad)) 0 0 (inAd ad)
def CtL (l : Launch) (ad : Nat → Nat) (D : va_G) (ca : Nat → ClassId) (y : MethodName) (cc : ByteArray) (nL : Nat) (d : Nat) (av : List Value) (σ : St) (K : Int64 → St → Prop) : Prop :=
  Met l y (Cond.code y cc nL (some .long) :: gtbl) (rmD d) (Pw ad D ca av σ) (va_Ql K (Bw ad D ca) (inAd ad)) 0 0 (inAd ad)
def CtV (l : Launch) (ad : Nat → Nat) (D : va_G) (ca : Nat → ClassId) (y : MethodName) (cc : ByteArray) (nL : Nat) (d : Nat) (av : List Value) (σ : St) (K : St → Prop) : Prop :=
  Met l y (Cond.code y cc nL none :: gtbl) (rmD d) (Pw ad D ca av σ) (va_Qv K (Bw ad D ca) (inAd ad)) 0 0 (inAd ad)
def CtQ (l : Launch) (ad : Nat → Nat) (D : va_G) (ca : Nat → ClassId) (y : MethodName) (cc : ByteArray) (nL : Nat) (C : String) (d : Nat) (av : List Value) (σ : St) (K : Option Nat → St → Prop) : Prop :=
  Met l y (Cond.code y cc nL (some (.object C)) :: gtbl) (rmD d) (Pw ad D ca av σ) (va_Qq (fun r σ' => ∃ q : Option Nat, r = q.map ad ∧ K q σ') (Bw ad D ca) (inAd ad)) 0 0 (inAd ad)
theorem Kn_blind {ad : Nat → Nat} {D : va_G} {ca : Nat → ClassId} {av : List Value} {σ : St} : FrameBlind (Pw ad D ca av σ) := by
  intro a U g mk q
  obtain ⟨q0, qP, qK, ⟨n1, n2, n3⟩, t, qZ, qT⟩ := q
  exact ⟨q0, qP, va_K.moved (u := U) (U := U.calling g mk a) (Vm.Alike.refl U.vm) qK, ⟨va_Nw.same rfl (u := U) (U := U.calling g mk a) rfl n1, va_Nw.same rfl (u := U) (U := U.calling g mk a) rfl n2, va_Nw.same rfl (u := U) (U := U.calling g mk a) rfl n3⟩, t, va_Z.moved (u := U) (U := U.calling g mk a) (Vm.Alike.refl U.vm) qZ, va_T.moved (u := U) (U := U.calling g mk a) (Vm.Alike.refl U.vm) qT⟩
theorem Kn_moved {D : va_G} {ca : Nat → ClassId} {A B : Nat → Prop} {s U : State} {locs : List Loc} (h : Kn D ca A s) (hS : va_S A s.heap U.heap locs) (hW : s.WarmedH U.vm) (hAB : ∀ q, B q → A q) : Kn D ca B U := by
  obtain ⟨qK, ⟨n1, n2, n3⟩, t, qZ, qT⟩ := h
  exact ⟨va_K.moved hW.alike qK, ⟨va_Nw.warmM hW n1, va_Nw.warmM hW n2, va_Nw.warmM hW n3⟩, t, ((qZ.kept hS.2.1).moved hW.alike).narrow hAB, ((qT.kept hS.2.1).moved hW.alike).narrow hAB⟩
/-- the room of the table's words -/
theorem good_gt {c : Cond} (h : c ∈ gtbl) : GoodIn gtbl (c :: gtbl) := by
  intro w hw
  have hm : w ∈ gtbl := by
    rcases List.mem_cons.mp hw with rfl | h1
    · exact h
    · exact h1
  exact ⟨hm, good_of_word (List.mem_filter.mp hm).2⟩
/-- a method's frame, as the judgement takes it -/
def mkK (p : Program) (l : Launch) (e : Env) (R : Room) (s : State) (m : MethodId) (args : Array Value) (below : List Frame) (meth : Method) (c : Code) (Q : State → Prop) (nL : Nat) (A : Nat → Prop) (ad : Nat → Nat) (D : va_G) (ca : Nat → ClassId) : Kap := ((p, l, e, R, s, m), (args, below, meth, c, Q), (nL, 0, 0, A), (ad, D, ca))
/-- what the end of a method that answers an int (or a boolean) is -/
def RetI (κ : Kap) (cc : ByteArray) (ty : FieldType) (K : Int32 → St → Prop) : Prop := ∀ (pc : Nat) (loc : List (Nat × Value)) (v : Int32) (σ : St), decode cc pc = .ok (.ireturn, 1) → narrow ty (.int v) = .int v → K v σ → GG κ pc loc [.int v] σ
def RetL (κ : Kap) (cc : ByteArray) (K : Int64 → St → Prop) : Prop := ∀ (pc : Nat) (loc : List (Nat × Value)) (v : Int64) (σ : St), decode cc pc = .ok (.lreturn, 1) → K v σ → GG κ pc loc [.long v] σ
def RetV (κ : Kap) (cc : ByteArray) (K : St → Prop) : Prop := ∀ (pc : Nat) (loc : List (Nat × Value)) (σ : St), decode cc pc = .ok (.return_, 1) → K σ → GG κ pc loc [] σ
def RetQ (κ : Kap) (cc : ByteArray) (K : Option Nat → St → Prop) : Prop := (∀ (pc : Nat) (loc : List (Nat × Value)) (k : Nat) (σ : St), decode cc pc = .ok (.areturn, 1) → K (some k) σ → GG κ pc loc [.ref (kad κ k)] σ) ∧ (∀ (pc : Nat) (loc : List (Nat × Value)) (σ : St), decode cc pc = .ok (.areturn, 1) → K none σ → GG κ pc loc [.null] σ)
/-- a method's contract out of its walk, for a class of the JDK's too whose other methods are rows of the natives' table -/
theorem ofWF {l : Launch} {y : MethodName} {ws ws' : List Cond} {rm : Room} {Pc : Array Value → State → Prop} {Qc : Array Value → State → Outcome → State → Prop} {mc ms : Nat} {free : Addr → Prop} {cc : ByteArray} {maxL : Nat} {ret : Option FieldType}
    (hy : plainFor y = true) (hw : ws = Cond.code y cc maxL ret :: ws')
    (body : ∀ p e s m args below meth c s₁, BodyLoose p l y (headSpec ws rm) cc maxL ret e s m args below meth c s₁ → c.maxLocals = maxL → Pc args s →
      W p l e (headSpec ws rm).room s m args below meth c s.heap [] 0 0 (MQ below Qc args s mc ms free) (entryFrame m args maxL)) : Met l y ws rm Pc Qc mc ms free := by
  refine MetFree.of_bodySF (code := cc) (maxLocals := maxL) (ret := ret) hy (fun args s m h hn => ?_) (fun p e s m args below meth c s₁ B hml hP _ => ?_)
  · obtain ⟨meth, c, h1, h2, h3, h4, h5, h6, -, -⟩ := Cond.code_spec hn (atoms_spec (ws := ws) h _ (by rw [hw]; exact List.mem_cons_self))
    exact ⟨meth, c, h1, h2, h3, h4, h5, h6⟩
  · obtain ⟨t, a1, o, b1, b2, b3⟩ := body p e s m args below meth c s₁ B hml hP s₁ (by rw [B.state]; rfl) (Stand.of_body B)
    exact ⟨t, o, a1, b1, b2, ⟨b3.1, b3.2⟩⟩
section CT
variable {l : Launch} {ad : Nat → Nat} {D : va_G} {ca : Nat → ClassId} {y : MethodName} {cc : ByteArray} {nL d : Nat} {av : (Nat → Nat) → List Value} {σ : St}
theorem Ct_ok {p : Program} {e : Env} {s : State} {m : MethodId} {args : Array Value} {below : List Frame} {meth : Method} {c : Code} {s₁ : State} {ret : Option FieldType} (had : adOk ad) (Q : State → Prop) (B : BodyLoose p l y (headSpec (Cond.code y cc nL ret :: gtbl) (rmD d)) cc nL ret e s m args below meth c s₁) (hml : c.maxLocals = nL) (hKn : Kn D ca (inAd ad) s) : Ok (mkK p l e (rmD d) s m args below meth c Q nL (inAd ad) ad D ca) y.cls cc nL d := by
  have hts := atoms_spec (ws := Cond.code y cc nL ret :: gtbl) B.pre
  exact ⟨B.exec, B.bytes, ⟨hml, rfl⟩, findClass_of_methodNamed B.named, fun w h => hts w (List.mem_cons_of_mem _ h), hKn, had, fun k hk => ⟨k, hk, rfl⟩, ⟨Nat.le_refl _, Nat.le_refl _⟩, Nat.le_refl _, Nat.le_refl _⟩
theorem CtI_of {ty : FieldType} {K : Int32 → St → Prop} (hy : plainFor y = true) (had : adOk ad) (hav : (lg_sl (av ad)).length ≤ nL)
    (body : ∀ κ : Kap, Ok κ y.cls cc nL d → RetI κ cc ty K → GG κ 0 (lv_args 0 (av (kad κ))) [] σ) : CtI l ad D ca y cc nL ty d (av ad) σ K := by
  refine ofWF (cc := cc) (maxL := nL) (ret := some ty) hy rfl ?_
  intro p e s m args below meth c s₁ B hml hv
  obtain ⟨rfl, hP, hKn⟩ := hv
  have hr := B.returns
  have hlocks := B.notSynchronized
  have h := body (mkK p l e (rmD d) s m (av ad).toArray below meth c (MQ below (va_Qi K (Bw ad D ca) (inAd ad)) (av ad).toArray s 0 0 (inAd ad)) nL (inAd ad) ad D ca) (Ct_ok had _ B hml hKn) (fun pc loc v σ' hd hn hk ls H locs hl hP hS => W.zret (Qc := va_Qi K (Bw ad D ca) (inAd ad)) B.exec B.bytes hr hn (fun t ht hW => ⟨⟨v, σ', rfl, hk, by show va_P _ _ _ t.heap; rw [ht]; exact hP⟩, hS.F ht⟩) hS.2.2 hd)
  have hl := lv_entry (av ad) (n := nL) hav
  rw [lg_entry_eq]
  exact h _ _ _ hl hP va_S.rf
theorem CtL_of {K : Int64 → St → Prop} (hy : plainFor y = true) (had : adOk ad) (hav : (lg_sl (av ad)).length ≤ nL)
    (body : ∀ κ : Kap, Ok κ y.cls cc nL d → RetL κ cc K → GG κ 0 (lv_args 0 (av (kad κ))) [] σ) : CtL l ad D ca y cc nL d (av ad) σ K := by
  refine ofWF (cc := cc) (maxL := nL) (ret := some .long) hy rfl ?_
  intro p e s m args below meth c s₁ B hml hv
  obtain ⟨rfl, hP, hKn⟩ := hv
  have hr := B.returns
  have hlocks := B.notSynchronized
  have h := body (mkK p l e (rmD d) s m (av ad).toArray below meth c (MQ below (va_Ql K (Bw ad D ca) (inAd ad)) (av ad).toArray s 0 0 (inAd ad)) nL (inAd ad) ad D ca) (Ct_ok had _ B hml hKn) (fun pc loc v σ' hd hk ls H locs hl hP hS => W.lret (Qc := va_Ql K (Bw ad D ca) (inAd ad)) B.exec B.bytes hr (fun t ht hW => ⟨⟨v, σ', rfl, hk, by show va_P _ _ _ t.heap; rw [ht]; exact hP⟩, hS.F ht⟩) hS.2.2 hd)
  have hl := lv_entry (av ad) (n := nL) hav
  rw [lg_entry_eq]
  exact h _ _ _ hl hP va_S.rf
theorem CtV_of {K : St → Prop} (hy : plainFor y = true) (had : adOk ad) (hav : (lg_sl (av ad)).length ≤ nL)
    (body : ∀ κ : Kap, Ok κ y.cls cc nL d → RetV κ cc K → GG κ 0 (lv_args 0 (av (kad κ))) [] σ) : CtV l ad D ca y cc nL d (av ad) σ K := by
  refine ofWF (cc := cc) (maxL := nL) (ret := none) hy rfl ?_
  intro p e s m args below meth c s₁ B hml hv
  obtain ⟨rfl, hP, hKn⟩ := hv
  have hr := B.returns
  have hlocks := B.notSynchronized
  have h := body (mkK p l e (rmD d) s m (av ad).toArray below meth c (MQ below (va_Qv K (Bw ad D ca) (inAd ad)) (av ad).toArray s 0 0 (inAd ad)) nL (inAd ad) ad D ca) (Ct_ok had _ B hml hKn) (fun pc loc σ' hd hk ls H locs hl hP hS => W.vret (Qc := va_Qv K (Bw ad D ca) (inAd ad)) B.exec B.bytes hr (fun t ht hW => ⟨⟨σ', rfl, hk, by show va_P _ _ _ t.heap; rw [ht]; exact hP⟩, hS.F ht⟩) hS.2.2 hd)
  have hl := lv_entry (av ad) (n := nL) hav
  rw [lg_entry_eq]
  exact h _ _ _ hl hP va_S.rf
theorem CtQ_of {C : String} {K : Option Nat → St → Prop} (hy : plainFor y = true) (had : adOk ad) (hav : (lg_sl (av ad)).length ≤ nL)
    (body : ∀ κ : Kap, Ok κ y.cls cc nL d → RetQ κ cc K → GG κ 0 (lv_args 0 (av (kad κ))) [] σ) : CtQ l ad D ca y cc nL C d (av ad) σ K := by
  refine ofWF (cc := cc) (maxL := nL) (ret := some (.object C)) hy rfl ?_
  intro p e s m args below meth c s₁ B hml hv
  obtain ⟨rfl, hP, hKn⟩ := hv
  have hr := B.returns
  have hlocks := B.notSynchronized
  have h := body (mkK p l e (rmD d) s m (av ad).toArray below meth c (MQ below (va_Qq (fun r σ' => ∃ q : Option Nat, r = q.map ad ∧ K q σ') (Bw ad D ca) (inAd ad)) (av ad).toArray s 0 0 (inAd ad)) nL (inAd ad) ad D ca) (Ct_ok had _ B hml hKn) ⟨fun pc loc k σ' hd hk ls H locs hl hP hS => W.aret (Qc := va_Qq (fun r σ' => ∃ q : Option Nat, r = q.map ad ∧ K q σ') (Bw ad D ca) (inAd ad)) B.exec B.bytes hr (Or.inl ⟨_, rfl⟩) (Or.inr ⟨_, rfl⟩) (fun t ht hW => ⟨⟨some (ad k), σ', rfl, ⟨some k, rfl, hk⟩, by show va_P _ _ _ t.heap; rw [ht]; exact hP⟩, hS.F ht⟩) hS.2.2 hd,
    fun pc loc σ' hd hk ls H locs hl hP hS => W.aret (Qc := va_Qq (fun r σ' => ∃ q : Option Nat, r = q.map ad ∧ K q σ') (Bw ad D ca) (inAd ad)) B.exec B.bytes hr (Or.inl ⟨_, rfl⟩) (Or.inl rfl) (fun t ht hW => ⟨⟨none, σ', rfl, ⟨none, rfl, hk⟩, by show va_P _ _ _ t.heap; rw [ht]; exact hP⟩, hS.F ht⟩) hS.2.2 hd⟩
  have hl := lv_entry (av ad) (n := nL) hav
  rw [lg_entry_eq]
  exact h _ _ _ hl hP va_S.rf
end CT
/-- what a call needs of the tables: a static method -/
def LkS (own : String) (idx : Nat) (y : MethodName) (cc : ByteArray) (nL : Nat) (ret : Option FieldType) (n : Nat) : Prop := (Cond.methodLink own idx y ∈ gtbl ∧ Cond.static y ∈ gtbl ∧ Cond.code y cc nL ret ∈ gtbl ∧ Cond.initialized y.cls ∈ gtbl) ∧ (y.cls ≠ "java/lang/invoke/MethodHandle" ∧ y.cls ≠ "java/lang/invoke/VarHandle" ∧ (parseMethodDescriptor y.desc).map (fun d => d.parameters.length) = some n) ∧ nL ≤ 40
/-- an instance method -/
def LkV (own : String) (idx : Nat) (y : MethodName) (cc : ByteArray) (nL : Nat) (ret : Option FieldType) (n : Nat) : Prop := (Cond.methodLink own idx y ∈ gtbl ∧ Cond.instanceMethod y ∈ gtbl ∧ Cond.selects y.cls y y ∈ gtbl ∧ Cond.code y cc nL ret ∈ gtbl ∧ Cond.initialized y.cls ∈ gtbl) ∧ (y.cls ≠ "java/lang/invoke/MethodHandle" ∧ y.cls ≠ "java/lang/invoke/VarHandle" ∧ (parseMethodDescriptor y.desc).map (fun d => d.parameters.length) = some n) ∧ nL ≤ 40
/-- a nest mate's private static method -/
def LkN (own : String) (idx : Nat) (y : MethodName) (host : String) (cc : ByteArray) (nL : Nat) (ret : Option FieldType) (n : Nat) : Prop := (Cond.static y ∈ gtbl ∧ Cond.code y cc nL ret ∈ gtbl ∧ Cond.initialized y.cls ∈ gtbl) ∧ (y.cls ≠ "java/lang/invoke/MethodHandle" ∧ y.cls ≠ "java/lang/invoke/VarHandle" ∧ (parseMethodDescriptor y.desc).map (fun d => d.parameters.length) = some n) ∧ nL ≤ 40
section XC
variable {κ : Kap} {own : String} {cc : ByteArray} {nL d pc : Nat} {loc : List (Nat × Value)} {st stk As : List Value} {σ : St} {y : MethodName} {cc' : ByteArray} {nL' d' idx n : Nat} {ty : FieldType}
theorem Ok.inA (C : Ok κ own cc nL d) : ∀ q, inAd (kad κ) q → kA κ q := fun q h => by
  obtain ⟨k, hk, rfl⟩ := h
  exact C.hA k hk
theorem Ok.preS (C : Ok κ own cc nL d) {H : Heap} {locs : List Loc} (hP : va_P (kD κ) vwCl (wsN (kad κ) (kca κ) σ) H) (hS : va_S (kA κ) (kS κ).heap H locs) : PreS (kS κ) H (Pw (kad κ) (kD κ) (kca κ) As σ) As := ⟨Kn_blind, fun U hU hW => ⟨rfl, by rw [hU]; exact hP, Kn_moved C.kn (by rw [hU]; exact hS) hW C.inA⟩⟩
theorem Ok.preV (C : Ok κ own cc nL d) {H : Heap} {locs : List Loc} {a ci N : Nat} {R : String} {T : u_T} (hc : vwCl[ci]? = some (R, T, N)) (hk : kd a = ci) (hci : ci < 10) (ha : a < NC) (hP : va_P (kD κ) vwCl (wsN (kad κ) (kca κ) σ) H) (hS : va_S (kA κ) (kS κ).heap H locs) : PreV (kS κ) H R (kad κ a) (Pw (kad κ) (kD κ) (kca κ) (.ref (kad κ a) :: As) σ) As := ⟨Kn_blind, va_recv C.hK hP hc ((wsN_at ha).trans (by rw [cellN_obj hk hci])), fun U hU hW => ⟨rfl, by rw [hU]; exact hP, Kn_moved C.kn (by rw [hU]; exact hS) hW C.inA⟩⟩
theorem Ok.cwS (C : Ok κ own cc nL d) {ret : Option FieldType} (L : LkS own idx y cc' nL' ret n) (hdd : d' + 1 ≤ d) : CallB (kR κ) (kS κ) (kArgs κ) own idx y cc' nL' ret (Cond.code y cc' nL' ret :: gtbl) (rmD d') 0 0 n ∧ (Cond.static y).before (kArgs κ) (kS κ) = true := by
  obtain ⟨⟨h1, h2, h3, h4⟩, h5, h6⟩ := L
  obtain ⟨r1, r2⟩ := C.room
  exact ⟨callB_of n C.hts (good_gt h3) rfl rfl rfl (C.hts _ h4) (C.hts _ h1) h5 ⟨by show d' + 1 ≤ _; omega, by show 8 + (nL' + 11) + 64 * d' ≤ _; omega⟩, C.hts _ h2⟩
theorem Ok.cwV (C : Ok κ own cc nL d) {ret : Option FieldType} (L : LkV own idx y cc' nL' ret n) (hdd : d' + 1 ≤ d) : CallW (kR κ) (kS κ) (kArgs κ) own y.cls idx y cc' nL' ret (Cond.code y cc' nL' ret :: gtbl) (rmD d') 0 0 n := by
  obtain ⟨⟨h1, h2, h7, h3, h4⟩, h5, h6⟩ := L
  obtain ⟨r1, r2⟩ := C.room
  exact ⟨callB_of n C.hts (good_gt h3) rfl rfl rfl (C.hts _ h4) (C.hts _ h1) h5 ⟨by show d' + 1 ≤ _; omega, by show 8 + (nL' + 11) + 64 * d' ≤ _; omega⟩, C.hts _ h2, C.hts _ h7⟩
theorem Ok.cwN (C : Ok κ own cc nL d) {host : String} {ret : Option FieldType} (L : LkN own idx y host cc' nL' ret n) (hN : va_Nw (.methodLinkNest own idx y host) (kS κ)) (hdd : d' + 1 ≤ d) : va_CN (kR κ) (kS κ) (kArgs κ) own idx y host cc' nL' ret (Cond.code y cc' nL' ret :: gtbl) (rmD d') 0 0 n ∧ (Cond.static y).before (kArgs κ) (kS κ) = true ∧ True := by
  obtain ⟨⟨h2, h3, h4⟩, h5, h6⟩ := L
  obtain ⟨r1, r2⟩ := C.room
  exact ⟨va_cnB n C.hts (good_gt h3) rfl rfl rfl hN (C.hts _ h4) h5 ⟨by show d' + 1 ≤ _; omega, by show 8 + (nL' + 11) + 64 * d' ≤ _; omega⟩, C.hts _ h2, trivial⟩
theorem Ok.fixc (C : Ok κ own cc nL d) : CallFix (kP κ) (kM κ) (kC κ) cc nL (kS κ) (kArgs κ) gtbl own := ⟨C.hx, C.hb, C.ml, C.hown, C.hts⟩
/-- static calls -/
theorem x_csI {K : Int32 → St → Prop} (C : Ok κ own cc nL d) (L : LkS own idx y cc' nL' (some ty) n) (hM : CtI (kL κ) (kad κ) (kD κ) (kca κ) y cc' nL' ty d' As σ K) (hn : As.length = n) (hdd : d' + 1 ≤ d) (hstk : stk = As.reverse ++ st) (hst : (st.map fun v => v.category).sum ≤ 8) (hd : decode cc pc = .ok (.invokestatic idx, 3)) (k : ∀ (r : Int32) (σ' : St), K r σ' → GG κ (pc + 3) loc (.int r :: st) σ') : GG κ pc loc stk σ := fun ls H locs hl hP hS =>
  va_calli (va_runS C.fixc hM (C.cwS L hdd) (C.preS hP hS) rfl hn (hl.1.trans C.nl) hstk (lv_room hst) hd ⟨C.rc, C.rs⟩) hS (fun q _ h => C.inA q h) C.inA (fun r u t H1 locs1 ht hvm hw hB hz hk1 hS1 => by subst ht; exact k r u hw ls t.heap locs1 hl hB hS1)
theorem x_csL {K : Int64 → St → Prop} (C : Ok κ own cc nL d) (L : LkS own idx y cc' nL' (some .long) n) (hM : CtL (kL κ) (kad κ) (kD κ) (kca κ) y cc' nL' d' As σ K) (hn : As.length = n) (hdd : d' + 1 ≤ d) (hstk : stk = As.reverse ++ st) (hst : (st.map fun v => v.category).sum ≤ 8) (hd : decode cc pc = .ok (.invokestatic idx, 3)) (k : ∀ (r : Int64) (σ' : St), K r σ' → GG κ (pc + 3) loc (.long r :: st) σ') : GG κ pc loc stk σ := fun ls H locs hl hP hS =>
  va_calll (va_runS C.fixc hM (C.cwS L hdd) (C.preS hP hS) rfl hn (hl.1.trans C.nl) hstk (lv_room hst) hd ⟨C.rc, C.rs⟩) hS (fun q _ h => C.inA q h) C.inA (fun r u t H1 locs1 ht hvm hw hB hz hk1 hS1 => by subst ht; exact k r u hw ls t.heap locs1 hl hB hS1)
theorem x_cnI {host : String} {K : Int32 → St → Prop} (C : Ok κ own cc nL d) (L : LkN own idx y host cc' nL' (some ty) n) (hN : va_Nw (.methodLinkNest own idx y host) (kS κ)) (hM : CtI (kL κ) (kad κ) (kD κ) (kca κ) y cc' nL' ty d' As σ K) (hn : As.length = n) (hdd : d' + 1 ≤ d) (hstk : stk = As.reverse ++ st) (hst : (st.map fun v => v.category).sum ≤ 8) (hd : decode cc pc = .ok (.invokestatic idx, 3)) (k : ∀ (r : Int32) (σ' : St), K r σ' → GG κ (pc + 3) loc (.int r :: st) σ') : GG κ pc loc stk σ := fun ls H locs hl hP hS =>
  va_calli (va_runSN C.fixc hM (C.cwN L hN hdd) (C.preS hP hS) rfl hn (hl.1.trans C.nl) hstk (lv_room hst) hd ⟨C.rc, C.rs⟩) hS (fun q _ h => C.inA q h) C.inA (fun r u t H1 locs1 ht hvm hw hB hz hk1 hS1 => by subst ht; exact k r u hw ls t.heap locs1 hl hB hS1)
theorem x_cnL {host : String} {K : Int64 → St → Prop} (C : Ok κ own cc nL d) (L : LkN own idx y host cc' nL' (some .long) n) (hN : va_Nw (.methodLinkNest own idx y host) (kS κ)) (hM : CtL (kL κ) (kad κ) (kD κ) (kca κ) y cc' nL' d' As σ K) (hn : As.length = n) (hdd : d' + 1 ≤ d) (hstk : stk = As.reverse ++ st) (hst : (st.map fun v => v.category).sum ≤ 8) (hd : decode cc pc = .ok (.invokestatic idx, 3)) (k : ∀ (r : Int64) (σ' : St), K r σ' → GG κ (pc + 3) loc (.long r :: st) σ') : GG κ pc loc stk σ := fun ls H locs hl hP hS =>
  va_calll (va_runSN C.fixc hM (C.cwN L hN hdd) (C.preS hP hS) rfl hn (hl.1.trans C.nl) hstk (lv_room hst) hd ⟨C.rc, C.rs⟩) hS (fun q _ h => C.inA q h) C.inA (fun r u t H1 locs1 ht hvm hw hB hz hk1 hS1 => by subst ht; exact k r u hw ls t.heap locs1 hl hB hS1)
/-- calls on an object of the store -/
theorem x_cvI {a ci N : Nat} {T : u_T} {K : Int32 → St → Prop} (C : Ok κ own cc nL d) (L : LkV own idx y cc' nL' (some ty) n) (hc : vwCl[ci]? = some (y.cls, T, N)) (hk : kd a = ci) (hci : ci < 10) (ha : a < NC) (hM : CtI (kL κ) (kad κ) (kD κ) (kca κ) y cc' nL' ty d' (.ref (kad κ a) :: As) σ K) (hn : As.length = n) (hdd : d' + 1 ≤ d) (hstk : stk = As.reverse ++ .ref (kad κ a) :: st) (hst : (st.map fun v => v.category).sum ≤ 8) (hd : decode cc pc = .ok (.invokevirtual idx, 3)) (k : ∀ (r : Int32) (σ' : St), K r σ' → GG κ (pc + 3) loc (.int r :: st) σ') : GG κ pc loc stk σ := fun ls H locs hl hP hS =>
  va_calli (va_runV C.fixc hM (C.cwV L hdd) (C.preV hc hk hci ha hP hS) rfl hn (hl.1.trans C.nl) hstk (lv_room hst) hd ⟨C.rc, C.rs⟩) hS (fun q _ h => C.inA q h) C.inA (fun r u t H1 locs1 ht hvm hw hB hz hk1 hS1 => by subst ht; exact k r u hw ls t.heap locs1 hl hB hS1)
theorem x_cvL {a ci N : Nat} {T : u_T} {K : Int64 → St → Prop} (C : Ok κ own cc nL d) (L : LkV own idx y cc' nL' (some .long) n) (hc : vwCl[ci]? = some (y.cls, T, N)) (hk : kd a = ci) (hci : ci < 10) (ha : a < NC) (hM : CtL (kL κ) (kad κ) (kD κ) (kca κ) y cc' nL' d' (.ref (kad κ a) :: As) σ K) (hn : As.length = n) (hdd : d' + 1 ≤ d) (hstk : stk = As.reverse ++ .ref (kad κ a) :: st) (hst : (st.map fun v => v.category).sum ≤ 8) (hd : decode cc pc = .ok (.invokevirtual idx, 3)) (k : ∀ (r : Int64) (σ' : St), K r σ' → GG κ (pc + 3) loc (.long r :: st) σ') : GG κ pc loc stk σ := fun ls H locs hl hP hS =>
  va_calll (va_runV C.fixc hM (C.cwV L hdd) (C.preV hc hk hci ha hP hS) rfl hn (hl.1.trans C.nl) hstk (lv_room hst) hd ⟨C.rc, C.rs⟩) hS (fun q _ h => C.inA q h) C.inA (fun r u t H1 locs1 ht hvm hw hB hz hk1 hS1 => by subst ht; exact k r u hw ls t.heap locs1 hl hB hS1)
theorem x_cvV {a ci N : Nat} {T : u_T} {K : St → Prop} (C : Ok κ own cc nL d) (L : LkV own idx y cc' nL' none n) (hc : vwCl[ci]? = some (y.cls, T, N)) (hk : kd a = ci) (hci : ci < 10) (ha : a < NC) (hM : CtV (kL κ) (kad κ) (kD κ) (kca κ) y cc' nL' d' (.ref (kad κ a) :: As) σ K) (hn : As.length = n) (hdd : d' + 1 ≤ d) (hstk : stk = As.reverse ++ .ref (kad κ a) :: st) (hst : (st.map fun v => v.category).sum ≤ 8) (hd : decode cc pc = .ok (.invokevirtual idx, 3)) (k : ∀ (σ' : St), K σ' → GG κ (pc + 3) loc st σ') : GG κ pc loc stk σ := fun ls H locs hl hP hS =>
  va_callv (va_runV C.fixc hM (C.cwV L hdd) (C.preV hc hk hci ha hP hS) rfl hn (hl.1.trans C.nl) hstk (lv_room hst) hd ⟨C.rc, C.rs⟩) hS (fun q _ h => C.inA q h) C.inA (fun u t H1 locs1 ht hvm hw hB hz hk1 hS1 => by subst ht; exact k u hw ls t.heap locs1 hl hB hS1)
theorem x_cvQ {R : String} {a ci N : Nat} {T : u_T} {K : Option Nat → St → Prop} (C : Ok κ own cc nL d) (L : LkV own idx y cc' nL' (some (.object R)) n) (hc : vwCl[ci]? = some (y.cls, T, N)) (hk : kd a = ci) (hci : ci < 10) (ha : a < NC) (hM : CtQ (kL κ) (kad κ) (kD κ) (kca κ) y cc' nL' R d' (.ref (kad κ a) :: As) σ K) (hn : As.length = n) (hdd : d' + 1 ≤ d) (hstk : stk = As.reverse ++ .ref (kad κ a) :: st) (hst : (st.map fun v => v.category).sum ≤ 8) (hd : decode cc pc = .ok (.invokevirtual idx, 3)) (kn : ∀ (σ' : St), K none σ' → GG κ (pc + 3) loc (.null :: st) σ') (ks : ∀ (b : Nat) (σ' : St), K (some b) σ' → GG κ (pc + 3) loc (.ref (kad κ b) :: st) σ') : GG κ pc loc stk σ := fun ls H locs hl hP hS =>
  va_callq (va_runV C.fixc hM (C.cwV L hdd) (C.preV hc hk hci ha hP hS) rfl hn (hl.1.trans C.nl) hstk (lv_room hst) hd ⟨C.rc, C.rs⟩) hS (fun q _ h => C.inA q h) C.inA (fun r u t H1 locs1 ht hvm hw hB hz hk1 hS1 => by
    subst ht
    obtain ⟨q, rfl, hw⟩ := hw
    cases q with
    | none => exact kn u hw ls t.heap locs1 hl hB hS1
    | some b => exact ks b u hw ls t.heap locs1 hl hB hS1)
/-- Math.max, min, abs; System.arraycopy -/
theorem x_max {x z : Int32} (C : Ok κ own cc nL d) (hm : Cond.methodLink own idx Lib.Math.max.name ∈ gtbl) (hs : Cond.static Lib.Math.max.name ∈ gtbl) (hi : Cond.initialized "java/lang/Math" ∈ gtbl) (hc : Cond.code Lib.Math.max.name Lib.Math.max.code 2 (some .int) ∈ gtbl) (hdd : 1 ≤ d) (hst : (st.map fun v => v.category).sum ≤ 8) (hd : decode cc pc = .ok (.invokestatic idx, 3)) (k : GG κ (pc + 3) loc (.int (if x < z then z else x) :: st) σ) : GG κ pc loc (.int z :: .int x :: st) σ := fun ls H locs hl hP hS =>
  va_mmax C.hx C.hb (by rw [C.ml, ← C.nl]; exact hl.1.symm) C.hown (C.hts _ hm) (C.hts _ hs) (C.hts _ hi) (C.hts _ hc) (Nat.le_trans hdd C.room.1) (by have := C.room.2; omega) C.rc C.rs hd (k ls H locs hl hP hS)
theorem x_min {x z : Int32} (C : Ok κ own cc nL d) (hm : Cond.methodLink own idx Lib.Math.min.name ∈ gtbl) (hs : Cond.static Lib.Math.min.name ∈ gtbl) (hi : Cond.initialized "java/lang/Math" ∈ gtbl) (hc : Cond.code Lib.Math.min.name Lib.Math.min.code 2 (some .int) ∈ gtbl) (hdd : 1 ≤ d) (hst : (st.map fun v => v.category).sum ≤ 8) (hd : decode cc pc = .ok (.invokestatic idx, 3)) (k : GG κ (pc + 3) loc (.int (if z < x then z else x) :: st) σ) : GG κ pc loc (.int z :: .int x :: st) σ := fun ls H locs hl hP hS =>
  va_mmin C.hx C.hb (by rw [C.ml, ← C.nl]; exact hl.1.symm) C.hown (C.hts _ hm) (C.hts _ hs) (C.hts _ hi) (C.hts _ hc) (Nat.le_trans hdd C.room.1) (by have := C.room.2; omega) C.rc C.rs hd (k ls H locs hl hP hS)
theorem x_abs {x : Int32} (C : Ok κ own cc nL d) (hm : Cond.methodLink own idx Lib.Math.abs.name ∈ gtbl) (hs : Cond.static Lib.Math.abs.name ∈ gtbl) (hi : Cond.initialized "java/lang/Math" ∈ gtbl) (hc : Cond.code Lib.Math.abs.name Lib.Math.abs.code 1 (some .int) ∈ gtbl) (hdd : 1 ≤ d) (hst : (st.map fun v => v.category).sum ≤ 8) (hd : decode cc pc = .ok (.invokestatic idx, 3)) (k : GG κ (pc + 3) loc (.int (if 0 ≤ x then x else 0 - x) :: st) σ) : GG κ pc loc (.int x :: st) σ := fun ls H locs hl hP hS =>
  va_mabs C.hx C.hb (by rw [C.ml, ← C.nl]; exact hl.1.symm) C.hown (C.hts _ hm) (C.hts _ hs) (C.hts _ hi) (C.hts _ hc) (Nat.le_trans hdd C.room.1) (by have := C.room.2; omega) C.rc C.rs hd (k ls H locs hl hP hS)
theorem x_copy {a b N : Nat} {n : Int32} (C : Ok κ own cc nL d) (hm : Cond.methodLink own idx arraycopyName ∈ gtbl) (hnt : Cond.native arraycopyName ∈ gtbl) (hs : Cond.static arraycopyName ∈ gtbl) (hi : Cond.initialized "java/lang/System" ∈ gtbl) (hka : kd a = 10) (ha : a < NC) (hkb : kd b = 10) (hb : b < NC) (hn0 : ¬ n < 0) (hN : n.toNatClampNeg = N) (hla : N ≤ ln a) (hlb : N ≤ ln b) (hdd : 1 ≤ d) (hst : (st.map fun v => v.category).sum ≤ 8) (hroom : nativeFrameWords "java/lang/System" "arraycopy" 5 ≤ 40) (hd : decode cc pc = .ok (.invokestatic idx, 3)) (k : GG κ (pc + 3) loc st (wC σ a b N)) : GG κ pc loc (.int n :: .int 0 :: .ref (kad κ a) :: .int 0 :: .ref (kad κ b) :: st) σ := fun ls H locs hl hP hS => by
  subst hN
  refine va_copyi (ty := .int) C.hx C.hb (by rw [C.ml, ← C.nl]; exact hl.1.symm) C.hown (C.hts _ hm) (C.hts _ hnt) (C.hts _ hs) (C.hts _ hi) C.hK hP C.hD hS b a 0 0 ((wsN_at hb).trans (by rw [cellN_i hkb])) ((wsN_at ha).trans (by rw [cellN_i hka])) rfl rfl rfl (by decide) (by decide) hn0 (by show 0 + _ ≤ _; omega) (by show 0 + _ ≤ _; omega) (fun i _ => rfl) (Nat.le_trans hdd C.room.1) (by have := C.room.2; omega) hd (fun H1 locs1 hP1 hD1 hS1 => k ls H1 locs1 hl ?_ hS1)
  rw [wsN_set (σ' := wC σ a b n.toNatClampNeg) ha (fun q hq => cellN_wC_ne q hq) ?_] at hP1
  · exact hP1
  · rw [cellN_i hka]
    congr 4
    funext q
    show (if a = a ∧ q < n.toNatClampNeg then σ.1 b q else σ.1 a q) = (if 0 ≤ q ∧ q < 0 + n.toNatClampNeg then σ.1 b (0 + (q - 0)) else σ.1 a q)
    by_cases h : q < n.toNatClampNeg
    · rw [if_pos ⟨rfl, h⟩, if_pos ⟨Nat.zero_le _, by omega⟩, show 0 + (q - 0) = q by omega]
    · rw [if_neg (fun z => h z.2), if_neg (fun z => h (by omega))]
end XC
theorem nar_i (v : Int32) : narrow .int (.int v) = .int v := rfl
def isB (v : Int32) : Prop := v = 0 ∨ v = 1
theorem nar_z {v : Int32} (h : isB v) : narrow .boolean (.int v) = .int v := by rcases h with rfl | rfl <;> decide
theorem fit_z {v : Int32} (h : isB v) : fits .boolean (.int v) = true := by rcases h with rfl | rfl <;> decide
theorem fit_i (v : Int32) : fits .int (.int v) = true := rfl
theorem isB0 : isB 0 := Or.inl rfl
theorem isB1 : isB 1 := Or.inr rfl
end
section
abbrev ix (i : Int32) : Nat := i.toNatClampNeg
def sOk (a : Nat) : Prop := a = 5 ∨ a = 24 ∨ a = 43 ∨ a = 62
def wOk (a : Nat) : Prop := a = 81 ∨ a = 96 ∨ a = 110
theorem s_kd {a : Nat} (h : sOk a) : kd a = 0 := by rcases h with rfl | rfl | rfl | rfl <;> decide +kernel
theorem s_lt {a : Nat} (h : sOk a) : a < NC := by rcases h with rfl | rfl | rfl | rfl <;> decide +kernel
theorem s_ln {a : Nat} (h : sOk a) : ln a = 5 := by rcases h with rfl | rfl | rfl | rfl <;> decide +kernel
theorem s_kd1 {a : Nat} (h : sOk a) : kd (a + 1) = 10 := by rcases h with rfl | rfl | rfl | rfl <;> decide +kernel
theorem s_lt1 {a : Nat} (h : sOk a) : a + 1 < NC := by rcases h with rfl | rfl | rfl | rfl <;> decide +kernel
theorem s_ln1 {a : Nat} (h : sOk a) : ln (a + 1) = 7 := by rcases h with rfl | rfl | rfl | rfl <;> decide +kernel
theorem s_m1 {a : Nat} (h : sOk a) {sp : Nat → Nat} : mrN sp a 1 = a + 1 := by rcases h with rfl | rfl | rfl | rfl <;> rfl
theorem s_kd2 {a : Nat} (h : sOk a) : kd (a + 2) = 10 := by rcases h with rfl | rfl | rfl | rfl <;> decide +kernel
theorem s_lt2 {a : Nat} (h : sOk a) : a + 2 < NC := by rcases h with rfl | rfl | rfl | rfl <;> decide +kernel
theorem s_ln2 {a : Nat} (h : sOk a) : ln (a + 2) = 7 := by rcases h with rfl | rfl | rfl | rfl <;> decide +kernel
theorem s_m2 {a : Nat} (h : sOk a) {sp : Nat → Nat} : mrN sp a 2 = a + 2 := by rcases h with rfl | rfl | rfl | rfl <;> rfl
theorem s_kd3 {a : Nat} (h : sOk a) : kd (a + 3) = 13 := by rcases h with rfl | rfl | rfl | rfl <;> decide +kernel
theorem s_lt3 {a : Nat} (h : sOk a) : a + 3 < NC := by rcases h with rfl | rfl | rfl | rfl <;> decide +kernel
theorem s_ln3 {a : Nat} (h : sOk a) : ln (a + 3) = 7 := by rcases h with rfl | rfl | rfl | rfl <;> decide +kernel
theorem s_m3 {a : Nat} (h : sOk a) {sp : Nat → Nat} : mrN sp a 3 = a + 3 := by rcases h with rfl | rfl | rfl | rfl <;> rfl
theorem s_iln3 {a : Nat} (h : sOk a) : ln (a + 3 + 1) = 7 := by rcases h with rfl | rfl | rfl | rfl <;> decide +kernel
theorem s_kd4 {a : Nat} (h : sOk a) : kd (a + 11) = 13 := by rcases h with rfl | rfl | rfl | rfl <;> decide +kernel
theorem s_lt4 {a : Nat} (h : sOk a) : a + 11 < NC := by rcases h with rfl | rfl | rfl | rfl <;> decide +kernel
theorem s_ln4 {a : Nat} (h : sOk a) : ln (a + 11) = 7 := by rcases h with rfl | rfl | rfl | rfl <;> decide +kernel
theorem s_m4 {a : Nat} (h : sOk a) {sp : Nat → Nat} : mrN sp a 4 = a + 11 := by rcases h with rfl | rfl | rfl | rfl <;> rfl
theorem s_iln4 {a : Nat} (h : sOk a) : ln (a + 11 + 1) = 7 := by rcases h with rfl | rfl | rfl | rfl <;> decide +kernel
theorem w_kd {a : Nat} (h : wOk a) : kd a = 6 := by rcases h with rfl | rfl | rfl <;> decide +kernel
theorem w_lt {a : Nat} (h : wOk a) : a < NC := by rcases h with rfl | rfl | rfl <;> decide +kernel
theorem w_ln {a : Nat} (h : wOk a) : ln a = 2 := by rcases h with rfl | rfl | rfl <;> decide +kernel
theorem w_kd0 {a : Nat} (h : wOk a) : kd (a + 1) = 13 := by rcases h with rfl | rfl | rfl <;> decide +kernel
theorem w_lt0 {a : Nat} (h : wOk a) : a + 1 < NC := by rcases h with rfl | rfl | rfl <;> decide +kernel
theorem w_ln0 {a : Nat} (h : wOk a) : ln (a + 1) = 9 := by rcases h with rfl | rfl | rfl <;> decide +kernel
theorem w_iln0 {a : Nat} (h : wOk a) : ln (a + 1 + 1) = 8 := by rcases h with rfl | rfl | rfl <;> decide +kernel
theorem w_m0 {a : Nat} (h : wOk a) {sp : Nat → Nat} : mrN sp a 0 = a + 1 := by rcases h with rfl | rfl | rfl <;> rfl
theorem w_kd1 {a : Nat} (h : wOk a) : kd (a + 11) = 13 := by rcases h with rfl | rfl | rfl <;> decide +kernel
theorem w_lt1 {a : Nat} (h : wOk a) : a + 11 < NC := by rcases h with rfl | rfl | rfl <;> decide +kernel
theorem w_ln1 {a : Nat} (h : wOk a) : ln (a + 11) = 2 := by rcases h with rfl | rfl | rfl <;> decide +kernel
theorem w_iln1 {a : Nat} (h : wOk a) : ln (a + 11 + 1) = 7 := by rcases h with rfl | rfl | rfl <;> decide +kernel
theorem w_m1 {a : Nat} (h : wOk a) {sp : Nat → Nat} : mrN sp a 1 = a + 11 := by rcases h with rfl | rfl | rfl <;> rfl
theorem vp_lt {i : Int32} {n : Nat} (h : vp_in i n) : ix i < n := Nat.not_le.mp fun q => h (Or.inr q)
theorem vp_lit {i : Int32} {n : Nat} (h1 : ¬ i < 0) (h2 : i.toNatClampNeg < n) : vp_in i n := fun h => h.elim h1 (fun q => absurd q (Nat.not_le.mpr h2))
theorem vp_ln {i : Int32} {k n : Nat} (hl : ln k = n) (h : vp_in i n) : vp_in i (ln k) := by rw [hl]; exact h
theorem row_all13 : ∀ k, k < NC → kd k = 13 → ∀ i, i < ln k → kd (k + 1 + i) = 10 ∧ k + 1 + i < NC ∧ ln (k + 1 + i) = ln (k + 1) ∧ k ≠ 4 ∧ lay k i = k + 1 + i := by decide +kernel
theorem row_kd13 {k : Nat} {i : Int32} (hk : kd k = 13) (hl : k < NC) (h : vp_in i (ln k)) : kd (k + 1 + ix i) = 10 := (row_all13 k hl hk (ix i) (vp_lt h)).1
theorem row_lt13 {k : Nat} {i : Int32} (hk : kd k = 13) (hl : k < NC) (h : vp_in i (ln k)) : k + 1 + ix i < NC := (row_all13 k hl hk (ix i) (vp_lt h)).2.1
theorem row_ln13 {k : Nat} {i : Int32} (hk : kd k = 13) (hl : k < NC) (h : vp_in i (ln k)) : ln (k + 1 + ix i) = ln (k + 1) := (row_all13 k hl hk (ix i) (vp_lt h)).2.2.1
theorem row_mr13 {k : Nat} {i : Int32} {sp : Nat → Nat} (hk : kd k = 13) (hl : k < NC) (h : vp_in i (ln k)) : mrN sp k i.toNatClampNeg = k + 1 + ix i := by
  have q := row_all13 k hl hk (ix i) (vp_lt h)
  unfold mrN
  rw [if_neg q.2.2.2.1]
  exact q.2.2.2.2
theorem row_all14 : ∀ k, k < NC → kd k = 14 → ∀ i, i < ln k → kd (k + 1 + i) = 12 ∧ k + 1 + i < NC ∧ ln (k + 1 + i) = ln (k + 1) ∧ k ≠ 4 ∧ lay k i = k + 1 + i := by decide +kernel
theorem row_kd14 {k : Nat} {i : Int32} (hk : kd k = 14) (hl : k < NC) (h : vp_in i (ln k)) : kd (k + 1 + ix i) = 12 := (row_all14 k hl hk (ix i) (vp_lt h)).1
theorem row_lt14 {k : Nat} {i : Int32} (hk : kd k = 14) (hl : k < NC) (h : vp_in i (ln k)) : k + 1 + ix i < NC := (row_all14 k hl hk (ix i) (vp_lt h)).2.1
theorem row_ln14 {k : Nat} {i : Int32} (hk : kd k = 14) (hl : k < NC) (h : vp_in i (ln k)) : ln (k + 1 + ix i) = ln (k + 1) := (row_all14 k hl hk (ix i) (vp_lt h)).2.2.1
theorem row_mr14 {k : Nat} {i : Int32} {sp : Nat → Nat} (hk : kd k = 14) (hl : k < NC) (h : vp_in i (ln k)) : mrN sp k i.toNatClampNeg = k + 1 + ix i := by
  have q := row_all14 k hl hk (ix i) (vp_lt h)
  unfold mrN
  rw [if_neg q.2.2.2.1]
  exact q.2.2.2.2
theorem slot_all : ∀ i, i < 2 → lay 95 i = 96 + 14 * i ∧ (96 + 14 * i = 81 ∨ 96 + 14 * i = 96 ∨ 96 + 14 * i = 110) := by decide +kernel
theorem slot_mr {i : Int32} {sp : Nat → Nat} (h : vp_in i 2) : mrN sp 95 i.toNatClampNeg = 96 + 14 * ix i := by
  unfold mrN
  rw [if_neg (by decide)]
  exact (slot_all (ix i) (vp_lt h)).1
theorem w_slot {i : Int32} (h : vp_in i 2) : wOk (96 + 14 * ix i) := (slot_all (ix i) (vp_lt h)).2
theorem nf_all : ∀ k, k < NC → kd k < 9 → ln k = ([5, 3, 3, 12, 10, 8, 2, 10, 40] : List Nat).getD (kd k) 0 := by decide +kernel
theorem nf_of {k c n : Nat} (hl : k < NC) (hk : kd k = c) (hc : c < 9) (hn : ([5, 3, 3, 12, 10, 8, 2, 10, 40] : List Nat).getD c 0 = n) : ln k = n := by subst hk; rw [nf_all k hl hc]; exact hn
/-- a loop: its body with the way back as a parameter -/
def Lp {S : Type} (F : (S → Prop) → S → Prop) : Nat → S → Prop
  | 0 => fun _ => False
  | n + 1 => F (Lp F n)
def LpE {S : Type} (F : (S → Prop) → S → Prop) (s : S) : Prop := ∃ n, Lp F n s
theorem LpE_GG {S : Type} {F : (S → Prop) → S → Prop} {W : S → Prop} (hF : ∀ (c : S → Prop) (s : S), (∀ s', c s' → W s') → F c s → W s) {s : S} (h : LpE F s) : W s := by
  obtain ⟨n, h⟩ := h
  induction n generalizing s with
  | zero => exact h.elim
  | succ n ih => exact hF (Lp F n) s (fun s' h' => ih h') h
/-- a loop comes to its end: an invariant and a measure that falls -/
theorem LpE_inv {S : Type} {F : (S → Prop) → S → Prop} (I : S → Prop) (μ : S → Nat) (hs : ∀ (s : S) (c : S → Prop), I s → (∀ s', I s' → μ s' < μ s → c s') → F c s) (s : S) (h : I s) : LpE F s := by
  have key : ∀ (n : Nat) (s : S), I s → μ s < n → Lp F n s := by
    intro n
    induction n with
    | zero => intro s _ h; exact absurd h (Nat.not_lt_zero _)
    | succ n ih => intro s h h2; exact hs s (Lp F n) h (fun s' h' h3 => ih s' h' (by omega))
  exact ⟨μ s + 1, key _ s h (Nat.lt_succ_self _)⟩
theorem lgc_lt {x y : Int64} : lg_cmp x y < 0 ↔ x < y := by
  unfold lg_cmp
  by_cases h2 : y < x
  · have h : ¬ x < y := lg_lt_not h2
    simp [h, h2]
  · by_cases h3 : x = y
    · subst h3
      simp [h2]
    · have h : x < y := by
        rcases Int64.lt_or_eq_of_le (Int64.not_lt.mp h2) with q | q
        · exact q
        · exact absurd q h3
      simp [h2, h3, h]
theorem lgc_gt {x y : Int64} : 0 < lg_cmp x y ↔ y < x := by
  unfold lg_cmp
  by_cases h2 : y < x
  · simp [h2]
  · by_cases h3 : x = y
    · subst h3
      simp [h2]
    · simp [h2, h3]
theorem lgc_ge {x y : Int64} : 0 ≤ lg_cmp x y ↔ y ≤ x := by
  rw [← Int32.not_lt, ← Int64.not_lt, lgc_lt]
theorem lgc_le {x y : Int64} : lg_cmp x y ≤ 0 ↔ x ≤ y := by
  rw [← Int32.not_lt, ← Int64.not_lt, lgc_gt]
theorem lgc_eq {x y : Int64} : lg_cmp x y = 0 ↔ x = y := by
  constructor
  · intro h
    have h1 : ¬ x < y := fun q => by have := lgc_lt.mpr q; rw [h] at this; exact absurd this (by decide)
    have h2 : ¬ y < x := fun q => by have := lgc_gt.mpr q; rw [h] at this; exact absurd this (by decide)
    exact Int64.le_antisymm (Int64.not_lt.mp h2) (Int64.not_lt.mp h1)
  · intro h
    subst h
    have h1 : ¬ x < x := fun q => lg_lt_not q q
    unfold lg_cmp
    simp [h1]
section XF
variable {κ : Kap} {own : String} {cc : ByteArray} {nL d pc : Nat} {loc : List (Nat × Value)} {st : List Value} {σ : St} {idx a : Nat}
theorem x_topI {e : Int32} (k : ∀ v : Int32, v = e → GG κ pc loc (.int v :: st) σ) : GG κ pc loc (.int e :: st) σ := k e rfl
theorem x_topL {e : Int64} (k : ∀ v : Int64, v = e → GG κ pc loc (.long v :: st) σ) : GG κ pc loc (.long e :: st) σ := k e rfl
theorem x_nmS (k : ∀ σ' : St, σ' = σ → GG κ pc loc st σ') : GG κ pc loc st σ := k σ rfl
theorem gX0_0 (C : Ok κ own cc nL d) (hk : kd a = 0) (ha : a < NC) (hw : Cond.fieldLink own idx "ArcFactoredParser$Sentence" "size" "I" ∈ gtbl) (hd : decode cc pc = .ok (.getfield idx, 3)) (k : GG κ (pc + 3) loc (.int (σ.1 a 0) :: st) σ) : GG κ pc loc (.ref (kad κ a) :: st) σ := x_get (ci := 0) (j := 0) C rfl inX0 hk (by decide) ha (by decide) (nf_of ha hk (by decide) rfl) hw (fv_i rfl) hd k
theorem qX0_0 {v : Int32} (C : Ok κ own cc nL d) (hk : kd a = 0) (ha : a < NC) (hw : Cond.fieldLink own idx "ArcFactoredParser$Sentence" "size" "I" ∈ gtbl) (hd : decode cc pc = .ok (.putfield idx, 3)) (k : GG κ (pc + 3) loc st (wI σ a 0 v)) : GG κ pc loc (.int v :: .ref (kad κ a) :: st) σ := x_putI (ci := 0) (j := 0) C rfl inX0 tyX0_ok nmX0 hk (by decide) ha (by decide) (nf_of ha hk (by decide) rfl) rfl rfl (nar_i v) (fit_i v) hw hd k
theorem gX0_1 {b : Nat} (C : Ok κ own cc nL d) (hk : kd a = 0) (ha : a < NC) (hb : mrN σ.2.2 a 1 = b) (hw : Cond.fieldLink own idx "ArcFactoredParser$Sentence" "tags" "[I" ∈ gtbl) (hd : decode cc pc = .ok (.getfield idx, 3)) (k : GG κ (pc + 3) loc (.ref (kad κ b) :: st) σ) : GG κ pc loc (.ref (kad κ a) :: st) σ := x_get (ci := 0) (j := 1) C rfl inX0 hk (by decide) ha (by decide) (nf_of ha hk (by decide) rfl) hw (fv_r rfl hb) hd k
theorem gX0_2 {b : Nat} (C : Ok κ own cc nL d) (hk : kd a = 0) (ha : a < NC) (hb : mrN σ.2.2 a 2 = b) (hw : Cond.fieldLink own idx "ArcFactoredParser$Sentence" "heads" "[I" ∈ gtbl) (hd : decode cc pc = .ok (.getfield idx, 3)) (k : GG κ (pc + 3) loc (.ref (kad κ b) :: st) σ) : GG κ pc loc (.ref (kad κ a) :: st) σ := x_get (ci := 0) (j := 2) C rfl inX0 hk (by decide) ha (by decide) (nf_of ha hk (by decide) rfl) hw (fv_r rfl hb) hd k
theorem gX0_3 {b : Nat} (C : Ok κ own cc nL d) (hk : kd a = 0) (ha : a < NC) (hb : mrN σ.2.2 a 3 = b) (hw : Cond.fieldLink own idx "ArcFactoredParser$Sentence" "biases" "[[I" ∈ gtbl) (hd : decode cc pc = .ok (.getfield idx, 3)) (k : GG κ (pc + 3) loc (.ref (kad κ b) :: st) σ) : GG κ pc loc (.ref (kad κ a) :: st) σ := x_get (ci := 0) (j := 3) C rfl inX0 hk (by decide) ha (by decide) (nf_of ha hk (by decide) rfl) hw (fv_r rfl hb) hd k
theorem gX0_4 {b : Nat} (C : Ok κ own cc nL d) (hk : kd a = 0) (ha : a < NC) (hb : mrN σ.2.2 a 4 = b) (hw : Cond.fieldLink own idx "ArcFactoredParser$Sentence" "constraints" "[[I" ∈ gtbl) (hd : decode cc pc = .ok (.getfield idx, 3)) (k : GG κ (pc + 3) loc (.ref (kad κ b) :: st) σ) : GG κ pc loc (.ref (kad κ a) :: st) σ := x_get (ci := 0) (j := 4) C rfl inX0 hk (by decide) ha (by decide) (nf_of ha hk (by decide) rfl) hw (fv_r rfl hb) hd k
theorem gX1_0 (C : Ok κ own cc nL d) (hk : kd a = 1) (ha : a < NC) (hw : Cond.fieldLink own idx "ArcFactoredParser$Settings" "singleRoot" "Z" ∈ gtbl) (hd : decode cc pc = .ok (.getfield idx, 3)) (k : GG κ (pc + 3) loc (.int (σ.1 a 0) :: st) σ) : GG κ pc loc (.ref (kad κ a) :: st) σ := x_get (ci := 1) (j := 0) C rfl inX1 hk (by decide) ha (by decide) (nf_of ha hk (by decide) rfl) hw (fv_i rfl) hd k
theorem qX1_0 {v : Int32} (C : Ok κ own cc nL d) (hk : kd a = 1) (ha : a < NC) (hz : isB v) (hw : Cond.fieldLink own idx "ArcFactoredParser$Settings" "singleRoot" "Z" ∈ gtbl) (hd : decode cc pc = .ok (.putfield idx, 3)) (k : GG κ (pc + 3) loc st (wI σ a 0 v)) : GG κ pc loc (.int v :: .ref (kad κ a) :: st) σ := x_putI (ci := 1) (j := 0) C rfl inX1 tyX1_ok nmX1 hk (by decide) ha (by decide) (nf_of ha hk (by decide) rfl) rfl rfl (nar_z hz) (fit_z hz) hw hd k
theorem gX1_1 (C : Ok κ own cc nL d) (hk : kd a = 1) (ha : a < NC) (hw : Cond.fieldLink own idx "ArcFactoredParser$Settings" "projective" "Z" ∈ gtbl) (hd : decode cc pc = .ok (.getfield idx, 3)) (k : GG κ (pc + 3) loc (.int (σ.1 a 1) :: st) σ) : GG κ pc loc (.ref (kad κ a) :: st) σ := x_get (ci := 1) (j := 1) C rfl inX1 hk (by decide) ha (by decide) (nf_of ha hk (by decide) rfl) hw (fv_i rfl) hd k
theorem qX1_1 {v : Int32} (C : Ok κ own cc nL d) (hk : kd a = 1) (ha : a < NC) (hz : isB v) (hw : Cond.fieldLink own idx "ArcFactoredParser$Settings" "projective" "Z" ∈ gtbl) (hd : decode cc pc = .ok (.putfield idx, 3)) (k : GG κ (pc + 3) loc st (wI σ a 1 v)) : GG κ pc loc (.int v :: .ref (kad κ a) :: st) σ := x_putI (ci := 1) (j := 1) C rfl inX1 tyX1_ok nmX1 hk (by decide) ha (by decide) (nf_of ha hk (by decide) rfl) rfl rfl (nar_z hz) (fit_z hz) hw hd k
theorem gX1_2 (C : Ok κ own cc nL d) (hk : kd a = 1) (ha : a < NC) (hw : Cond.fieldLink own idx "ArcFactoredParser$Settings" "shift" "I" ∈ gtbl) (hd : decode cc pc = .ok (.getfield idx, 3)) (k : GG κ (pc + 3) loc (.int (σ.1 a 2) :: st) σ) : GG κ pc loc (.ref (kad κ a) :: st) σ := x_get (ci := 1) (j := 2) C rfl inX1 hk (by decide) ha (by decide) (nf_of ha hk (by decide) rfl) hw (fv_i rfl) hd k
theorem qX1_2 {v : Int32} (C : Ok κ own cc nL d) (hk : kd a = 1) (ha : a < NC) (hw : Cond.fieldLink own idx "ArcFactoredParser$Settings" "shift" "I" ∈ gtbl) (hd : decode cc pc = .ok (.putfield idx, 3)) (k : GG κ (pc + 3) loc st (wI σ a 2 v)) : GG κ pc loc (.int v :: .ref (kad κ a) :: st) σ := x_putI (ci := 1) (j := 2) C rfl inX1 tyX1_ok nmX1 hk (by decide) ha (by decide) (nf_of ha hk (by decide) rfl) rfl rfl (nar_i v) (fit_i v) hw hd k
theorem gX2_0 {b : Nat} (C : Ok κ own cc nL d) (hk : kd a = 2) (ha : a < NC) (hb : mrN σ.2.2 a 0 = b) (hw : Cond.fieldLink own idx "ArcFactoredParser$Text" "letters" "[I" ∈ gtbl) (hd : decode cc pc = .ok (.getfield idx, 3)) (k : GG κ (pc + 3) loc (.ref (kad κ b) :: st) σ) : GG κ pc loc (.ref (kad κ a) :: st) σ := x_get (ci := 2) (j := 0) C rfl inX2 hk (by decide) ha (by decide) (nf_of ha hk (by decide) rfl) hw (fv_r rfl hb) hd k
theorem gX2_1 (C : Ok κ own cc nL d) (hk : kd a = 2) (ha : a < NC) (hw : Cond.fieldLink own idx "ArcFactoredParser$Text" "length" "I" ∈ gtbl) (hd : decode cc pc = .ok (.getfield idx, 3)) (k : GG κ (pc + 3) loc (.int (σ.1 a 1) :: st) σ) : GG κ pc loc (.ref (kad κ a) :: st) σ := x_get (ci := 2) (j := 1) C rfl inX2 hk (by decide) ha (by decide) (nf_of ha hk (by decide) rfl) hw (fv_i rfl) hd k
theorem qX2_1 {v : Int32} (C : Ok κ own cc nL d) (hk : kd a = 2) (ha : a < NC) (hw : Cond.fieldLink own idx "ArcFactoredParser$Text" "length" "I" ∈ gtbl) (hd : decode cc pc = .ok (.putfield idx, 3)) (k : GG κ (pc + 3) loc st (wI σ a 1 v)) : GG κ pc loc (.int v :: .ref (kad κ a) :: st) σ := x_putI (ci := 2) (j := 1) C rfl inX2 tyX2_ok nmX2 hk (by decide) ha (by decide) (nf_of ha hk (by decide) rfl) rfl rfl (nar_i v) (fit_i v) hw hd k
theorem gX2_2 {b : Nat} (C : Ok κ own cc nL d) (hk : kd a = 2) (ha : a < NC) (hb : mrN σ.2.2 a 2 = b) (hw : Cond.fieldLink own idx "ArcFactoredParser$Text" "heads" "[I" ∈ gtbl) (hd : decode cc pc = .ok (.getfield idx, 3)) (k : GG κ (pc + 3) loc (.ref (kad κ b) :: st) σ) : GG κ pc loc (.ref (kad κ a) :: st) σ := x_get (ci := 2) (j := 2) C rfl inX2 hk (by decide) ha (by decide) (nf_of ha hk (by decide) rfl) hw (fv_r rfl hb) hd k
theorem gX3_0 (C : Ok κ own cc nL d) (hk : kd a = 3) (ha : a < NC) (hw : Cond.fieldLink own idx "ArcFactoredParser$TransitionRun" "size" "I" ∈ gtbl) (hd : decode cc pc = .ok (.getfield idx, 3)) (k : GG κ (pc + 3) loc (.int (σ.1 a 0) :: st) σ) : GG κ pc loc (.ref (kad κ a) :: st) σ := x_get (ci := 3) (j := 0) C rfl inX3 hk (by decide) ha (by decide) (nf_of ha hk (by decide) rfl) hw (fv_i rfl) hd k
theorem qX3_0 {v : Int32} (C : Ok κ own cc nL d) (hk : kd a = 3) (ha : a < NC) (hw : Cond.fieldLink own idx "ArcFactoredParser$TransitionRun" "size" "I" ∈ gtbl) (hd : decode cc pc = .ok (.putfield idx, 3)) (k : GG κ (pc + 3) loc st (wI σ a 0 v)) : GG κ pc loc (.int v :: .ref (kad κ a) :: st) σ := x_putI (ci := 3) (j := 0) C rfl inX3 tyX3_ok nmX3 hk (by decide) ha (by decide) (nf_of ha hk (by decide) rfl) rfl rfl (nar_i v) (fit_i v) hw hd k
theorem gX3_1 {b : Nat} (C : Ok κ own cc nL d) (hk : kd a = 3) (ha : a < NC) (hb : mrN σ.2.2 a 1 = b) (hw : Cond.fieldLink own idx "ArcFactoredParser$TransitionRun" "heads" "[I" ∈ gtbl) (hd : decode cc pc = .ok (.getfield idx, 3)) (k : GG κ (pc + 3) loc (.ref (kad κ b) :: st) σ) : GG κ pc loc (.ref (kad κ a) :: st) σ := x_get (ci := 3) (j := 1) C rfl inX3 hk (by decide) ha (by decide) (nf_of ha hk (by decide) rfl) hw (fv_r rfl hb) hd k
theorem gX3_2 {b : Nat} (C : Ok κ own cc nL d) (hk : kd a = 3) (ha : a < NC) (hb : mrN σ.2.2 a 2 = b) (hw : Cond.fieldLink own idx "ArcFactoredParser$TransitionRun" "order" "[I" ∈ gtbl) (hd : decode cc pc = .ok (.getfield idx, 3)) (k : GG κ (pc + 3) loc (.ref (kad κ b) :: st) σ) : GG κ pc loc (.ref (kad κ a) :: st) σ := x_get (ci := 3) (j := 2) C rfl inX3 hk (by decide) ha (by decide) (nf_of ha hk (by decide) rfl) hw (fv_r rfl hb) hd k
theorem gX3_3 (C : Ok κ own cc nL d) (hk : kd a = 3) (ha : a < NC) (hw : Cond.fieldLink own idx "ArcFactoredParser$TransitionRun" "ordered" "I" ∈ gtbl) (hd : decode cc pc = .ok (.getfield idx, 3)) (k : GG κ (pc + 3) loc (.int (σ.1 a 3) :: st) σ) : GG κ pc loc (.ref (kad κ a) :: st) σ := x_get (ci := 3) (j := 3) C rfl inX3 hk (by decide) ha (by decide) (nf_of ha hk (by decide) rfl) hw (fv_i rfl) hd k
theorem qX3_3 {v : Int32} (C : Ok κ own cc nL d) (hk : kd a = 3) (ha : a < NC) (hw : Cond.fieldLink own idx "ArcFactoredParser$TransitionRun" "ordered" "I" ∈ gtbl) (hd : decode cc pc = .ok (.putfield idx, 3)) (k : GG κ (pc + 3) loc st (wI σ a 3 v)) : GG κ pc loc (.int v :: .ref (kad κ a) :: st) σ := x_putI (ci := 3) (j := 3) C rfl inX3 tyX3_ok nmX3 hk (by decide) ha (by decide) (nf_of ha hk (by decide) rfl) rfl rfl (nar_i v) (fit_i v) hw hd k
theorem gX3_4 {b : Nat} (C : Ok κ own cc nL d) (hk : kd a = 3) (ha : a < NC) (hb : mrN σ.2.2 a 4 = b) (hw : Cond.fieldLink own idx "ArcFactoredParser$TransitionRun" "places" "[I" ∈ gtbl) (hd : decode cc pc = .ok (.getfield idx, 3)) (k : GG κ (pc + 3) loc (.ref (kad κ b) :: st) σ) : GG κ pc loc (.ref (kad κ a) :: st) σ := x_get (ci := 3) (j := 4) C rfl inX3 hk (by decide) ha (by decide) (nf_of ha hk (by decide) rfl) hw (fv_r rfl hb) hd k
theorem gX3_5 {b : Nat} (C : Ok κ own cc nL d) (hk : kd a = 3) (ha : a < NC) (hb : mrN σ.2.2 a 5 = b) (hw : Cond.fieldLink own idx "ArcFactoredParser$TransitionRun" "sequence" "[I" ∈ gtbl) (hd : decode cc pc = .ok (.getfield idx, 3)) (k : GG κ (pc + 3) loc (.ref (kad κ b) :: st) σ) : GG κ pc loc (.ref (kad κ a) :: st) σ := x_get (ci := 3) (j := 5) C rfl inX3 hk (by decide) ha (by decide) (nf_of ha hk (by decide) rfl) hw (fv_r rfl hb) hd k
theorem gX3_6 (C : Ok κ own cc nL d) (hk : kd a = 3) (ha : a < NC) (hw : Cond.fieldLink own idx "ArcFactoredParser$TransitionRun" "length" "I" ∈ gtbl) (hd : decode cc pc = .ok (.getfield idx, 3)) (k : GG κ (pc + 3) loc (.int (σ.1 a 6) :: st) σ) : GG κ pc loc (.ref (kad κ a) :: st) σ := x_get (ci := 3) (j := 6) C rfl inX3 hk (by decide) ha (by decide) (nf_of ha hk (by decide) rfl) hw (fv_i rfl) hd k
theorem qX3_6 {v : Int32} (C : Ok κ own cc nL d) (hk : kd a = 3) (ha : a < NC) (hw : Cond.fieldLink own idx "ArcFactoredParser$TransitionRun" "length" "I" ∈ gtbl) (hd : decode cc pc = .ok (.putfield idx, 3)) (k : GG κ (pc + 3) loc st (wI σ a 6 v)) : GG κ pc loc (.int v :: .ref (kad κ a) :: st) σ := x_putI (ci := 3) (j := 6) C rfl inX3 tyX3_ok nmX3 hk (by decide) ha (by decide) (nf_of ha hk (by decide) rfl) rfl rfl (nar_i v) (fit_i v) hw hd k
theorem gX3_7 {b : Nat} (C : Ok κ own cc nL d) (hk : kd a = 3) (ha : a < NC) (hb : mrN σ.2.2 a 7 = b) (hw : Cond.fieldLink own idx "ArcFactoredParser$TransitionRun" "stack" "[I" ∈ gtbl) (hd : decode cc pc = .ok (.getfield idx, 3)) (k : GG κ (pc + 3) loc (.ref (kad κ b) :: st) σ) : GG κ pc loc (.ref (kad κ a) :: st) σ := x_get (ci := 3) (j := 7) C rfl inX3 hk (by decide) ha (by decide) (nf_of ha hk (by decide) rfl) hw (fv_r rfl hb) hd k
theorem gX3_8 (C : Ok κ own cc nL d) (hk : kd a = 3) (ha : a < NC) (hw : Cond.fieldLink own idx "ArcFactoredParser$TransitionRun" "stacked" "I" ∈ gtbl) (hd : decode cc pc = .ok (.getfield idx, 3)) (k : GG κ (pc + 3) loc (.int (σ.1 a 8) :: st) σ) : GG κ pc loc (.ref (kad κ a) :: st) σ := x_get (ci := 3) (j := 8) C rfl inX3 hk (by decide) ha (by decide) (nf_of ha hk (by decide) rfl) hw (fv_i rfl) hd k
theorem qX3_8 {v : Int32} (C : Ok κ own cc nL d) (hk : kd a = 3) (ha : a < NC) (hw : Cond.fieldLink own idx "ArcFactoredParser$TransitionRun" "stacked" "I" ∈ gtbl) (hd : decode cc pc = .ok (.putfield idx, 3)) (k : GG κ (pc + 3) loc st (wI σ a 8 v)) : GG κ pc loc (.int v :: .ref (kad κ a) :: st) σ := x_putI (ci := 3) (j := 8) C rfl inX3 tyX3_ok nmX3 hk (by decide) ha (by decide) (nf_of ha hk (by decide) rfl) rfl rfl (nar_i v) (fit_i v) hw hd k
theorem gX3_9 {b : Nat} (C : Ok κ own cc nL d) (hk : kd a = 3) (ha : a < NC) (hb : mrN σ.2.2 a 9 = b) (hw : Cond.fieldLink own idx "ArcFactoredParser$TransitionRun" "buffer" "[I" ∈ gtbl) (hd : decode cc pc = .ok (.getfield idx, 3)) (k : GG κ (pc + 3) loc (.ref (kad κ b) :: st) σ) : GG κ pc loc (.ref (kad κ a) :: st) σ := x_get (ci := 3) (j := 9) C rfl inX3 hk (by decide) ha (by decide) (nf_of ha hk (by decide) rfl) hw (fv_r rfl hb) hd k
theorem gX3_10 (C : Ok κ own cc nL d) (hk : kd a = 3) (ha : a < NC) (hw : Cond.fieldLink own idx "ArcFactoredParser$TransitionRun" "waiting" "I" ∈ gtbl) (hd : decode cc pc = .ok (.getfield idx, 3)) (k : GG κ (pc + 3) loc (.int (σ.1 a 10) :: st) σ) : GG κ pc loc (.ref (kad κ a) :: st) σ := x_get (ci := 3) (j := 10) C rfl inX3 hk (by decide) ha (by decide) (nf_of ha hk (by decide) rfl) hw (fv_i rfl) hd k
theorem qX3_10 {v : Int32} (C : Ok κ own cc nL d) (hk : kd a = 3) (ha : a < NC) (hw : Cond.fieldLink own idx "ArcFactoredParser$TransitionRun" "waiting" "I" ∈ gtbl) (hd : decode cc pc = .ok (.putfield idx, 3)) (k : GG κ (pc + 3) loc st (wI σ a 10 v)) : GG κ pc loc (.int v :: .ref (kad κ a) :: st) σ := x_putI (ci := 3) (j := 10) C rfl inX3 tyX3_ok nmX3 hk (by decide) ha (by decide) (nf_of ha hk (by decide) rfl) rfl rfl (nar_i v) (fit_i v) hw hd k
theorem gX3_11 {b : Nat} (C : Ok κ own cc nL d) (hk : kd a = 3) (ha : a < NC) (hb : mrN σ.2.2 a 11 = b) (hw : Cond.fieldLink own idx "ArcFactoredParser$TransitionRun" "attached" "[Z" ∈ gtbl) (hd : decode cc pc = .ok (.getfield idx, 3)) (k : GG κ (pc + 3) loc (.ref (kad κ b) :: st) σ) : GG κ pc loc (.ref (kad κ a) :: st) σ := x_get (ci := 3) (j := 11) C rfl inX3 hk (by decide) ha (by decide) (nf_of ha hk (by decide) rfl) hw (fv_r rfl hb) hd k
theorem gX4_0 {b : Nat} (C : Ok κ own cc nL d) (hk : kd a = 4) (ha : a < NC) (hb : mrN σ.2.2 a 0 = b) (hw : Cond.fieldLink own idx "ArcFactoredParser$TreeSearch" "settings" "LArcFactoredParser$Settings;" ∈ gtbl) (hd : decode cc pc = .ok (.getfield idx, 3)) (k : GG κ (pc + 3) loc (.ref (kad κ b) :: st) σ) : GG κ pc loc (.ref (kad κ a) :: st) σ := x_get (ci := 4) (j := 0) C rfl inX4 hk (by decide) ha (by decide) (nf_of ha hk (by decide) rfl) hw (fv_r rfl hb) hd k
theorem gX4_1 (C : Ok κ own cc nL d) (hk : kd a = 4) (ha : a < NC) (hw : Cond.fieldLink own idx "ArcFactoredParser$TreeSearch" "size" "I" ∈ gtbl) (hd : decode cc pc = .ok (.getfield idx, 3)) (k : GG κ (pc + 3) loc (.int (σ.1 a 1) :: st) σ) : GG κ pc loc (.ref (kad κ a) :: st) σ := x_get (ci := 4) (j := 1) C rfl inX4 hk (by decide) ha (by decide) (nf_of ha hk (by decide) rfl) hw (fv_i rfl) hd k
theorem qX4_1 {v : Int32} (C : Ok κ own cc nL d) (hk : kd a = 4) (ha : a < NC) (hw : Cond.fieldLink own idx "ArcFactoredParser$TreeSearch" "size" "I" ∈ gtbl) (hd : decode cc pc = .ok (.putfield idx, 3)) (k : GG κ (pc + 3) loc st (wI σ a 1 v)) : GG κ pc loc (.int v :: .ref (kad κ a) :: st) σ := x_putI (ci := 4) (j := 1) C rfl inX4 tyX4_ok nmX4 hk (by decide) ha (by decide) (nf_of ha hk (by decide) rfl) rfl rfl (nar_i v) (fit_i v) hw hd k
theorem gX4_2 {b : Nat} (C : Ok κ own cc nL d) (hk : kd a = 4) (ha : a < NC) (hb : mrN σ.2.2 a 2 = b) (hw : Cond.fieldLink own idx "ArcFactoredParser$TreeSearch" "values" "[[J" ∈ gtbl) (hd : decode cc pc = .ok (.getfield idx, 3)) (k : GG κ (pc + 3) loc (.ref (kad κ b) :: st) σ) : GG κ pc loc (.ref (kad κ a) :: st) σ := x_get (ci := 4) (j := 2) C rfl inX4 hk (by decide) ha (by decide) (nf_of ha hk (by decide) rfl) hw (fv_r rfl hb) hd k
theorem gX4_3 {b : Nat} (C : Ok κ own cc nL d) (hk : kd a = 4) (ha : a < NC) (hb : mrN σ.2.2 a 3 = b) (hw : Cond.fieldLink own idx "ArcFactoredParser$TreeSearch" "offered" "[[I" ∈ gtbl) (hd : decode cc pc = .ok (.getfield idx, 3)) (k : GG κ (pc + 3) loc (.ref (kad κ b) :: st) σ) : GG κ pc loc (.ref (kad κ a) :: st) σ := x_get (ci := 4) (j := 3) C rfl inX4 hk (by decide) ha (by decide) (nf_of ha hk (by decide) rfl) hw (fv_r rfl hb) hd k
theorem gX4_4 {b : Nat} (C : Ok κ own cc nL d) (hk : kd a = 4) (ha : a < NC) (hb : mrN σ.2.2 a 4 = b) (hw : Cond.fieldLink own idx "ArcFactoredParser$TreeSearch" "offers" "[I" ∈ gtbl) (hd : decode cc pc = .ok (.getfield idx, 3)) (k : GG κ (pc + 3) loc (.ref (kad κ b) :: st) σ) : GG κ pc loc (.ref (kad κ a) :: st) σ := x_get (ci := 4) (j := 4) C rfl inX4 hk (by decide) ha (by decide) (nf_of ha hk (by decide) rfl) hw (fv_r rfl hb) hd k
theorem gX4_5 {b : Nat} (C : Ok κ own cc nL d) (hk : kd a = 4) (ha : a < NC) (hb : mrN σ.2.2 a 5 = b) (hw : Cond.fieldLink own idx "ArcFactoredParser$TreeSearch" "rest" "[J" ∈ gtbl) (hd : decode cc pc = .ok (.getfield idx, 3)) (k : GG κ (pc + 3) loc (.ref (kad κ b) :: st) σ) : GG κ pc loc (.ref (kad κ a) :: st) σ := x_get (ci := 4) (j := 5) C rfl inX4 hk (by decide) ha (by decide) (nf_of ha hk (by decide) rfl) hw (fv_r rfl hb) hd k
theorem gX4_6 {b : Nat} (C : Ok κ own cc nL d) (hk : kd a = 4) (ha : a < NC) (hb : mrN σ.2.2 a 6 = b) (hw : Cond.fieldLink own idx "ArcFactoredParser$TreeSearch" "heads" "[I" ∈ gtbl) (hd : decode cc pc = .ok (.getfield idx, 3)) (k : GG κ (pc + 3) loc (.ref (kad κ b) :: st) σ) : GG κ pc loc (.ref (kad κ a) :: st) σ := x_get (ci := 4) (j := 6) C rfl inX4 hk (by decide) ha (by decide) (nf_of ha hk (by decide) rfl) hw (fv_r rfl hb) hd k
theorem gX4_7 {b : Nat} (C : Ok κ own cc nL d) (hk : kd a = 4) (ha : a < NC) (hb : mrN σ.2.2 a 7 = b) (hw : Cond.fieldLink own idx "ArcFactoredParser$TreeSearch" "kept" "[J" ∈ gtbl) (hd : decode cc pc = .ok (.getfield idx, 3)) (k : GG κ (pc + 3) loc (.ref (kad κ b) :: st) σ) : GG κ pc loc (.ref (kad κ a) :: st) σ := x_get (ci := 4) (j := 7) C rfl inX4 hk (by decide) ha (by decide) (nf_of ha hk (by decide) rfl) hw (fv_r rfl hb) hd k
theorem gX4_8 (C : Ok κ own cc nL d) (hk : kd a = 4) (ha : a < NC) (hw : Cond.fieldLink own idx "ArcFactoredParser$TreeSearch" "wanted" "I" ∈ gtbl) (hd : decode cc pc = .ok (.getfield idx, 3)) (k : GG κ (pc + 3) loc (.int (σ.1 a 8) :: st) σ) : GG κ pc loc (.ref (kad κ a) :: st) σ := x_get (ci := 4) (j := 8) C rfl inX4 hk (by decide) ha (by decide) (nf_of ha hk (by decide) rfl) hw (fv_i rfl) hd k
theorem qX4_8 {v : Int32} (C : Ok κ own cc nL d) (hk : kd a = 4) (ha : a < NC) (hw : Cond.fieldLink own idx "ArcFactoredParser$TreeSearch" "wanted" "I" ∈ gtbl) (hd : decode cc pc = .ok (.putfield idx, 3)) (k : GG κ (pc + 3) loc st (wI σ a 8 v)) : GG κ pc loc (.int v :: .ref (kad κ a) :: st) σ := x_putI (ci := 4) (j := 8) C rfl inX4 tyX4_ok nmX4 hk (by decide) ha (by decide) (nf_of ha hk (by decide) rfl) rfl rfl (nar_i v) (fit_i v) hw hd k
theorem gX4_9 (C : Ok κ own cc nL d) (hk : kd a = 4) (ha : a < NC) (hw : Cond.fieldLink own idx "ArcFactoredParser$TreeSearch" "found" "I" ∈ gtbl) (hd : decode cc pc = .ok (.getfield idx, 3)) (k : GG κ (pc + 3) loc (.int (σ.1 a 9) :: st) σ) : GG κ pc loc (.ref (kad κ a) :: st) σ := x_get (ci := 4) (j := 9) C rfl inX4 hk (by decide) ha (by decide) (nf_of ha hk (by decide) rfl) hw (fv_i rfl) hd k
theorem qX4_9 {v : Int32} (C : Ok κ own cc nL d) (hk : kd a = 4) (ha : a < NC) (hw : Cond.fieldLink own idx "ArcFactoredParser$TreeSearch" "found" "I" ∈ gtbl) (hd : decode cc pc = .ok (.putfield idx, 3)) (k : GG κ (pc + 3) loc st (wI σ a 9 v)) : GG κ pc loc (.int v :: .ref (kad κ a) :: st) σ := x_putI (ci := 4) (j := 9) C rfl inX4 tyX4_ok nmX4 hk (by decide) ha (by decide) (nf_of ha hk (by decide) rfl) rfl rfl (nar_i v) (fit_i v) hw hd k
theorem gX5_0 {b : Nat} (C : Ok κ own cc nL d) (hk : kd a = 5) (ha : a < NC) (hb : mrN σ.2.2 a 0 = b) (hw : Cond.fieldLink own idx "ArcFactoredParser$TreeSums" "settings" "LArcFactoredParser$Settings;" ∈ gtbl) (hd : decode cc pc = .ok (.getfield idx, 3)) (k : GG κ (pc + 3) loc (.ref (kad κ b) :: st) σ) : GG κ pc loc (.ref (kad κ a) :: st) σ := x_get (ci := 5) (j := 0) C rfl inX5 hk (by decide) ha (by decide) (nf_of ha hk (by decide) rfl) hw (fv_r rfl hb) hd k
theorem gX5_1 (C : Ok κ own cc nL d) (hk : kd a = 5) (ha : a < NC) (hw : Cond.fieldLink own idx "ArcFactoredParser$TreeSums" "size" "I" ∈ gtbl) (hd : decode cc pc = .ok (.getfield idx, 3)) (k : GG κ (pc + 3) loc (.int (σ.1 a 1) :: st) σ) : GG κ pc loc (.ref (kad κ a) :: st) σ := x_get (ci := 5) (j := 1) C rfl inX5 hk (by decide) ha (by decide) (nf_of ha hk (by decide) rfl) hw (fv_i rfl) hd k
theorem qX5_1 {v : Int32} (C : Ok κ own cc nL d) (hk : kd a = 5) (ha : a < NC) (hw : Cond.fieldLink own idx "ArcFactoredParser$TreeSums" "size" "I" ∈ gtbl) (hd : decode cc pc = .ok (.putfield idx, 3)) (k : GG κ (pc + 3) loc st (wI σ a 1 v)) : GG κ pc loc (.int v :: .ref (kad κ a) :: st) σ := x_putI (ci := 5) (j := 1) C rfl inX5 tyX5_ok nmX5 hk (by decide) ha (by decide) (nf_of ha hk (by decide) rfl) rfl rfl (nar_i v) (fit_i v) hw hd k
theorem gX5_2 {b : Nat} (C : Ok κ own cc nL d) (hk : kd a = 5) (ha : a < NC) (hb : mrN σ.2.2 a 2 = b) (hw : Cond.fieldLink own idx "ArcFactoredParser$TreeSums" "potentials" "[[J" ∈ gtbl) (hd : decode cc pc = .ok (.getfield idx, 3)) (k : GG κ (pc + 3) loc (.ref (kad κ b) :: st) σ) : GG κ pc loc (.ref (kad κ a) :: st) σ := x_get (ci := 5) (j := 2) C rfl inX5 hk (by decide) ha (by decide) (nf_of ha hk (by decide) rfl) hw (fv_r rfl hb) hd k
theorem gX5_3 {b : Nat} (C : Ok κ own cc nL d) (hk : kd a = 5) (ha : a < NC) (hb : mrN σ.2.2 a 3 = b) (hw : Cond.fieldLink own idx "ArcFactoredParser$TreeSums" "branches" "[[J" ∈ gtbl) (hd : decode cc pc = .ok (.getfield idx, 3)) (k : GG κ (pc + 3) loc (.ref (kad κ b) :: st) σ) : GG κ pc loc (.ref (kad κ a) :: st) σ := x_get (ci := 5) (j := 3) C rfl inX5 hk (by decide) ha (by decide) (nf_of ha hk (by decide) rfl) hw (fv_r rfl hb) hd k
theorem gX5_4 {b : Nat} (C : Ok κ own cc nL d) (hk : kd a = 5) (ha : a < NC) (hb : mrN σ.2.2 a 4 = b) (hw : Cond.fieldLink own idx "ArcFactoredParser$TreeSums" "forests" "[[J" ∈ gtbl) (hd : decode cc pc = .ok (.getfield idx, 3)) (k : GG κ (pc + 3) loc (.ref (kad κ b) :: st) σ) : GG κ pc loc (.ref (kad κ a) :: st) σ := x_get (ci := 5) (j := 4) C rfl inX5 hk (by decide) ha (by decide) (nf_of ha hk (by decide) rfl) hw (fv_r rfl hb) hd k
theorem gX5_5 {b : Nat} (C : Ok κ own cc nL d) (hk : kd a = 5) (ha : a < NC) (hb : mrN σ.2.2 a 5 = b) (hw : Cond.fieldLink own idx "ArcFactoredParser$TreeSums" "branchGains" "[[J" ∈ gtbl) (hd : decode cc pc = .ok (.getfield idx, 3)) (k : GG κ (pc + 3) loc (.ref (kad κ b) :: st) σ) : GG κ pc loc (.ref (kad κ a) :: st) σ := x_get (ci := 5) (j := 5) C rfl inX5 hk (by decide) ha (by decide) (nf_of ha hk (by decide) rfl) hw (fv_r rfl hb) hd k
theorem gX5_6 {b : Nat} (C : Ok κ own cc nL d) (hk : kd a = 5) (ha : a < NC) (hb : mrN σ.2.2 a 6 = b) (hw : Cond.fieldLink own idx "ArcFactoredParser$TreeSums" "forestGains" "[[J" ∈ gtbl) (hd : decode cc pc = .ok (.getfield idx, 3)) (k : GG κ (pc + 3) loc (.ref (kad κ b) :: st) σ) : GG κ pc loc (.ref (kad κ a) :: st) σ := x_get (ci := 5) (j := 6) C rfl inX5 hk (by decide) ha (by decide) (nf_of ha hk (by decide) rfl) hw (fv_r rfl hb) hd k
theorem gX5_7 {b : Nat} (C : Ok κ own cc nL d) (hk : kd a = 5) (ha : a < NC) (hb : mrN σ.2.2 a 7 = b) (hw : Cond.fieldLink own idx "ArcFactoredParser$TreeSums" "arcGains" "[[J" ∈ gtbl) (hd : decode cc pc = .ok (.getfield idx, 3)) (k : GG κ (pc + 3) loc (.ref (kad κ b) :: st) σ) : GG κ pc loc (.ref (kad κ a) :: st) σ := x_get (ci := 5) (j := 7) C rfl inX5 hk (by decide) ha (by decide) (nf_of ha hk (by decide) rfl) hw (fv_r rfl hb) hd k
theorem gX6_0 {b : Nat} (C : Ok κ own cc nL d) (hk : kd a = 6) (ha : a < NC) (hb : mrN σ.2.2 a 0 = b) (hw : Cond.fieldLink own idx "ArcFactoredParser$Weights" "byTags" "[[I" ∈ gtbl) (hd : decode cc pc = .ok (.getfield idx, 3)) (k : GG κ (pc + 3) loc (.ref (kad κ b) :: st) σ) : GG κ pc loc (.ref (kad κ a) :: st) σ := x_get (ci := 6) (j := 0) C rfl inX6 hk (by decide) ha (by decide) (nf_of ha hk (by decide) rfl) hw (fv_r rfl hb) hd k
theorem gX6_1 {b : Nat} (C : Ok κ own cc nL d) (hk : kd a = 6) (ha : a < NC) (hb : mrN σ.2.2 a 1 = b) (hw : Cond.fieldLink own idx "ArcFactoredParser$Weights" "byDistance" "[[I" ∈ gtbl) (hd : decode cc pc = .ok (.getfield idx, 3)) (k : GG κ (pc + 3) loc (.ref (kad κ b) :: st) σ) : GG κ pc loc (.ref (kad κ a) :: st) σ := x_get (ci := 6) (j := 1) C rfl inX6 hk (by decide) ha (by decide) (nf_of ha hk (by decide) rfl) hw (fv_r rfl hb) hd k
theorem gX7_0 {b : Nat} (C : Ok κ own cc nL d) (hk : kd a = 7) (ha : a < NC) (hb : mrN σ.2.2 a 0 = b) (hw : Cond.fieldLink own idx "ArcFactoredParser" "text" "LArcFactoredParser$Text;" ∈ gtbl) (hd : decode cc pc = .ok (.getfield idx, 3)) (k : GG κ (pc + 3) loc (.ref (kad κ b) :: st) σ) : GG κ pc loc (.ref (kad κ a) :: st) σ := x_get (ci := 7) (j := 0) C rfl inX7 hk (by decide) ha (by decide) (nf_of ha hk (by decide) rfl) hw (fv_r rfl hb) hd k
theorem gX7_1 {b : Nat} (C : Ok κ own cc nL d) (hk : kd a = 7) (ha : a < NC) (hb : mrN σ.2.2 a 1 = b) (hw : Cond.fieldLink own idx "ArcFactoredParser" "stored" "[LArcFactoredParser$Sentence;" ∈ gtbl) (hd : decode cc pc = .ok (.getfield idx, 3)) (k : GG κ (pc + 3) loc (.ref (kad κ b) :: st) σ) : GG κ pc loc (.ref (kad κ a) :: st) σ := x_get (ci := 7) (j := 1) C rfl inX7 hk (by decide) ha (by decide) (nf_of ha hk (by decide) rfl) hw (fv_r rfl hb) hd k
theorem gX7_2 (C : Ok κ own cc nL d) (hk : kd a = 7) (ha : a < NC) (hw : Cond.fieldLink own idx "ArcFactoredParser" "storedCount" "I" ∈ gtbl) (hd : decode cc pc = .ok (.getfield idx, 3)) (k : GG κ (pc + 3) loc (.int (σ.1 a 2) :: st) σ) : GG κ pc loc (.ref (kad κ a) :: st) σ := x_get (ci := 7) (j := 2) C rfl inX7 hk (by decide) ha (by decide) (nf_of ha hk (by decide) rfl) hw (fv_i rfl) hd k
theorem qX7_2 {v : Int32} (C : Ok κ own cc nL d) (hk : kd a = 7) (ha : a < NC) (hw : Cond.fieldLink own idx "ArcFactoredParser" "storedCount" "I" ∈ gtbl) (hd : decode cc pc = .ok (.putfield idx, 3)) (k : GG κ (pc + 3) loc st (wI σ a 2 v)) : GG κ pc loc (.int v :: .ref (kad κ a) :: st) σ := x_putI (ci := 7) (j := 2) C rfl inX7 tyX7_ok nmX7 hk (by decide) ha (by decide) (nf_of ha hk (by decide) rfl) rfl rfl (nar_i v) (fit_i v) hw hd k
theorem gX7_3 {b : Nat} (C : Ok κ own cc nL d) (hk : kd a = 7) (ha : a < NC) (hb : mrN σ.2.2 a 3 = b) (hw : Cond.fieldLink own idx "ArcFactoredParser" "weights" "LArcFactoredParser$Weights;" ∈ gtbl) (hd : decode cc pc = .ok (.getfield idx, 3)) (k : GG κ (pc + 3) loc (.ref (kad κ b) :: st) σ) : GG κ pc loc (.ref (kad κ a) :: st) σ := x_get (ci := 7) (j := 3) C rfl inX7 hk (by decide) ha (by decide) (nf_of ha hk (by decide) rfl) hw (fv_r rfl hb) hd k
theorem gX7_4 {b : Nat} (C : Ok κ own cc nL d) (hk : kd a = 7) (ha : a < NC) (hb : mrN σ.2.2 a 4 = b) (hw : Cond.fieldLink own idx "ArcFactoredParser" "slots" "[LArcFactoredParser$Weights;" ∈ gtbl) (hd : decode cc pc = .ok (.getfield idx, 3)) (k : GG κ (pc + 3) loc (.ref (kad κ b) :: st) σ) : GG κ pc loc (.ref (kad κ a) :: st) σ := x_get (ci := 7) (j := 4) C rfl inX7 hk (by decide) ha (by decide) (nf_of ha hk (by decide) rfl) hw (fv_r rfl hb) hd k
theorem gX7_5 {b : Nat} (C : Ok κ own cc nL d) (hk : kd a = 7) (ha : a < NC) (hb : mrN σ.2.2 a 5 = b) (hw : Cond.fieldLink own idx "ArcFactoredParser" "slotUsed" "[Z" ∈ gtbl) (hd : decode cc pc = .ok (.getfield idx, 3)) (k : GG κ (pc + 3) loc (.ref (kad κ b) :: st) σ) : GG κ pc loc (.ref (kad κ a) :: st) σ := x_get (ci := 7) (j := 5) C rfl inX7 hk (by decide) ha (by decide) (nf_of ha hk (by decide) rfl) hw (fv_r rfl hb) hd k
theorem gX7_6 {b : Nat} (C : Ok κ own cc nL d) (hk : kd a = 7) (ha : a < NC) (hb : mrN σ.2.2 a 6 = b) (hw : Cond.fieldLink own idx "ArcFactoredParser" "settings" "LArcFactoredParser$Settings;" ∈ gtbl) (hd : decode cc pc = .ok (.getfield idx, 3)) (k : GG κ (pc + 3) loc (.ref (kad κ b) :: st) σ) : GG κ pc loc (.ref (kad κ a) :: st) σ := x_get (ci := 7) (j := 6) C rfl inX7 hk (by decide) ha (by decide) (nf_of ha hk (by decide) rfl) hw (fv_r rfl hb) hd k
theorem gX7_7 {b : Nat} (C : Ok κ own cc nL d) (hk : kd a = 7) (ha : a < NC) (hb : mrN σ.2.2 a 7 = b) (hw : Cond.fieldLink own idx "ArcFactoredParser" "search" "LArcFactoredParser$TreeSearch;" ∈ gtbl) (hd : decode cc pc = .ok (.getfield idx, 3)) (k : GG κ (pc + 3) loc (.ref (kad κ b) :: st) σ) : GG κ pc loc (.ref (kad κ a) :: st) σ := x_get (ci := 7) (j := 7) C rfl inX7 hk (by decide) ha (by decide) (nf_of ha hk (by decide) rfl) hw (fv_r rfl hb) hd k
theorem gX7_8 {b : Nat} (C : Ok κ own cc nL d) (hk : kd a = 7) (ha : a < NC) (hb : mrN σ.2.2 a 8 = b) (hw : Cond.fieldLink own idx "ArcFactoredParser" "sums" "LArcFactoredParser$TreeSums;" ∈ gtbl) (hd : decode cc pc = .ok (.getfield idx, 3)) (k : GG κ (pc + 3) loc (.ref (kad κ b) :: st) σ) : GG κ pc loc (.ref (kad κ a) :: st) σ := x_get (ci := 7) (j := 8) C rfl inX7 hk (by decide) ha (by decide) (nf_of ha hk (by decide) rfl) hw (fv_r rfl hb) hd k
theorem gX7_9 {b : Nat} (C : Ok κ own cc nL d) (hk : kd a = 7) (ha : a < NC) (hb : mrN σ.2.2 a 9 = b) (hw : Cond.fieldLink own idx "ArcFactoredParser" "transitionRun" "LArcFactoredParser$TransitionRun;" ∈ gtbl) (hd : decode cc pc = .ok (.getfield idx, 3)) (k : GG κ (pc + 3) loc (.ref (kad κ b) :: st) σ) : GG κ pc loc (.ref (kad κ a) :: st) σ := x_get (ci := 7) (j := 9) C rfl inX7 hk (by decide) ha (by decide) (nf_of ha hk (by decide) rfl) hw (fv_r rfl hb) hd k
theorem gX8_0 {b : Nat} (C : Ok κ own cc nL d) (hk : kd a = 8) (ha : a < NC) (hb : mrN σ.2.2 a 0 = b) (hw : Cond.fieldLink own idx "ArcFactoredParserModel" "text" "[I" ∈ gtbl) (hd : decode cc pc = .ok (.getfield idx, 3)) (k : GG κ (pc + 3) loc (.ref (kad κ b) :: st) σ) : GG κ pc loc (.ref (kad κ a) :: st) σ := x_get (ci := 8) (j := 0) C rfl inX8 hk (by decide) ha (by decide) (nf_of ha hk (by decide) rfl) hw (fv_r rfl hb) hd k
theorem gX8_1 (C : Ok κ own cc nL d) (hk : kd a = 8) (ha : a < NC) (hw : Cond.fieldLink own idx "ArcFactoredParserModel" "length" "I" ∈ gtbl) (hd : decode cc pc = .ok (.getfield idx, 3)) (k : GG κ (pc + 3) loc (.int (σ.1 a 1) :: st) σ) : GG κ pc loc (.ref (kad κ a) :: st) σ := x_get (ci := 8) (j := 1) C rfl inX8 hk (by decide) ha (by decide) (nf_of ha hk (by decide) rfl) hw (fv_i rfl) hd k
theorem qX8_1 {v : Int32} (C : Ok κ own cc nL d) (hk : kd a = 8) (ha : a < NC) (hw : Cond.fieldLink own idx "ArcFactoredParserModel" "length" "I" ∈ gtbl) (hd : decode cc pc = .ok (.putfield idx, 3)) (k : GG κ (pc + 3) loc st (wI σ a 1 v)) : GG κ pc loc (.int v :: .ref (kad κ a) :: st) σ := x_putI (ci := 8) (j := 1) C rfl inX8 tyX8_ok nmX8 hk (by decide) ha (by decide) (nf_of ha hk (by decide) rfl) rfl rfl (nar_i v) (fit_i v) hw hd k
theorem gX8_2 (C : Ok κ own cc nL d) (hk : kd a = 8) (ha : a < NC) (hw : Cond.fieldLink own idx "ArcFactoredParserModel" "many" "I" ∈ gtbl) (hd : decode cc pc = .ok (.getfield idx, 3)) (k : GG κ (pc + 3) loc (.int (σ.1 a 2) :: st) σ) : GG κ pc loc (.ref (kad κ a) :: st) σ := x_get (ci := 8) (j := 2) C rfl inX8 hk (by decide) ha (by decide) (nf_of ha hk (by decide) rfl) hw (fv_i rfl) hd k
theorem qX8_2 {v : Int32} (C : Ok κ own cc nL d) (hk : kd a = 8) (ha : a < NC) (hw : Cond.fieldLink own idx "ArcFactoredParserModel" "many" "I" ∈ gtbl) (hd : decode cc pc = .ok (.putfield idx, 3)) (k : GG κ (pc + 3) loc st (wI σ a 2 v)) : GG κ pc loc (.int v :: .ref (kad κ a) :: st) σ := x_putI (ci := 8) (j := 2) C rfl inX8 tyX8_ok nmX8 hk (by decide) ha (by decide) (nf_of ha hk (by decide) rfl) rfl rfl (nar_i v) (fit_i v) hw hd k
theorem gX8_3 {b : Nat} (C : Ok κ own cc nL d) (hk : kd a = 8) (ha : a < NC) (hb : mrN σ.2.2 a 3 = b) (hw : Cond.fieldLink own idx "ArcFactoredParserModel" "words" "[I" ∈ gtbl) (hd : decode cc pc = .ok (.getfield idx, 3)) (k : GG κ (pc + 3) loc (.ref (kad κ b) :: st) σ) : GG κ pc loc (.ref (kad κ a) :: st) σ := x_get (ci := 8) (j := 3) C rfl inX8 hk (by decide) ha (by decide) (nf_of ha hk (by decide) rfl) hw (fv_r rfl hb) hd k
theorem gX8_4 {b : Nat} (C : Ok κ own cc nL d) (hk : kd a = 8) (ha : a < NC) (hb : mrN σ.2.2 a 4 = b) (hw : Cond.fieldLink own idx "ArcFactoredParserModel" "tags" "[I" ∈ gtbl) (hd : decode cc pc = .ok (.getfield idx, 3)) (k : GG κ (pc + 3) loc (.ref (kad κ b) :: st) σ) : GG κ pc loc (.ref (kad κ a) :: st) σ := x_get (ci := 8) (j := 4) C rfl inX8 hk (by decide) ha (by decide) (nf_of ha hk (by decide) rfl) hw (fv_r rfl hb) hd k
theorem gX8_5 {b : Nat} (C : Ok κ own cc nL d) (hk : kd a = 8) (ha : a < NC) (hb : mrN σ.2.2 a 5 = b) (hw : Cond.fieldLink own idx "ArcFactoredParserModel" "heads" "[I" ∈ gtbl) (hd : decode cc pc = .ok (.getfield idx, 3)) (k : GG κ (pc + 3) loc (.ref (kad κ b) :: st) σ) : GG κ pc loc (.ref (kad κ a) :: st) σ := x_get (ci := 8) (j := 5) C rfl inX8 hk (by decide) ha (by decide) (nf_of ha hk (by decide) rfl) hw (fv_r rfl hb) hd k
theorem gX8_6 {b : Nat} (C : Ok κ own cc nL d) (hk : kd a = 8) (ha : a < NC) (hb : mrN σ.2.2 a 6 = b) (hw : Cond.fieldLink own idx "ArcFactoredParserModel" "biases" "[I" ∈ gtbl) (hd : decode cc pc = .ok (.getfield idx, 3)) (k : GG κ (pc + 3) loc (.ref (kad κ b) :: st) σ) : GG κ pc loc (.ref (kad κ a) :: st) σ := x_get (ci := 8) (j := 6) C rfl inX8 hk (by decide) ha (by decide) (nf_of ha hk (by decide) rfl) hw (fv_r rfl hb) hd k
theorem gX8_7 {b : Nat} (C : Ok κ own cc nL d) (hk : kd a = 8) (ha : a < NC) (hb : mrN σ.2.2 a 7 = b) (hw : Cond.fieldLink own idx "ArcFactoredParserModel" "constraints" "[I" ∈ gtbl) (hd : decode cc pc = .ok (.getfield idx, 3)) (k : GG κ (pc + 3) loc (.ref (kad κ b) :: st) σ) : GG κ pc loc (.ref (kad κ a) :: st) σ := x_get (ci := 8) (j := 7) C rfl inX8 hk (by decide) ha (by decide) (nf_of ha hk (by decide) rfl) hw (fv_r rfl hb) hd k
theorem gX8_8 {b : Nat} (C : Ok κ own cc nL d) (hk : kd a = 8) (ha : a < NC) (hb : mrN σ.2.2 a 8 = b) (hw : Cond.fieldLink own idx "ArcFactoredParserModel" "weights" "[I" ∈ gtbl) (hd : decode cc pc = .ok (.getfield idx, 3)) (k : GG κ (pc + 3) loc (.ref (kad κ b) :: st) σ) : GG κ pc loc (.ref (kad κ a) :: st) σ := x_get (ci := 8) (j := 8) C rfl inX8 hk (by decide) ha (by decide) (nf_of ha hk (by decide) rfl) hw (fv_r rfl hb) hd k
theorem gX8_9 {b : Nat} (C : Ok κ own cc nL d) (hk : kd a = 8) (ha : a < NC) (hb : mrN σ.2.2 a 9 = b) (hw : Cond.fieldLink own idx "ArcFactoredParserModel" "kept" "[I" ∈ gtbl) (hd : decode cc pc = .ok (.getfield idx, 3)) (k : GG κ (pc + 3) loc (.ref (kad κ b) :: st) σ) : GG κ pc loc (.ref (kad κ a) :: st) σ := x_get (ci := 8) (j := 9) C rfl inX8 hk (by decide) ha (by decide) (nf_of ha hk (by decide) rfl) hw (fv_r rfl hb) hd k
theorem gX8_10 {b : Nat} (C : Ok κ own cc nL d) (hk : kd a = 8) (ha : a < NC) (hb : mrN σ.2.2 a 10 = b) (hw : Cond.fieldLink own idx "ArcFactoredParserModel" "isKept" "[Z" ∈ gtbl) (hd : decode cc pc = .ok (.getfield idx, 3)) (k : GG κ (pc + 3) loc (.ref (kad κ b) :: st) σ) : GG κ pc loc (.ref (kad κ a) :: st) σ := x_get (ci := 8) (j := 10) C rfl inX8 hk (by decide) ha (by decide) (nf_of ha hk (by decide) rfl) hw (fv_r rfl hb) hd k
theorem gX8_11 (C : Ok κ own cc nL d) (hk : kd a = 8) (ha : a < NC) (hw : Cond.fieldLink own idx "ArcFactoredParserModel" "isSingle" "Z" ∈ gtbl) (hd : decode cc pc = .ok (.getfield idx, 3)) (k : GG κ (pc + 3) loc (.int (σ.1 a 11) :: st) σ) : GG κ pc loc (.ref (kad κ a) :: st) σ := x_get (ci := 8) (j := 11) C rfl inX8 hk (by decide) ha (by decide) (nf_of ha hk (by decide) rfl) hw (fv_i rfl) hd k
theorem qX8_11 {v : Int32} (C : Ok κ own cc nL d) (hk : kd a = 8) (ha : a < NC) (hz : isB v) (hw : Cond.fieldLink own idx "ArcFactoredParserModel" "isSingle" "Z" ∈ gtbl) (hd : decode cc pc = .ok (.putfield idx, 3)) (k : GG κ (pc + 3) loc st (wI σ a 11 v)) : GG κ pc loc (.int v :: .ref (kad κ a) :: st) σ := x_putI (ci := 8) (j := 11) C rfl inX8 tyX8_ok nmX8 hk (by decide) ha (by decide) (nf_of ha hk (by decide) rfl) rfl rfl (nar_z hz) (fit_z hz) hw hd k
theorem gX8_12 (C : Ok κ own cc nL d) (hk : kd a = 8) (ha : a < NC) (hw : Cond.fieldLink own idx "ArcFactoredParserModel" "isProjective" "Z" ∈ gtbl) (hd : decode cc pc = .ok (.getfield idx, 3)) (k : GG κ (pc + 3) loc (.int (σ.1 a 12) :: st) σ) : GG κ pc loc (.ref (kad κ a) :: st) σ := x_get (ci := 8) (j := 12) C rfl inX8 hk (by decide) ha (by decide) (nf_of ha hk (by decide) rfl) hw (fv_i rfl) hd k
theorem qX8_12 {v : Int32} (C : Ok κ own cc nL d) (hk : kd a = 8) (ha : a < NC) (hz : isB v) (hw : Cond.fieldLink own idx "ArcFactoredParserModel" "isProjective" "Z" ∈ gtbl) (hd : decode cc pc = .ok (.putfield idx, 3)) (k : GG κ (pc + 3) loc st (wI σ a 12 v)) : GG κ pc loc (.int v :: .ref (kad κ a) :: st) σ := x_putI (ci := 8) (j := 12) C rfl inX8 tyX8_ok nmX8 hk (by decide) ha (by decide) (nf_of ha hk (by decide) rfl) rfl rfl (nar_z hz) (fit_z hz) hw hd k
theorem gX8_13 (C : Ok κ own cc nL d) (hk : kd a = 8) (ha : a < NC) (hw : Cond.fieldLink own idx "ArcFactoredParserModel" "shift" "I" ∈ gtbl) (hd : decode cc pc = .ok (.getfield idx, 3)) (k : GG κ (pc + 3) loc (.int (σ.1 a 13) :: st) σ) : GG κ pc loc (.ref (kad κ a) :: st) σ := x_get (ci := 8) (j := 13) C rfl inX8 hk (by decide) ha (by decide) (nf_of ha hk (by decide) rfl) hw (fv_i rfl) hd k
theorem qX8_13 {v : Int32} (C : Ok κ own cc nL d) (hk : kd a = 8) (ha : a < NC) (hw : Cond.fieldLink own idx "ArcFactoredParserModel" "shift" "I" ∈ gtbl) (hd : decode cc pc = .ok (.putfield idx, 3)) (k : GG κ (pc + 3) loc st (wI σ a 13 v)) : GG κ pc loc (.int v :: .ref (kad κ a) :: st) σ := x_putI (ci := 8) (j := 13) C rfl inX8 tyX8_ok nmX8 hk (by decide) ha (by decide) (nf_of ha hk (by decide) rfl) rfl rfl (nar_i v) (fit_i v) hw hd k
theorem gX8_14 (C : Ok κ own cc nL d) (hk : kd a = 8) (ha : a < NC) (hw : Cond.fieldLink own idx "ArcFactoredParserModel" "told" "I" ∈ gtbl) (hd : decode cc pc = .ok (.getfield idx, 3)) (k : GG κ (pc + 3) loc (.int (σ.1 a 14) :: st) σ) : GG κ pc loc (.ref (kad κ a) :: st) σ := x_get (ci := 8) (j := 14) C rfl inX8 hk (by decide) ha (by decide) (nf_of ha hk (by decide) rfl) hw (fv_i rfl) hd k
theorem qX8_14 {v : Int32} (C : Ok κ own cc nL d) (hk : kd a = 8) (ha : a < NC) (hw : Cond.fieldLink own idx "ArcFactoredParserModel" "told" "I" ∈ gtbl) (hd : decode cc pc = .ok (.putfield idx, 3)) (k : GG κ (pc + 3) loc st (wI σ a 14 v)) : GG κ pc loc (.int v :: .ref (kad κ a) :: st) σ := x_putI (ci := 8) (j := 14) C rfl inX8 tyX8_ok nmX8 hk (by decide) ha (by decide) (nf_of ha hk (by decide) rfl) rfl rfl (nar_i v) (fit_i v) hw hd k
theorem gX8_15 {b : Nat} (C : Ok κ own cc nL d) (hk : kd a = 8) (ha : a < NC) (hb : mrN σ.2.2 a 15 = b) (hw : Cond.fieldLink own idx "ArcFactoredParserModel" "toldWords" "[I" ∈ gtbl) (hd : decode cc pc = .ok (.getfield idx, 3)) (k : GG κ (pc + 3) loc (.ref (kad κ b) :: st) σ) : GG κ pc loc (.ref (kad κ a) :: st) σ := x_get (ci := 8) (j := 15) C rfl inX8 hk (by decide) ha (by decide) (nf_of ha hk (by decide) rfl) hw (fv_r rfl hb) hd k
theorem gX8_16 {b : Nat} (C : Ok κ own cc nL d) (hk : kd a = 8) (ha : a < NC) (hb : mrN σ.2.2 a 16 = b) (hw : Cond.fieldLink own idx "ArcFactoredParserModel" "begins" "[I" ∈ gtbl) (hd : decode cc pc = .ok (.getfield idx, 3)) (k : GG κ (pc + 3) loc (.ref (kad κ b) :: st) σ) : GG κ pc loc (.ref (kad κ a) :: st) σ := x_get (ci := 8) (j := 16) C rfl inX8 hk (by decide) ha (by decide) (nf_of ha hk (by decide) rfl) hw (fv_r rfl hb) hd k
theorem gX8_17 {b : Nat} (C : Ok κ own cc nL d) (hk : kd a = 8) (ha : a < NC) (hb : mrN σ.2.2 a 17 = b) (hw : Cond.fieldLink own idx "ArcFactoredParserModel" "row" "[I" ∈ gtbl) (hd : decode cc pc = .ok (.getfield idx, 3)) (k : GG κ (pc + 3) loc (.ref (kad κ b) :: st) σ) : GG κ pc loc (.ref (kad κ a) :: st) σ := x_get (ci := 8) (j := 17) C rfl inX8 hk (by decide) ha (by decide) (nf_of ha hk (by decide) rfl) hw (fv_r rfl hb) hd k
theorem gX8_18 {b : Nat} (C : Ok κ own cc nL d) (hk : kd a = 8) (ha : a < NC) (hb : mrN σ.2.2 a 18 = b) (hw : Cond.fieldLink own idx "ArcFactoredParserModel" "scores" "[I" ∈ gtbl) (hd : decode cc pc = .ok (.getfield idx, 3)) (k : GG κ (pc + 3) loc (.ref (kad κ b) :: st) σ) : GG κ pc loc (.ref (kad κ a) :: st) σ := x_get (ci := 8) (j := 18) C rfl inX8 hk (by decide) ha (by decide) (nf_of ha hk (by decide) rfl) hw (fv_r rfl hb) hd k
theorem gX8_19 {b : Nat} (C : Ok κ own cc nL d) (hk : kd a = 8) (ha : a < NC) (hb : mrN σ.2.2 a 19 = b) (hw : Cond.fieldLink own idx "ArcFactoredParserModel" "potentials" "[I" ∈ gtbl) (hd : decode cc pc = .ok (.getfield idx, 3)) (k : GG κ (pc + 3) loc (.ref (kad κ b) :: st) σ) : GG κ pc loc (.ref (kad κ a) :: st) σ := x_get (ci := 8) (j := 19) C rfl inX8 hk (by decide) ha (by decide) (nf_of ha hk (by decide) rfl) hw (fv_r rfl hb) hd k
theorem gX8_20 {b : Nat} (C : Ok κ own cc nL d) (hk : kd a = 8) (ha : a < NC) (hb : mrN σ.2.2 a 20 = b) (hw : Cond.fieldLink own idx "ArcFactoredParserModel" "tried" "[I" ∈ gtbl) (hd : decode cc pc = .ok (.getfield idx, 3)) (k : GG κ (pc + 3) loc (.ref (kad κ b) :: st) σ) : GG κ pc loc (.ref (kad κ a) :: st) σ := x_get (ci := 8) (j := 20) C rfl inX8 hk (by decide) ha (by decide) (nf_of ha hk (by decide) rfl) hw (fv_r rfl hb) hd k
theorem gX8_21 (C : Ok κ own cc nL d) (hk : kd a = 8) (ha : a < NC) (hw : Cond.fieldLink own idx "ArcFactoredParserModel" "ranked" "I" ∈ gtbl) (hd : decode cc pc = .ok (.getfield idx, 3)) (k : GG κ (pc + 3) loc (.int (σ.1 a 21) :: st) σ) : GG κ pc loc (.ref (kad κ a) :: st) σ := x_get (ci := 8) (j := 21) C rfl inX8 hk (by decide) ha (by decide) (nf_of ha hk (by decide) rfl) hw (fv_i rfl) hd k
theorem qX8_21 {v : Int32} (C : Ok κ own cc nL d) (hk : kd a = 8) (ha : a < NC) (hw : Cond.fieldLink own idx "ArcFactoredParserModel" "ranked" "I" ∈ gtbl) (hd : decode cc pc = .ok (.putfield idx, 3)) (k : GG κ (pc + 3) loc st (wI σ a 21 v)) : GG κ pc loc (.int v :: .ref (kad κ a) :: st) σ := x_putI (ci := 8) (j := 21) C rfl inX8 tyX8_ok nmX8 hk (by decide) ha (by decide) (nf_of ha hk (by decide) rfl) rfl rfl (nar_i v) (fit_i v) hw hd k
theorem gX8_22 {b : Nat} (C : Ok κ own cc nL d) (hk : kd a = 8) (ha : a < NC) (hb : mrN σ.2.2 a 22 = b) (hw : Cond.fieldLink own idx "ArcFactoredParserModel" "rankScores" "[I" ∈ gtbl) (hd : decode cc pc = .ok (.getfield idx, 3)) (k : GG κ (pc + 3) loc (.ref (kad κ b) :: st) σ) : GG κ pc loc (.ref (kad κ a) :: st) σ := x_get (ci := 8) (j := 22) C rfl inX8 hk (by decide) ha (by decide) (nf_of ha hk (by decide) rfl) hw (fv_r rfl hb) hd k
theorem gX8_23 {b : Nat} (C : Ok κ own cc nL d) (hk : kd a = 8) (ha : a < NC) (hb : mrN σ.2.2 a 23 = b) (hw : Cond.fieldLink own idx "ArcFactoredParserModel" "rankHeads" "[I" ∈ gtbl) (hd : decode cc pc = .ok (.getfield idx, 3)) (k : GG κ (pc + 3) loc (.ref (kad κ b) :: st) σ) : GG κ pc loc (.ref (kad κ a) :: st) σ := x_get (ci := 8) (j := 23) C rfl inX8 hk (by decide) ha (by decide) (nf_of ha hk (by decide) rfl) hw (fv_r rfl hb) hd k
theorem gX8_24 (C : Ok κ own cc nL d) (hk : kd a = 8) (ha : a < NC) (hw : Cond.fieldLink own idx "ArcFactoredParserModel" "count" "I" ∈ gtbl) (hd : decode cc pc = .ok (.getfield idx, 3)) (k : GG κ (pc + 3) loc (.int (σ.1 a 24) :: st) σ) : GG κ pc loc (.ref (kad κ a) :: st) σ := x_get (ci := 8) (j := 24) C rfl inX8 hk (by decide) ha (by decide) (nf_of ha hk (by decide) rfl) hw (fv_i rfl) hd k
theorem qX8_24 {v : Int32} (C : Ok κ own cc nL d) (hk : kd a = 8) (ha : a < NC) (hw : Cond.fieldLink own idx "ArcFactoredParserModel" "count" "I" ∈ gtbl) (hd : decode cc pc = .ok (.putfield idx, 3)) (k : GG κ (pc + 3) loc st (wI σ a 24 v)) : GG κ pc loc (.int v :: .ref (kad κ a) :: st) σ := x_putI (ci := 8) (j := 24) C rfl inX8 tyX8_ok nmX8 hk (by decide) ha (by decide) (nf_of ha hk (by decide) rfl) rfl rfl (nar_i v) (fit_i v) hw hd k
theorem gX8_25 (C : Ok κ own cc nL d) (hk : kd a = 8) (ha : a < NC) (hw : Cond.fieldLink own idx "ArcFactoredParserModel" "weightAll" "J" ∈ gtbl) (hd : decode cc pc = .ok (.getfield idx, 3)) (k : GG κ (pc + 3) loc (.long (σ.2.1 a 25) :: st) σ) : GG κ pc loc (.ref (kad κ a) :: st) σ := x_get (ci := 8) (j := 25) C rfl inX8 hk (by decide) ha (by decide) (nf_of ha hk (by decide) rfl) hw (fv_l rfl) hd k
theorem qX8_25 {v : Int64} (C : Ok κ own cc nL d) (hk : kd a = 8) (ha : a < NC) (hw : Cond.fieldLink own idx "ArcFactoredParserModel" "weightAll" "J" ∈ gtbl) (hd : decode cc pc = .ok (.putfield idx, 3)) (k : GG κ (pc + 3) loc st (wL σ a 25 v)) : GG κ pc loc (.long v :: .ref (kad κ a) :: st) σ := x_putL (ci := 8) (j := 25) C rfl inX8 tyX8_ok nmX8 hk (by decide) ha (by decide) (nf_of ha hk (by decide) rfl) rfl rfl rfl rfl hw hd k
theorem gX8_26 {b : Nat} (C : Ok κ own cc nL d) (hk : kd a = 8) (ha : a < NC) (hb : mrN σ.2.2 a 26 = b) (hw : Cond.fieldLink own idx "ArcFactoredParserModel" "arcBest" "[I" ∈ gtbl) (hd : decode cc pc = .ok (.getfield idx, 3)) (k : GG κ (pc + 3) loc (.ref (kad κ b) :: st) σ) : GG κ pc loc (.ref (kad κ a) :: st) σ := x_get (ci := 8) (j := 26) C rfl inX8 hk (by decide) ha (by decide) (nf_of ha hk (by decide) rfl) hw (fv_r rfl hb) hd k
theorem gX8_27 {b : Nat} (C : Ok κ own cc nL d) (hk : kd a = 8) (ha : a < NC) (hb : mrN σ.2.2 a 27 = b) (hw : Cond.fieldLink own idx "ArcFactoredParserModel" "arcWeight" "[J" ∈ gtbl) (hd : decode cc pc = .ok (.getfield idx, 3)) (k : GG κ (pc + 3) loc (.ref (kad κ b) :: st) σ) : GG κ pc loc (.ref (kad κ a) :: st) σ := x_get (ci := 8) (j := 27) C rfl inX8 hk (by decide) ha (by decide) (nf_of ha hk (by decide) rfl) hw (fv_r rfl hb) hd k
theorem gX8_28 (C : Ok κ own cc nL d) (hk : kd a = 8) (ha : a < NC) (hw : Cond.fieldLink own idx "ArcFactoredParserModel" "bestOther" "I" ∈ gtbl) (hd : decode cc pc = .ok (.getfield idx, 3)) (k : GG κ (pc + 3) loc (.int (σ.1 a 28) :: st) σ) : GG κ pc loc (.ref (kad κ a) :: st) σ := x_get (ci := 8) (j := 28) C rfl inX8 hk (by decide) ha (by decide) (nf_of ha hk (by decide) rfl) hw (fv_i rfl) hd k
theorem qX8_28 {v : Int32} (C : Ok κ own cc nL d) (hk : kd a = 8) (ha : a < NC) (hw : Cond.fieldLink own idx "ArcFactoredParserModel" "bestOther" "I" ∈ gtbl) (hd : decode cc pc = .ok (.putfield idx, 3)) (k : GG κ (pc + 3) loc st (wI σ a 28 v)) : GG κ pc loc (.int v :: .ref (kad κ a) :: st) σ := x_putI (ci := 8) (j := 28) C rfl inX8 tyX8_ok nmX8 hk (by decide) ha (by decide) (nf_of ha hk (by decide) rfl) rfl rfl (nar_i v) (fit_i v) hw hd k
theorem gX8_29 (C : Ok κ own cc nL d) (hk : kd a = 8) (ha : a < NC) (hw : Cond.fieldLink own idx "ArcFactoredParserModel" "risk" "J" ∈ gtbl) (hd : decode cc pc = .ok (.getfield idx, 3)) (k : GG κ (pc + 3) loc (.long (σ.2.1 a 29) :: st) σ) : GG κ pc loc (.ref (kad κ a) :: st) σ := x_get (ci := 8) (j := 29) C rfl inX8 hk (by decide) ha (by decide) (nf_of ha hk (by decide) rfl) hw (fv_l rfl) hd k
theorem qX8_29 {v : Int64} (C : Ok κ own cc nL d) (hk : kd a = 8) (ha : a < NC) (hw : Cond.fieldLink own idx "ArcFactoredParserModel" "risk" "J" ∈ gtbl) (hd : decode cc pc = .ok (.putfield idx, 3)) (k : GG κ (pc + 3) loc st (wL σ a 29 v)) : GG κ pc loc (.long v :: .ref (kad κ a) :: st) σ := x_putL (ci := 8) (j := 29) C rfl inX8 tyX8_ok nmX8 hk (by decide) ha (by decide) (nf_of ha hk (by decide) rfl) rfl rfl rfl rfl hw hd k
theorem gX8_30 {b : Nat} (C : Ok κ own cc nL d) (hk : kd a = 8) (ha : a < NC) (hb : mrN σ.2.2 a 30 = b) (hw : Cond.fieldLink own idx "ArcFactoredParserModel" "riskHeads" "[I" ∈ gtbl) (hd : decode cc pc = .ok (.getfield idx, 3)) (k : GG κ (pc + 3) loc (.ref (kad κ b) :: st) σ) : GG κ pc loc (.ref (kad κ a) :: st) σ := x_get (ci := 8) (j := 30) C rfl inX8 hk (by decide) ha (by decide) (nf_of ha hk (by decide) rfl) hw (fv_r rfl hb) hd k
theorem gX8_31 {b : Nat} (C : Ok κ own cc nL d) (hk : kd a = 8) (ha : a < NC) (hb : mrN σ.2.2 a 31 = b) (hw : Cond.fieldLink own idx "ArcFactoredParserModel" "order" "[I" ∈ gtbl) (hd : decode cc pc = .ok (.getfield idx, 3)) (k : GG κ (pc + 3) loc (.ref (kad κ b) :: st) σ) : GG κ pc loc (.ref (kad κ a) :: st) σ := x_get (ci := 8) (j := 31) C rfl inX8 hk (by decide) ha (by decide) (nf_of ha hk (by decide) rfl) hw (fv_r rfl hb) hd k
theorem gX8_32 {b : Nat} (C : Ok κ own cc nL d) (hk : kd a = 8) (ha : a < NC) (hb : mrN σ.2.2 a 32 = b) (hw : Cond.fieldLink own idx "ArcFactoredParserModel" "places" "[I" ∈ gtbl) (hd : decode cc pc = .ok (.getfield idx, 3)) (k : GG κ (pc + 3) loc (.ref (kad κ b) :: st) σ) : GG κ pc loc (.ref (kad κ a) :: st) σ := x_get (ci := 8) (j := 32) C rfl inX8 hk (by decide) ha (by decide) (nf_of ha hk (by decide) rfl) hw (fv_r rfl hb) hd k
theorem gX8_33 (C : Ok κ own cc nL d) (hk : kd a = 8) (ha : a < NC) (hw : Cond.fieldLink own idx "ArcFactoredParserModel" "moves" "I" ∈ gtbl) (hd : decode cc pc = .ok (.getfield idx, 3)) (k : GG κ (pc + 3) loc (.int (σ.1 a 33) :: st) σ) : GG κ pc loc (.ref (kad κ a) :: st) σ := x_get (ci := 8) (j := 33) C rfl inX8 hk (by decide) ha (by decide) (nf_of ha hk (by decide) rfl) hw (fv_i rfl) hd k
theorem qX8_33 {v : Int32} (C : Ok κ own cc nL d) (hk : kd a = 8) (ha : a < NC) (hw : Cond.fieldLink own idx "ArcFactoredParserModel" "moves" "I" ∈ gtbl) (hd : decode cc pc = .ok (.putfield idx, 3)) (k : GG κ (pc + 3) loc st (wI σ a 33 v)) : GG κ pc loc (.int v :: .ref (kad κ a) :: st) σ := x_putI (ci := 8) (j := 33) C rfl inX8 tyX8_ok nmX8 hk (by decide) ha (by decide) (nf_of ha hk (by decide) rfl) rfl rfl (nar_i v) (fit_i v) hw hd k
theorem gX8_34 {b : Nat} (C : Ok κ own cc nL d) (hk : kd a = 8) (ha : a < NC) (hb : mrN σ.2.2 a 34 = b) (hw : Cond.fieldLink own idx "ArcFactoredParserModel" "moved" "[I" ∈ gtbl) (hd : decode cc pc = .ok (.getfield idx, 3)) (k : GG κ (pc + 3) loc (.ref (kad κ b) :: st) σ) : GG κ pc loc (.ref (kad κ a) :: st) σ := x_get (ci := 8) (j := 34) C rfl inX8 hk (by decide) ha (by decide) (nf_of ha hk (by decide) rfl) hw (fv_r rfl hb) hd k
theorem gX8_35 {b : Nat} (C : Ok κ own cc nL d) (hk : kd a = 8) (ha : a < NC) (hb : mrN σ.2.2 a 35 = b) (hw : Cond.fieldLink own idx "ArcFactoredParserModel" "stack" "[I" ∈ gtbl) (hd : decode cc pc = .ok (.getfield idx, 3)) (k : GG κ (pc + 3) loc (.ref (kad κ b) :: st) σ) : GG κ pc loc (.ref (kad κ a) :: st) σ := x_get (ci := 8) (j := 35) C rfl inX8 hk (by decide) ha (by decide) (nf_of ha hk (by decide) rfl) hw (fv_r rfl hb) hd k
theorem gX8_36 (C : Ok κ own cc nL d) (hk : kd a = 8) (ha : a < NC) (hw : Cond.fieldLink own idx "ArcFactoredParserModel" "height" "I" ∈ gtbl) (hd : decode cc pc = .ok (.getfield idx, 3)) (k : GG κ (pc + 3) loc (.int (σ.1 a 36) :: st) σ) : GG κ pc loc (.ref (kad κ a) :: st) σ := x_get (ci := 8) (j := 36) C rfl inX8 hk (by decide) ha (by decide) (nf_of ha hk (by decide) rfl) hw (fv_i rfl) hd k
theorem qX8_36 {v : Int32} (C : Ok κ own cc nL d) (hk : kd a = 8) (ha : a < NC) (hw : Cond.fieldLink own idx "ArcFactoredParserModel" "height" "I" ∈ gtbl) (hd : decode cc pc = .ok (.putfield idx, 3)) (k : GG κ (pc + 3) loc st (wI σ a 36 v)) : GG κ pc loc (.int v :: .ref (kad κ a) :: st) σ := x_putI (ci := 8) (j := 36) C rfl inX8 tyX8_ok nmX8 hk (by decide) ha (by decide) (nf_of ha hk (by decide) rfl) rfl rfl (nar_i v) (fit_i v) hw hd k
theorem gX8_37 {b : Nat} (C : Ok κ own cc nL d) (hk : kd a = 8) (ha : a < NC) (hb : mrN σ.2.2 a 37 = b) (hw : Cond.fieldLink own idx "ArcFactoredParserModel" "buffer" "[I" ∈ gtbl) (hd : decode cc pc = .ok (.getfield idx, 3)) (k : GG κ (pc + 3) loc (.ref (kad κ b) :: st) σ) : GG κ pc loc (.ref (kad κ a) :: st) σ := x_get (ci := 8) (j := 37) C rfl inX8 hk (by decide) ha (by decide) (nf_of ha hk (by decide) rfl) hw (fv_r rfl hb) hd k
theorem gX8_38 (C : Ok κ own cc nL d) (hk : kd a = 8) (ha : a < NC) (hw : Cond.fieldLink own idx "ArcFactoredParserModel" "left" "I" ∈ gtbl) (hd : decode cc pc = .ok (.getfield idx, 3)) (k : GG κ (pc + 3) loc (.int (σ.1 a 38) :: st) σ) : GG κ pc loc (.ref (kad κ a) :: st) σ := x_get (ci := 8) (j := 38) C rfl inX8 hk (by decide) ha (by decide) (nf_of ha hk (by decide) rfl) hw (fv_i rfl) hd k
theorem qX8_38 {v : Int32} (C : Ok κ own cc nL d) (hk : kd a = 8) (ha : a < NC) (hw : Cond.fieldLink own idx "ArcFactoredParserModel" "left" "I" ∈ gtbl) (hd : decode cc pc = .ok (.putfield idx, 3)) (k : GG κ (pc + 3) loc st (wI σ a 38 v)) : GG κ pc loc (.int v :: .ref (kad κ a) :: st) σ := x_putI (ci := 8) (j := 38) C rfl inX8 tyX8_ok nmX8 hk (by decide) ha (by decide) (nf_of ha hk (by decide) rfl) rfl rfl (nar_i v) (fit_i v) hw hd k
theorem gX8_39 (C : Ok κ own cc nL d) (hk : kd a = 8) (ha : a < NC) (hw : Cond.fieldLink own idx "ArcFactoredParserModel" "attached" "I" ∈ gtbl) (hd : decode cc pc = .ok (.getfield idx, 3)) (k : GG κ (pc + 3) loc (.int (σ.1 a 39) :: st) σ) : GG κ pc loc (.ref (kad κ a) :: st) σ := x_get (ci := 8) (j := 39) C rfl inX8 hk (by decide) ha (by decide) (nf_of ha hk (by decide) rfl) hw (fv_i rfl) hd k
theorem qX8_39 {v : Int32} (C : Ok κ own cc nL d) (hk : kd a = 8) (ha : a < NC) (hw : Cond.fieldLink own idx "ArcFactoredParserModel" "attached" "I" ∈ gtbl) (hd : decode cc pc = .ok (.putfield idx, 3)) (k : GG κ (pc + 3) loc st (wI σ a 39 v)) : GG κ pc loc (.int v :: .ref (kad κ a) :: st) σ := x_putI (ci := 8) (j := 39) C rfl inX8 tyX8_ok nmX8 hk (by decide) ha (by decide) (nf_of ha hk (by decide) rfl) rfl rfl (nar_i v) (fit_i v) hw hd k
end XF
end
section
set_option maxRecDepth 20000 in
theorem tw_1 : Cond.initialized "ArcFactoredParser" ∈ gtbl := gt_mem 1 rfl rfl
set_option maxRecDepth 20000 in
theorem tw_2 : Cond.initialized "ArcFactoredParser$Text" ∈ gtbl := gt_mem 2 rfl rfl
set_option maxRecDepth 20000 in
theorem tw_3 : Cond.initialized "ArcFactoredParser$Sentence" ∈ gtbl := gt_mem 3 rfl rfl
set_option maxRecDepth 20000 in
theorem tw_4 : Cond.initialized "ArcFactoredParser$Weights" ∈ gtbl := gt_mem 4 rfl rfl
set_option maxRecDepth 20000 in
theorem tw_6 : Cond.initialized "ArcFactoredParser$TreeSearch" ∈ gtbl := gt_mem 6 rfl rfl
set_option maxRecDepth 20000 in
theorem tw_7 : Cond.initialized "ArcFactoredParser$TreeSums" ∈ gtbl := gt_mem 7 rfl rfl
set_option maxRecDepth 20000 in
theorem tw_8 : Cond.initialized "ArcFactoredParser$TransitionRun" ∈ gtbl := gt_mem 8 rfl rfl
set_option maxRecDepth 20000 in
theorem tw_9 : Cond.initialized "ArcFactoredParserModel" ∈ gtbl := gt_mem 9 rfl rfl
set_option maxRecDepth 20000 in
theorem tw_10 : Cond.initialized "java/lang/Integer" ∈ gtbl := gt_mem 10 rfl rfl
set_option maxRecDepth 20000 in
theorem tw_11 : Cond.initialized "java/lang/Math" ∈ gtbl := gt_mem 11 rfl rfl
set_option maxRecDepth 20000 in
theorem tw_12 : Cond.initialized "java/lang/System" ∈ gtbl := gt_mem 12 rfl rfl
set_option maxRecDepth 20000 in
theorem tw_27 : Cond.fieldLink RX2 9 "ArcFactoredParser$Text" "letters" "[I" ∈ gtbl := gt_mem 27 rfl rfl
set_option maxRecDepth 20000 in
theorem tw_28 : Cond.fieldLink RX7 90 "ArcFactoredParser$Text" "letters" "[I" ∈ gtbl := gt_mem 28 rfl rfl
set_option maxRecDepth 20000 in
theorem tw_29 : Cond.fieldLink RX2 15 "ArcFactoredParser$Text" "length" "I" ∈ gtbl := gt_mem 29 rfl rfl
set_option maxRecDepth 20000 in
theorem tw_30 : Cond.fieldLink RX7 77 "ArcFactoredParser$Text" "length" "I" ∈ gtbl := gt_mem 30 rfl rfl
set_option maxRecDepth 20000 in
theorem tw_31 : Cond.fieldLink RX2 19 "ArcFactoredParser$Text" "heads" "[I" ∈ gtbl := gt_mem 31 rfl rfl
set_option maxRecDepth 20000 in
theorem tw_49 : Cond.fieldLink RX0 9 "ArcFactoredParser$Sentence" "size" "I" ∈ gtbl := gt_mem 49 rfl rfl
set_option maxRecDepth 20000 in
theorem tw_50 : Cond.fieldLink RX3 50 "ArcFactoredParser$Sentence" "size" "I" ∈ gtbl := gt_mem 50 rfl rfl
set_option maxRecDepth 20000 in
theorem tw_51 : Cond.fieldLink RX7 109 "ArcFactoredParser$Sentence" "size" "I" ∈ gtbl := gt_mem 51 rfl rfl
set_option maxRecDepth 20000 in
theorem tw_52 : Cond.fieldLink RX0 15 "ArcFactoredParser$Sentence" "tags" "[I" ∈ gtbl := gt_mem 52 rfl rfl
set_option maxRecDepth 20000 in
theorem tw_53 : Cond.fieldLink RX6 19 "ArcFactoredParser$Sentence" "tags" "[I" ∈ gtbl := gt_mem 53 rfl rfl
set_option maxRecDepth 20000 in
theorem tw_54 : Cond.fieldLink RX7 115 "ArcFactoredParser$Sentence" "tags" "[I" ∈ gtbl := gt_mem 54 rfl rfl
set_option maxRecDepth 20000 in
theorem tw_55 : Cond.fieldLink RX0 19 "ArcFactoredParser$Sentence" "heads" "[I" ∈ gtbl := gt_mem 55 rfl rfl
set_option maxRecDepth 20000 in
theorem tw_56 : Cond.fieldLink RX3 53 "ArcFactoredParser$Sentence" "heads" "[I" ∈ gtbl := gt_mem 56 rfl rfl
set_option maxRecDepth 20000 in
theorem tw_57 : Cond.fieldLink RX7 118 "ArcFactoredParser$Sentence" "heads" "[I" ∈ gtbl := gt_mem 57 rfl rfl
set_option maxRecDepth 20000 in
theorem tw_58 : Cond.fieldLink RX0 24 "ArcFactoredParser$Sentence" "biases" "[[I" ∈ gtbl := gt_mem 58 rfl rfl
set_option maxRecDepth 20000 in
theorem tw_59 : Cond.fieldLink RX7 160 "ArcFactoredParser$Sentence" "biases" "[[I" ∈ gtbl := gt_mem 59 rfl rfl
set_option maxRecDepth 20000 in
theorem tw_60 : Cond.fieldLink RX0 27 "ArcFactoredParser$Sentence" "constraints" "[[I" ∈ gtbl := gt_mem 60 rfl rfl
set_option maxRecDepth 20000 in
theorem tw_61 : Cond.fieldLink RX7 163 "ArcFactoredParser$Sentence" "constraints" "[[I" ∈ gtbl := gt_mem 61 rfl rfl
set_option maxRecDepth 20000 in
theorem tw_80 : Cond.fieldLink RX6 11 "ArcFactoredParser$Weights" "byTags" "[[I" ∈ gtbl := gt_mem 80 rfl rfl
set_option maxRecDepth 20000 in
theorem tw_81 : Cond.fieldLink RX7 150 "ArcFactoredParser$Weights" "byTags" "[[I" ∈ gtbl := gt_mem 81 rfl rfl
set_option maxRecDepth 20000 in
theorem tw_82 : Cond.fieldLink RX6 16 "ArcFactoredParser$Weights" "byDistance" "[[I" ∈ gtbl := gt_mem 82 rfl rfl
set_option maxRecDepth 20000 in
theorem tw_83 : Cond.fieldLink RX7 157 "ArcFactoredParser$Weights" "byDistance" "[[I" ∈ gtbl := gt_mem 83 rfl rfl
set_option maxRecDepth 20000 in
theorem tw_97 : Cond.fieldLink RX5 50 "ArcFactoredParser$Settings" "singleRoot" "Z" ∈ gtbl := gt_mem 97 rfl rfl
set_option maxRecDepth 20000 in
theorem tw_98 : Cond.fieldLink RX4 71 "ArcFactoredParser$Settings" "singleRoot" "Z" ∈ gtbl := gt_mem 98 rfl rfl
set_option maxRecDepth 20000 in
theorem tw_99 : Cond.fieldLink RX7 166 "ArcFactoredParser$Settings" "singleRoot" "Z" ∈ gtbl := gt_mem 99 rfl rfl
set_option maxRecDepth 20000 in
theorem tw_101 : Cond.fieldLink RX4 81 "ArcFactoredParser$Settings" "projective" "Z" ∈ gtbl := gt_mem 101 rfl rfl
set_option maxRecDepth 20000 in
theorem tw_102 : Cond.fieldLink RX5 74 "ArcFactoredParser$Settings" "projective" "Z" ∈ gtbl := gt_mem 102 rfl rfl
set_option maxRecDepth 20000 in
theorem tw_103 : Cond.fieldLink RX7 170 "ArcFactoredParser$Settings" "projective" "Z" ∈ gtbl := gt_mem 103 rfl rfl
set_option maxRecDepth 20000 in
theorem tw_105 : Cond.fieldLink RX7 173 "ArcFactoredParser$Settings" "shift" "I" ∈ gtbl := gt_mem 105 rfl rfl
set_option maxRecDepth 20000 in
theorem tw_123 : Cond.fieldLink RX4 45 "ArcFactoredParser$TreeSearch" "settings" "LArcFactoredParser$Settings;" ∈ gtbl := gt_mem 123 rfl rfl
set_option maxRecDepth 20000 in
theorem tw_124 : Cond.fieldLink RX4 9 "ArcFactoredParser$TreeSearch" "size" "I" ∈ gtbl := gt_mem 124 rfl rfl
set_option maxRecDepth 20000 in
theorem tw_125 : Cond.fieldLink RX4 17 "ArcFactoredParser$TreeSearch" "values" "[[J" ∈ gtbl := gt_mem 125 rfl rfl
set_option maxRecDepth 20000 in
theorem tw_126 : Cond.fieldLink RX4 22 "ArcFactoredParser$TreeSearch" "offered" "[[I" ∈ gtbl := gt_mem 126 rfl rfl
set_option maxRecDepth 20000 in
theorem tw_127 : Cond.fieldLink RX4 25 "ArcFactoredParser$TreeSearch" "offers" "[I" ∈ gtbl := gt_mem 127 rfl rfl
set_option maxRecDepth 20000 in
theorem tw_128 : Cond.fieldLink RX4 29 "ArcFactoredParser$TreeSearch" "rest" "[J" ∈ gtbl := gt_mem 128 rfl rfl
set_option maxRecDepth 20000 in
theorem tw_129 : Cond.fieldLink RX4 33 "ArcFactoredParser$TreeSearch" "heads" "[I" ∈ gtbl := gt_mem 129 rfl rfl
set_option maxRecDepth 20000 in
theorem tw_130 : Cond.fieldLink RX4 36 "ArcFactoredParser$TreeSearch" "kept" "[J" ∈ gtbl := gt_mem 130 rfl rfl
set_option maxRecDepth 20000 in
theorem tw_131 : Cond.fieldLink RX4 39 "ArcFactoredParser$TreeSearch" "wanted" "I" ∈ gtbl := gt_mem 131 rfl rfl
set_option maxRecDepth 20000 in
theorem tw_132 : Cond.fieldLink RX4 42 "ArcFactoredParser$TreeSearch" "found" "I" ∈ gtbl := gt_mem 132 rfl rfl
set_option maxRecDepth 20000 in
theorem tw_133 : Cond.fieldLink RX7 133 "ArcFactoredParser$TreeSearch" "found" "I" ∈ gtbl := gt_mem 133 rfl rfl
set_option maxRecDepth 20000 in
theorem tw_163 : Cond.fieldLink RX5 35 "ArcFactoredParser$TreeSums" "settings" "LArcFactoredParser$Settings;" ∈ gtbl := gt_mem 163 rfl rfl
set_option maxRecDepth 20000 in
theorem tw_164 : Cond.fieldLink RX5 9 "ArcFactoredParser$TreeSums" "size" "I" ∈ gtbl := gt_mem 164 rfl rfl
set_option maxRecDepth 20000 in
theorem tw_165 : Cond.fieldLink RX5 17 "ArcFactoredParser$TreeSums" "potentials" "[[J" ∈ gtbl := gt_mem 165 rfl rfl
set_option maxRecDepth 20000 in
theorem tw_166 : Cond.fieldLink RX5 20 "ArcFactoredParser$TreeSums" "branches" "[[J" ∈ gtbl := gt_mem 166 rfl rfl
set_option maxRecDepth 20000 in
theorem tw_167 : Cond.fieldLink RX5 23 "ArcFactoredParser$TreeSums" "forests" "[[J" ∈ gtbl := gt_mem 167 rfl rfl
set_option maxRecDepth 20000 in
theorem tw_168 : Cond.fieldLink RX5 26 "ArcFactoredParser$TreeSums" "branchGains" "[[J" ∈ gtbl := gt_mem 168 rfl rfl
set_option maxRecDepth 20000 in
theorem tw_169 : Cond.fieldLink RX5 29 "ArcFactoredParser$TreeSums" "forestGains" "[[J" ∈ gtbl := gt_mem 169 rfl rfl
set_option maxRecDepth 20000 in
theorem tw_170 : Cond.fieldLink RX5 32 "ArcFactoredParser$TreeSums" "arcGains" "[[J" ∈ gtbl := gt_mem 170 rfl rfl
set_option maxRecDepth 20000 in
theorem tw_194 : Cond.fieldLink RX3 9 "ArcFactoredParser$TransitionRun" "size" "I" ∈ gtbl := gt_mem 194 rfl rfl
set_option maxRecDepth 20000 in
theorem tw_195 : Cond.fieldLink RX3 15 "ArcFactoredParser$TransitionRun" "heads" "[I" ∈ gtbl := gt_mem 195 rfl rfl
set_option maxRecDepth 20000 in
theorem tw_196 : Cond.fieldLink RX3 19 "ArcFactoredParser$TransitionRun" "order" "[I" ∈ gtbl := gt_mem 196 rfl rfl
set_option maxRecDepth 20000 in
theorem tw_197 : Cond.fieldLink RX7 231 "ArcFactoredParser$TransitionRun" "order" "[I" ∈ gtbl := gt_mem 197 rfl rfl
set_option maxRecDepth 20000 in
theorem tw_198 : Cond.fieldLink RX3 22 "ArcFactoredParser$TransitionRun" "ordered" "I" ∈ gtbl := gt_mem 198 rfl rfl
set_option maxRecDepth 20000 in
theorem tw_199 : Cond.fieldLink RX3 25 "ArcFactoredParser$TransitionRun" "places" "[I" ∈ gtbl := gt_mem 199 rfl rfl
set_option maxRecDepth 20000 in
theorem tw_200 : Cond.fieldLink RX3 28 "ArcFactoredParser$TransitionRun" "sequence" "[I" ∈ gtbl := gt_mem 200 rfl rfl
set_option maxRecDepth 20000 in
theorem tw_201 : Cond.fieldLink RX7 237 "ArcFactoredParser$TransitionRun" "sequence" "[I" ∈ gtbl := gt_mem 201 rfl rfl
set_option maxRecDepth 20000 in
theorem tw_202 : Cond.fieldLink RX3 31 "ArcFactoredParser$TransitionRun" "length" "I" ∈ gtbl := gt_mem 202 rfl rfl
set_option maxRecDepth 20000 in
theorem tw_203 : Cond.fieldLink RX7 309 "ArcFactoredParser$TransitionRun" "length" "I" ∈ gtbl := gt_mem 203 rfl rfl
set_option maxRecDepth 20000 in
theorem tw_204 : Cond.fieldLink RX3 34 "ArcFactoredParser$TransitionRun" "stack" "[I" ∈ gtbl := gt_mem 204 rfl rfl
set_option maxRecDepth 20000 in
theorem tw_205 : Cond.fieldLink RX3 37 "ArcFactoredParser$TransitionRun" "stacked" "I" ∈ gtbl := gt_mem 205 rfl rfl
set_option maxRecDepth 20000 in
theorem tw_206 : Cond.fieldLink RX3 40 "ArcFactoredParser$TransitionRun" "buffer" "[I" ∈ gtbl := gt_mem 206 rfl rfl
set_option maxRecDepth 20000 in
theorem tw_207 : Cond.fieldLink RX3 43 "ArcFactoredParser$TransitionRun" "waiting" "I" ∈ gtbl := gt_mem 207 rfl rfl
set_option maxRecDepth 20000 in
theorem tw_208 : Cond.fieldLink RX3 46 "ArcFactoredParser$TransitionRun" "attached" "[Z" ∈ gtbl := gt_mem 208 rfl rfl
set_option maxRecDepth 20000 in
theorem tw_234 : Cond.fieldLink RX7 12 "ArcFactoredParser" "text" "LArcFactoredParser$Text;" ∈ gtbl := gt_mem 234 rfl rfl
set_option maxRecDepth 20000 in
theorem tw_235 : Cond.fieldLink RX7 18 "ArcFactoredParser" "stored" "[LArcFactoredParser$Sentence;" ∈ gtbl := gt_mem 235 rfl rfl
set_option maxRecDepth 20000 in
theorem tw_236 : Cond.fieldLink RX7 23 "ArcFactoredParser" "storedCount" "I" ∈ gtbl := gt_mem 236 rfl rfl
set_option maxRecDepth 20000 in
theorem tw_237 : Cond.fieldLink RX7 30 "ArcFactoredParser" "weights" "LArcFactoredParser$Weights;" ∈ gtbl := gt_mem 237 rfl rfl
set_option maxRecDepth 20000 in
theorem tw_238 : Cond.fieldLink RX7 34 "ArcFactoredParser" "slots" "[LArcFactoredParser$Weights;" ∈ gtbl := gt_mem 238 rfl rfl
set_option maxRecDepth 20000 in
theorem tw_239 : Cond.fieldLink RX7 38 "ArcFactoredParser" "slotUsed" "[Z" ∈ gtbl := gt_mem 239 rfl rfl
set_option maxRecDepth 20000 in
theorem tw_240 : Cond.fieldLink RX7 45 "ArcFactoredParser" "settings" "LArcFactoredParser$Settings;" ∈ gtbl := gt_mem 240 rfl rfl
set_option maxRecDepth 20000 in
theorem tw_241 : Cond.fieldLink RX7 54 "ArcFactoredParser" "search" "LArcFactoredParser$TreeSearch;" ∈ gtbl := gt_mem 241 rfl rfl
set_option maxRecDepth 20000 in
theorem tw_242 : Cond.fieldLink RX7 61 "ArcFactoredParser" "sums" "LArcFactoredParser$TreeSums;" ∈ gtbl := gt_mem 242 rfl rfl
set_option maxRecDepth 20000 in
theorem tw_243 : Cond.fieldLink RX7 68 "ArcFactoredParser" "transitionRun" "LArcFactoredParser$TransitionRun;" ∈ gtbl := gt_mem 243 rfl rfl
set_option maxRecDepth 20000 in
theorem tw_269 : Cond.constant RX7 72 (-1000002) ∈ gtbl := gt_mem 269 rfl rfl
set_option maxRecDepth 20000 in
theorem tw_270 : Cond.methodLink RX7 73 yX2_add ∈ gtbl := gt_mem 270 rfl rfl
set_option maxRecDepth 20000 in
theorem tw_271 : Cond.instanceMethod yX2_add ∈ gtbl := gt_mem 271 rfl rfl
set_option maxRecDepth 20000 in
theorem tw_272 : Cond.selects RX2 yX2_add yX2_add ∈ gtbl := gt_mem 272 rfl rfl
set_option maxRecDepth 20000 in
theorem tw_273 : Cond.code yX2_add cX2_add 2 (some .boolean) ∈ gtbl := gt_mem 273 rfl rfl
set_option maxRecDepth 20000 in
theorem tw_274 : Cond.constant RX7 80 (-1000003) ∈ gtbl := gt_mem 274 rfl rfl
set_option maxRecDepth 20000 in
theorem tw_283 : Cond.methodLink RX7 81 yX2_findFault ∈ gtbl := gt_mem 283 rfl rfl
set_option maxRecDepth 20000 in
theorem tw_284 : Cond.instanceMethod yX2_findFault ∈ gtbl := gt_mem 284 rfl rfl
set_option maxRecDepth 20000 in
theorem tw_285 : Cond.selects RX2 yX2_findFault yX2_findFault ∈ gtbl := gt_mem 285 rfl rfl
set_option maxRecDepth 20000 in
theorem tw_286 : Cond.code yX2_findFault cX2_findFault 5 (some .int) ∈ gtbl := gt_mem 286 rfl rfl
set_option maxRecDepth 20000 in
theorem tw_287 : Cond.methodLink RX2 22 yX2_isHeadOf ∈ gtbl := gt_mem 287 rfl rfl
set_option maxRecDepth 20000 in
theorem tw_288 : Cond.static yX2_isHeadOf ∈ gtbl := gt_mem 288 rfl rfl
set_option maxRecDepth 20000 in
theorem tw_289 : Cond.code yX2_isHeadOf cX2_isHeadOf 2 (some .boolean) ∈ gtbl := gt_mem 289 rfl rfl
set_option maxRecDepth 20000 in
theorem tw_290 : Cond.methodLink RX2 35 yX2_isDigit ∈ gtbl := gt_mem 290 rfl rfl
set_option maxRecDepth 20000 in
theorem tw_291 : Cond.static yX2_isDigit ∈ gtbl := gt_mem 291 rfl rfl
set_option maxRecDepth 20000 in
theorem tw_292 : Cond.code yX2_isDigit cX2_isDigit 1 (some .boolean) ∈ gtbl := gt_mem 292 rfl rfl
set_option maxRecDepth 20000 in
theorem tw_294 : Cond.static yX7_formTree ∈ gtbl := gt_mem 294 rfl rfl
set_option maxRecDepth 20000 in
theorem tw_295 : Cond.code yX7_formTree cX7_formTree 3 (some .boolean) ∈ gtbl := gt_mem 295 rfl rfl
set_option maxRecDepth 20000 in
theorem tw_296 : Cond.methodLink RX7 223 yX7_countStepsToRoot ∈ gtbl := gt_mem 296 rfl rfl
set_option maxRecDepth 20000 in
theorem tw_297 : Cond.static yX7_countStepsToRoot ∈ gtbl := gt_mem 297 rfl rfl
set_option maxRecDepth 20000 in
theorem tw_298 : Cond.code yX7_countStepsToRoot cX7_countStepsToRoot 5 (some .int) ∈ gtbl := gt_mem 298 rfl rfl
set_option maxRecDepth 20000 in
theorem tw_299 : Cond.constant RX7 85 (-1000004) ∈ gtbl := gt_mem 299 rfl rfl
set_option maxRecDepth 20000 in
theorem tw_300 : Cond.methodLink RX2 30 yX2_isTagLetter ∈ gtbl := gt_mem 300 rfl rfl
set_option maxRecDepth 20000 in
theorem tw_301 : Cond.static yX2_isTagLetter ∈ gtbl := gt_mem 301 rfl rfl
set_option maxRecDepth 20000 in
theorem tw_302 : Cond.code yX2_isTagLetter cX2_isTagLetter 1 (some .boolean) ∈ gtbl := gt_mem 302 rfl rfl
set_option maxRecDepth 20000 in
theorem tw_303 : Cond.constant RX2 34 (-1000004) ∈ gtbl := gt_mem 303 rfl rfl
set_option maxRecDepth 20000 in
theorem tw_308 : Cond.constant RX7 86 (-1000005) ∈ gtbl := gt_mem 308 rfl rfl
set_option maxRecDepth 20000 in
theorem tw_309 : Cond.methodLink RX7 87 yX2_countSentences ∈ gtbl := gt_mem 309 rfl rfl
set_option maxRecDepth 20000 in
theorem tw_310 : Cond.instanceMethod yX2_countSentences ∈ gtbl := gt_mem 310 rfl rfl
set_option maxRecDepth 20000 in
theorem tw_311 : Cond.selects RX2 yX2_countSentences yX2_countSentences ∈ gtbl := gt_mem 311 rfl rfl
set_option maxRecDepth 20000 in
theorem tw_312 : Cond.code yX2_countSentences cX2_countSentences 3 (some .int) ∈ gtbl := gt_mem 312 rfl rfl
set_option maxRecDepth 20000 in
theorem tw_313 : Cond.methodLink RX7 94 yX2_isDigit ∈ gtbl := gt_mem 313 rfl rfl
set_option maxRecDepth 20000 in
theorem tw_314 : Cond.methodLink RX7 97 yX0_addWord ∈ gtbl := gt_mem 314 rfl rfl
set_option maxRecDepth 20000 in
theorem tw_315 : Cond.instanceMethod yX0_addWord ∈ gtbl := gt_mem 315 rfl rfl
set_option maxRecDepth 20000 in
theorem tw_316 : Cond.selects RX0 yX0_addWord yX0_addWord ∈ gtbl := gt_mem 316 rfl rfl
set_option maxRecDepth 20000 in
theorem tw_317 : Cond.code yX0_addWord cX0_addWord 3 none ∈ gtbl := gt_mem 317 rfl rfl
set_option maxRecDepth 20000 in
theorem tw_322 : Cond.methodLink RX7 101 yX7_find ∈ gtbl := gt_mem 322 rfl rfl
set_option maxRecDepth 20000 in
theorem tw_324 : Cond.instanceMethod yX7_find ∈ gtbl := gt_mem 324 rfl rfl
set_option maxRecDepth 20000 in
theorem tw_325 : Cond.code yX7_find cX7_find 2 (some (.object RX0)) ∈ gtbl := gt_mem 325 rfl rfl
set_option maxRecDepth 20000 in
theorem tw_326 : Cond.constant RX7 105 (-1000001) ∈ gtbl := gt_mem 326 rfl rfl
set_option maxRecDepth 20000 in
theorem tw_327 : Cond.methodLink RX7 106 yX0_blank ∈ gtbl := gt_mem 327 rfl rfl
set_option maxRecDepth 20000 in
theorem tw_328 : Cond.instanceMethod yX0_blank ∈ gtbl := gt_mem 328 rfl rfl
set_option maxRecDepth 20000 in
theorem tw_329 : Cond.selects RX0 yX0_blank yX0_blank ∈ gtbl := gt_mem 329 rfl rfl
set_option maxRecDepth 20000 in
theorem tw_330 : Cond.code yX0_blank cX0_blank 3 none ∈ gtbl := gt_mem 330 rfl rfl
set_option maxRecDepth 20000 in
theorem tw_343 : Cond.methodLink RX7 112 yX0_hasWord ∈ gtbl := gt_mem 343 rfl rfl
set_option maxRecDepth 20000 in
theorem tw_344 : Cond.instanceMethod yX0_hasWord ∈ gtbl := gt_mem 344 rfl rfl
set_option maxRecDepth 20000 in
theorem tw_345 : Cond.selects RX0 yX0_hasWord yX0_hasWord ∈ gtbl := gt_mem 345 rfl rfl
set_option maxRecDepth 20000 in
theorem tw_346 : Cond.code yX0_hasWord cX0_hasWord 2 (some .boolean) ∈ gtbl := gt_mem 346 rfl rfl
set_option maxRecDepth 20000 in
theorem tw_355 : Cond.methodLink RX7 121 yX0_hasArc ∈ gtbl := gt_mem 355 rfl rfl
set_option maxRecDepth 20000 in
theorem tw_356 : Cond.instanceMethod yX0_hasArc ∈ gtbl := gt_mem 356 rfl rfl
set_option maxRecDepth 20000 in
theorem tw_357 : Cond.selects RX0 yX0_hasArc yX0_hasArc ∈ gtbl := gt_mem 357 rfl rfl
set_option maxRecDepth 20000 in
theorem tw_358 : Cond.code yX0_hasArc cX0_hasArc 3 (some .boolean) ∈ gtbl := gt_mem 358 rfl rfl
set_option maxRecDepth 20000 in
theorem tw_359 : Cond.methodLink RX0 30 yX0_hasWord ∈ gtbl := gt_mem 359 rfl rfl
set_option maxRecDepth 20000 in
theorem tw_360 : Cond.methodLink RX7 125 yX7_formTree ∈ gtbl := gt_mem 360 rfl rfl
set_option maxRecDepth 20000 in
theorem tw_365 : Cond.methodLink RX7 129 yX7_rankTrees ∈ gtbl := gt_mem 365 rfl rfl
set_option maxRecDepth 20000 in
theorem tw_367 : Cond.instanceMethod yX7_rankTrees ∈ gtbl := gt_mem 367 rfl rfl
set_option maxRecDepth 20000 in
theorem tw_368 : Cond.code yX7_rankTrees cX7_rankTrees 3 none ∈ gtbl := gt_mem 368 rfl rfl
set_option maxRecDepth 20000 in
theorem tw_369 : Cond.methodLink RX7 216 yX7_offerArcs ∈ gtbl := gt_mem 369 rfl rfl
set_option maxRecDepth 20000 in
theorem tw_371 : Cond.instanceMethod yX7_offerArcs ∈ gtbl := gt_mem 371 rfl rfl
set_option maxRecDepth 20000 in
theorem tw_372 : Cond.code yX7_offerArcs cX7_offerArcs 6 none ∈ gtbl := gt_mem 372 rfl rfl
set_option maxRecDepth 20000 in
theorem tw_373 : Cond.methodLink RX7 266 yX4_begin ∈ gtbl := gt_mem 373 rfl rfl
set_option maxRecDepth 20000 in
theorem tw_374 : Cond.instanceMethod yX4_begin ∈ gtbl := gt_mem 374 rfl rfl
set_option maxRecDepth 20000 in
theorem tw_375 : Cond.selects RX4 yX4_begin yX4_begin ∈ gtbl := gt_mem 375 rfl rfl
set_option maxRecDepth 20000 in
theorem tw_376 : Cond.code yX4_begin cX4_begin 3 none ∈ gtbl := gt_mem 376 rfl rfl
set_option maxRecDepth 20000 in
theorem tw_377 : Cond.methodLink RX7 269 yX0_headChoices ∈ gtbl := gt_mem 377 rfl rfl
set_option maxRecDepth 20000 in
theorem tw_378 : Cond.instanceMethod yX0_headChoices ∈ gtbl := gt_mem 378 rfl rfl
set_option maxRecDepth 20000 in
theorem tw_379 : Cond.selects RX0 yX0_headChoices yX0_headChoices ∈ gtbl := gt_mem 379 rfl rfl
set_option maxRecDepth 20000 in
theorem tw_380 : Cond.code yX0_headChoices cX0_headChoices 5 (some .int) ∈ gtbl := gt_mem 380 rfl rfl
set_option maxRecDepth 20000 in
theorem tw_381 : Cond.methodLink RX0 34 yJ6_bitCount_0f7a4 ∈ gtbl := gt_mem 381 rfl rfl
set_option maxRecDepth 20000 in
theorem tw_382 : Cond.static yJ6_bitCount_0f7a4 ∈ gtbl := gt_mem 382 rfl rfl
set_option maxRecDepth 20000 in
theorem tw_383 : Cond.code yJ6_bitCount_0f7a4 cJ6_bitCount_0f7a4 1 (some .int) ∈ gtbl := gt_mem 383 rfl rfl
set_option maxRecDepth 20000 in
theorem tw_384 : Cond.constant RJ6 265 (1431655765) ∈ gtbl := gt_mem 384 rfl rfl
set_option maxRecDepth 20000 in
theorem tw_385 : Cond.constant RJ6 266 (858993459) ∈ gtbl := gt_mem 385 rfl rfl
set_option maxRecDepth 20000 in
theorem tw_386 : Cond.constant RJ6 267 (252645135) ∈ gtbl := gt_mem 386 rfl rfl
set_option maxRecDepth 20000 in
theorem tw_387 : Cond.methodLink RX7 272 yX7_holds ∈ gtbl := gt_mem 387 rfl rfl
set_option maxRecDepth 20000 in
theorem tw_388 : Cond.static yX7_holds ∈ gtbl := gt_mem 388 rfl rfl
set_option maxRecDepth 20000 in
theorem tw_389 : Cond.code yX7_holds cX7_holds 2 (some .boolean) ∈ gtbl := gt_mem 389 rfl rfl
set_option maxRecDepth 20000 in
theorem tw_390 : Cond.methodLink RX7 208 yX5_arcSum ∈ gtbl := gt_mem 390 rfl rfl
set_option maxRecDepth 20000 in
theorem tw_391 : Cond.instanceMethod yX5_arcSum ∈ gtbl := gt_mem 391 rfl rfl
set_option maxRecDepth 20000 in
theorem tw_392 : Cond.selects RX5 yX5_arcSum yX5_arcSum ∈ gtbl := gt_mem 392 rfl rfl
set_option maxRecDepth 20000 in
theorem tw_393 : Cond.code yX5_arcSum cX5_arcSum 3 (some .long) ∈ gtbl := gt_mem 393 rfl rfl
set_option maxRecDepth 20000 in
theorem tw_394 : Cond.methodLink RX7 176 yX7_arcScore ∈ gtbl := gt_mem 394 rfl rfl
set_option maxRecDepth 20000 in
theorem tw_396 : Cond.instanceMethod yX7_arcScore ∈ gtbl := gt_mem 396 rfl rfl
set_option maxRecDepth 20000 in
theorem tw_397 : Cond.code yX7_arcScore cX7_arcScore 4 (some .int) ∈ gtbl := gt_mem 397 rfl rfl
set_option maxRecDepth 20000 in
theorem tw_398 : Cond.methodLink RX7 263 yX6_ofArc ∈ gtbl := gt_mem 398 rfl rfl
set_option maxRecDepth 20000 in
theorem tw_399 : Cond.instanceMethod yX6_ofArc ∈ gtbl := gt_mem 399 rfl rfl
set_option maxRecDepth 20000 in
theorem tw_400 : Cond.selects RX6 yX6_ofArc yX6_ofArc ∈ gtbl := gt_mem 400 rfl rfl
set_option maxRecDepth 20000 in
theorem tw_401 : Cond.code yX6_ofArc cX6_ofArc 4 (some .int) ∈ gtbl := gt_mem 401 rfl rfl
set_option maxRecDepth 20000 in
theorem tw_402 : Cond.methodLink RX6 25 yX6_direction ∈ gtbl := gt_mem 402 rfl rfl
set_option maxRecDepth 20000 in
theorem tw_403 : Cond.static yX6_direction ∈ gtbl := gt_mem 403 rfl rfl
set_option maxRecDepth 20000 in
theorem tw_404 : Cond.code yX6_direction cX6_direction 2 (some .int) ∈ gtbl := gt_mem 404 rfl rfl
set_option maxRecDepth 20000 in
theorem tw_405 : Cond.methodLink RX6 29 yJ9_abs_0f7a4 ∈ gtbl := gt_mem 405 rfl rfl
set_option maxRecDepth 20000 in
theorem tw_406 : Cond.static yJ9_abs_0f7a4 ∈ gtbl := gt_mem 406 rfl rfl
set_option maxRecDepth 20000 in
theorem tw_407 : Cond.code yJ9_abs_0f7a4 Lib.Math.abs.code 1 (some .int) ∈ gtbl := gt_mem 407 rfl rfl
set_option maxRecDepth 20000 in
theorem tw_408 : Cond.methodLink RX7 275 yX4_offer ∈ gtbl := gt_mem 408 rfl rfl
set_option maxRecDepth 20000 in
theorem tw_409 : Cond.instanceMethod yX4_offer ∈ gtbl := gt_mem 409 rfl rfl
set_option maxRecDepth 20000 in
theorem tw_410 : Cond.selects RX4 yX4_offer yX4_offer ∈ gtbl := gt_mem 410 rfl rfl
set_option maxRecDepth 20000 in
theorem tw_411 : Cond.code yX4_offer cX4_offer 9 none ∈ gtbl := gt_mem 411 rfl rfl
set_option maxRecDepth 20000 in
theorem tw_412 : Cond.constantLong RX4 49 (117649) ∈ gtbl := gt_mem 412 rfl rfl
set_option maxRecDepth 20000 in
theorem tw_413 : Cond.fieldLink RX4 51 "ArcFactoredParser$TreeSearch" "PLACES" "[I" ∈ gtbl := gt_mem 413 rfl rfl
set_option maxRecDepth 20000 in
theorem tw_415 : Cond.methodLink RX7 187 yX4_seek ∈ gtbl := gt_mem 415 rfl rfl
set_option maxRecDepth 20000 in
theorem tw_416 : Cond.instanceMethod yX4_seek ∈ gtbl := gt_mem 416 rfl rfl
set_option maxRecDepth 20000 in
theorem tw_417 : Cond.selects RX4 yX4_seek yX4_seek ∈ gtbl := gt_mem 417 rfl rfl
set_option maxRecDepth 20000 in
theorem tw_418 : Cond.code yX4_seek cX4_seek 3 none ∈ gtbl := gt_mem 418 rfl rfl
set_option maxRecDepth 20000 in
theorem tw_419 : Cond.methodLink RX4 54 yJ9_min_7cf53 ∈ gtbl := gt_mem 419 rfl rfl
set_option maxRecDepth 20000 in
theorem tw_420 : Cond.static yJ9_min_7cf53 ∈ gtbl := gt_mem 420 rfl rfl
set_option maxRecDepth 20000 in
theorem tw_421 : Cond.code yJ9_min_7cf53 Lib.Math.min.code 2 (some .int) ∈ gtbl := gt_mem 421 rfl rfl
set_option maxRecDepth 20000 in
theorem tw_422 : Cond.methodLink RX4 60 yJ9_max_7cf53 ∈ gtbl := gt_mem 422 rfl rfl
set_option maxRecDepth 20000 in
theorem tw_423 : Cond.static yJ9_max_7cf53 ∈ gtbl := gt_mem 423 rfl rfl
set_option maxRecDepth 20000 in
theorem tw_424 : Cond.code yJ9_max_7cf53 Lib.Math.max.code 2 (some .int) ∈ gtbl := gt_mem 424 rfl rfl
set_option maxRecDepth 20000 in
theorem tw_425 : Cond.methodLink RX4 63 yX4_descend ∈ gtbl := gt_mem 425 rfl rfl
set_option maxRecDepth 20000 in
theorem tw_427 : Cond.instanceMethod yX4_descend ∈ gtbl := gt_mem 427 rfl rfl
set_option maxRecDepth 20000 in
theorem tw_428 : Cond.code yX4_descend cX4_descend 10 none ∈ gtbl := gt_mem 428 rfl rfl
set_option maxRecDepth 20000 in
theorem tw_429 : Cond.methodLink RX4 67 yX4_keep ∈ gtbl := gt_mem 429 rfl rfl
set_option maxRecDepth 20000 in
theorem tw_431 : Cond.instanceMethod yX4_keep ∈ gtbl := gt_mem 431 rfl rfl
set_option maxRecDepth 20000 in
theorem tw_432 : Cond.code yX4_keep cX4_keep 4 none ∈ gtbl := gt_mem 432 rfl rfl
set_option maxRecDepth 20000 in
theorem tw_433 : Cond.methodLink RX4 77 yX4_closesCycle ∈ gtbl := gt_mem 433 rfl rfl
set_option maxRecDepth 20000 in
theorem tw_435 : Cond.instanceMethod yX4_closesCycle ∈ gtbl := gt_mem 435 rfl rfl
set_option maxRecDepth 20000 in
theorem tw_436 : Cond.code yX4_closesCycle cX4_closesCycle 5 (some .boolean) ∈ gtbl := gt_mem 436 rfl rfl
set_option maxRecDepth 20000 in
theorem tw_437 : Cond.methodLink RX4 84 yX4_crossesEarlier ∈ gtbl := gt_mem 437 rfl rfl
set_option maxRecDepth 20000 in
theorem tw_439 : Cond.instanceMethod yX4_crossesEarlier ∈ gtbl := gt_mem 439 rfl rfl
set_option maxRecDepth 20000 in
theorem tw_440 : Cond.code yX4_crossesEarlier cX4_crossesEarlier 4 (some .boolean) ∈ gtbl := gt_mem 440 rfl rfl
set_option maxRecDepth 20000 in
theorem tw_442 : Cond.static yX7_cross ∈ gtbl := gt_mem 442 rfl rfl
set_option maxRecDepth 20000 in
theorem tw_443 : Cond.code yX7_cross cX7_cross 8 (some .boolean) ∈ gtbl := gt_mem 443 rfl rfl
set_option maxRecDepth 20000 in
theorem tw_444 : Cond.methodLink RX7 136 yX7_countAgreeing ∈ gtbl := gt_mem 444 rfl rfl
set_option maxRecDepth 20000 in
theorem tw_446 : Cond.instanceMethod yX7_countAgreeing ∈ gtbl := gt_mem 446 rfl rfl
set_option maxRecDepth 20000 in
theorem tw_447 : Cond.code yX7_countAgreeing cX7_countAgreeing 4 (some .int) ∈ gtbl := gt_mem 447 rfl rfl
set_option maxRecDepth 20000 in
theorem tw_448 : Cond.methodLink RX7 140 yX4_headAt ∈ gtbl := gt_mem 448 rfl rfl
set_option maxRecDepth 20000 in
theorem tw_449 : Cond.instanceMethod yX4_headAt ∈ gtbl := gt_mem 449 rfl rfl
set_option maxRecDepth 20000 in
theorem tw_450 : Cond.selects RX4 yX4_headAt yX4_headAt ∈ gtbl := gt_mem 450 rfl rfl
set_option maxRecDepth 20000 in
theorem tw_451 : Cond.code yX4_headAt cX4_headAt 5 (some .int) ∈ gtbl := gt_mem 451 rfl rfl
set_option maxRecDepth 20000 in
theorem tw_452 : Cond.methodLink RX4 95 yJ9_floorMod_f86c9 ∈ gtbl := gt_mem 452 rfl rfl
set_option maxRecDepth 20000 in
theorem tw_453 : Cond.static yJ9_floorMod_f86c9 ∈ gtbl := gt_mem 453 rfl rfl
set_option maxRecDepth 20000 in
theorem tw_454 : Cond.code yJ9_floorMod_f86c9 cJ9_floorMod_f86c9 6 (some .long) ∈ gtbl := gt_mem 454 rfl rfl
set_option maxRecDepth 20000 in
theorem tw_459 : Cond.methodLink RX7 144 yX7_isTagPair ∈ gtbl := gt_mem 459 rfl rfl
set_option maxRecDepth 20000 in
theorem tw_460 : Cond.static yX7_isTagPair ∈ gtbl := gt_mem 460 rfl rfl
set_option maxRecDepth 20000 in
theorem tw_461 : Cond.code yX7_isTagPair cX7_isTagPair 2 (some .boolean) ∈ gtbl := gt_mem 461 rfl rfl
set_option maxRecDepth 20000 in
theorem tw_462 : Cond.methodLink RX7 147 yX7_isWithin ∈ gtbl := gt_mem 462 rfl rfl
set_option maxRecDepth 20000 in
theorem tw_463 : Cond.static yX7_isWithin ∈ gtbl := gt_mem 463 rfl rfl
set_option maxRecDepth 20000 in
theorem tw_464 : Cond.code yX7_isWithin cX7_isWithin 2 (some .boolean) ∈ gtbl := gt_mem 464 rfl rfl
set_option maxRecDepth 20000 in
theorem tw_469 : Cond.methodLink RX7 154 yX7_isDistance ∈ gtbl := gt_mem 469 rfl rfl
set_option maxRecDepth 20000 in
theorem tw_470 : Cond.static yX7_isDistance ∈ gtbl := gt_mem 470 rfl rfl
set_option maxRecDepth 20000 in
theorem tw_471 : Cond.code yX7_isDistance cX7_isDistance 2 (some .boolean) ∈ gtbl := gt_mem 471 rfl rfl
set_option maxRecDepth 20000 in
theorem tw_508 : Cond.methodLink RX7 180 yX4_scoreAt ∈ gtbl := gt_mem 508 rfl rfl
set_option maxRecDepth 20000 in
theorem tw_509 : Cond.instanceMethod yX4_scoreAt ∈ gtbl := gt_mem 509 rfl rfl
set_option maxRecDepth 20000 in
theorem tw_510 : Cond.selects RX4 yX4_scoreAt yX4_scoreAt ∈ gtbl := gt_mem 510 rfl rfl
set_option maxRecDepth 20000 in
theorem tw_511 : Cond.code yX4_scoreAt cX4_scoreAt 2 (some .int) ∈ gtbl := gt_mem 511 rfl rfl
set_option maxRecDepth 20000 in
theorem tw_512 : Cond.methodLink RX4 91 yJ9_floorDiv_f86c9 ∈ gtbl := gt_mem 512 rfl rfl
set_option maxRecDepth 20000 in
theorem tw_513 : Cond.static yJ9_floorDiv_f86c9 ∈ gtbl := gt_mem 513 rfl rfl
set_option maxRecDepth 20000 in
theorem tw_514 : Cond.code yJ9_floorDiv_f86c9 cJ9_floorDiv_f86c9 6 (some .long) ∈ gtbl := gt_mem 514 rfl rfl
set_option maxRecDepth 20000 in
theorem tw_531 : Cond.methodLink RX7 184 yX4_keepOnly ∈ gtbl := gt_mem 531 rfl rfl
set_option maxRecDepth 20000 in
theorem tw_532 : Cond.instanceMethod yX4_keepOnly ∈ gtbl := gt_mem 532 rfl rfl
set_option maxRecDepth 20000 in
theorem tw_533 : Cond.selects RX4 yX4_keepOnly yX4_keepOnly ∈ gtbl := gt_mem 533 rfl rfl
set_option maxRecDepth 20000 in
theorem tw_534 : Cond.code yX4_keepOnly cX4_keepOnly 5 none ∈ gtbl := gt_mem 534 rfl rfl
set_option maxRecDepth 20000 in
theorem tw_539 : Cond.methodLink RX7 191 yX7_annotationScore ∈ gtbl := gt_mem 539 rfl rfl
set_option maxRecDepth 20000 in
theorem tw_541 : Cond.instanceMethod yX7_annotationScore ∈ gtbl := gt_mem 541 rfl rfl
set_option maxRecDepth 20000 in
theorem tw_542 : Cond.code yX7_annotationScore cX7_annotationScore 4 (some .int) ∈ gtbl := gt_mem 542 rfl rfl
set_option maxRecDepth 20000 in
theorem tw_551 : Cond.methodLink RX7 194 yX7_countTrees ∈ gtbl := gt_mem 551 rfl rfl
set_option maxRecDepth 20000 in
theorem tw_553 : Cond.instanceMethod yX7_countTrees ∈ gtbl := gt_mem 553 rfl rfl
set_option maxRecDepth 20000 in
theorem tw_554 : Cond.code yX7_countTrees cX7_countTrees 2 (some .int) ∈ gtbl := gt_mem 554 rfl rfl
set_option maxRecDepth 20000 in
theorem tw_555 : Cond.methodLink RX7 279 yX7_setPotentials ∈ gtbl := gt_mem 555 rfl rfl
set_option maxRecDepth 20000 in
theorem tw_557 : Cond.instanceMethod yX7_setPotentials ∈ gtbl := gt_mem 557 rfl rfl
set_option maxRecDepth 20000 in
theorem tw_558 : Cond.code yX7_setPotentials cX7_setPotentials 7 none ∈ gtbl := gt_mem 558 rfl rfl
set_option maxRecDepth 20000 in
theorem tw_559 : Cond.methodLink RX7 286 yX5_begin ∈ gtbl := gt_mem 559 rfl rfl
set_option maxRecDepth 20000 in
theorem tw_560 : Cond.instanceMethod yX5_begin ∈ gtbl := gt_mem 560 rfl rfl
set_option maxRecDepth 20000 in
theorem tw_561 : Cond.selects RX5 yX5_begin yX5_begin ∈ gtbl := gt_mem 561 rfl rfl
set_option maxRecDepth 20000 in
theorem tw_562 : Cond.code yX5_begin cX5_begin 2 none ∈ gtbl := gt_mem 562 rfl rfl
set_option maxRecDepth 20000 in
theorem tw_563 : Cond.methodLink RX7 287 yX7_potential ∈ gtbl := gt_mem 563 rfl rfl
set_option maxRecDepth 20000 in
theorem tw_565 : Cond.instanceMethod yX7_potential ∈ gtbl := gt_mem 565 rfl rfl
set_option maxRecDepth 20000 in
theorem tw_566 : Cond.code yX7_potential cX7_potential 4 (some .int) ∈ gtbl := gt_mem 566 rfl rfl
set_option maxRecDepth 20000 in
theorem tw_567 : Cond.methodLink RX7 294 yJ9_min_7cf53 ∈ gtbl := gt_mem 567 rfl rfl
set_option maxRecDepth 20000 in
theorem tw_568 : Cond.methodLink RX7 299 yJ9_max_7cf53 ∈ gtbl := gt_mem 568 rfl rfl
set_option maxRecDepth 20000 in
theorem tw_569 : Cond.methodLink RX7 290 yX5_setPotential ∈ gtbl := gt_mem 569 rfl rfl
set_option maxRecDepth 20000 in
theorem tw_570 : Cond.instanceMethod yX5_setPotential ∈ gtbl := gt_mem 570 rfl rfl
set_option maxRecDepth 20000 in
theorem tw_571 : Cond.selects RX5 yX5_setPotential yX5_setPotential ∈ gtbl := gt_mem 571 rfl rfl
set_option maxRecDepth 20000 in
theorem tw_572 : Cond.code yX5_setPotential cX5_setPotential 4 none ∈ gtbl := gt_mem 572 rfl rfl
set_option maxRecDepth 20000 in
theorem tw_573 : Cond.methodLink RX7 282 yX5_addUp ∈ gtbl := gt_mem 573 rfl rfl
set_option maxRecDepth 20000 in
theorem tw_574 : Cond.instanceMethod yX5_addUp ∈ gtbl := gt_mem 574 rfl rfl
set_option maxRecDepth 20000 in
theorem tw_575 : Cond.selects RX5 yX5_addUp yX5_addUp ∈ gtbl := gt_mem 575 rfl rfl
set_option maxRecDepth 20000 in
theorem tw_576 : Cond.code yX5_addUp cX5_addUp 4 (some .long) ∈ gtbl := gt_mem 576 rfl rfl
set_option maxRecDepth 20000 in
theorem tw_577 : Cond.methodLink RX5 39 yX5_hasNode ∈ gtbl := gt_mem 577 rfl rfl
set_option maxRecDepth 20000 in
theorem tw_578 : Cond.static yX5_hasNode ∈ gtbl := gt_mem 578 rfl rfl
set_option maxRecDepth 20000 in
theorem tw_579 : Cond.code yX5_hasNode cX5_hasNode 2 (some .boolean) ∈ gtbl := gt_mem 579 rfl rfl
set_option maxRecDepth 20000 in
theorem tw_580 : Cond.methodLink RX5 60 yX5_bit ∈ gtbl := gt_mem 580 rfl rfl
set_option maxRecDepth 20000 in
theorem tw_581 : Cond.static yX5_bit ∈ gtbl := gt_mem 581 rfl rfl
set_option maxRecDepth 20000 in
theorem tw_582 : Cond.code yX5_bit cX5_bit 1 (some .int) ∈ gtbl := gt_mem 582 rfl rfl
set_option maxRecDepth 20000 in
theorem tw_583 : Cond.methodLink RX5 43 yX5_addBranches ∈ gtbl := gt_mem 583 rfl rfl
set_option maxRecDepth 20000 in
theorem tw_585 : Cond.instanceMethod yX5_addBranches ∈ gtbl := gt_mem 585 rfl rfl
set_option maxRecDepth 20000 in
theorem tw_586 : Cond.code yX5_addBranches cX5_addBranches 6 (some .long) ∈ gtbl := gt_mem 586 rfl rfl
set_option maxRecDepth 20000 in
theorem tw_587 : Cond.methodLink RX5 56 yX5_mayBranch ∈ gtbl := gt_mem 587 rfl rfl
set_option maxRecDepth 20000 in
theorem tw_589 : Cond.instanceMethod yX5_mayBranch ∈ gtbl := gt_mem 589 rfl rfl
set_option maxRecDepth 20000 in
theorem tw_590 : Cond.code yX5_mayBranch cX5_mayBranch 2 (some .boolean) ∈ gtbl := gt_mem 590 rfl rfl
set_option maxRecDepth 20000 in
theorem tw_591 : Cond.methodLink RX5 47 yX5_addForests ∈ gtbl := gt_mem 591 rfl rfl
set_option maxRecDepth 20000 in
theorem tw_593 : Cond.instanceMethod yX5_addForests ∈ gtbl := gt_mem 593 rfl rfl
set_option maxRecDepth 20000 in
theorem tw_594 : Cond.code yX5_addForests cX5_addForests 7 (some .long) ∈ gtbl := gt_mem 594 rfl rfl
set_option maxRecDepth 20000 in
theorem tw_599 : Cond.constantLong RX7 197 (-1000001) ∈ gtbl := gt_mem 599 rfl rfl
set_option maxRecDepth 20000 in
theorem tw_600 : Cond.methodLink RX7 199 yX7_sumWeights ∈ gtbl := gt_mem 600 rfl rfl
set_option maxRecDepth 20000 in
theorem tw_602 : Cond.instanceMethod yX7_sumWeights ∈ gtbl := gt_mem 602 rfl rfl
set_option maxRecDepth 20000 in
theorem tw_603 : Cond.code yX7_sumWeights cX7_sumWeights 2 (some .long) ∈ gtbl := gt_mem 603 rfl rfl
set_option maxRecDepth 20000 in
theorem tw_608 : Cond.constantLong RX7 203 (-1000004) ∈ gtbl := gt_mem 608 rfl rfl
set_option maxRecDepth 20000 in
theorem tw_609 : Cond.methodLink RX7 205 yX5_spread ∈ gtbl := gt_mem 609 rfl rfl
set_option maxRecDepth 20000 in
theorem tw_610 : Cond.instanceMethod yX5_spread ∈ gtbl := gt_mem 610 rfl rfl
set_option maxRecDepth 20000 in
theorem tw_611 : Cond.selects RX5 yX5_spread yX5_spread ∈ gtbl := gt_mem 611 rfl rfl
set_option maxRecDepth 20000 in
theorem tw_612 : Cond.code yX5_spread cX5_spread 4 none ∈ gtbl := gt_mem 612 rfl rfl
set_option maxRecDepth 20000 in
theorem tw_613 : Cond.methodLink RX5 64 yX5_clearGains ∈ gtbl := gt_mem 613 rfl rfl
set_option maxRecDepth 20000 in
theorem tw_615 : Cond.instanceMethod yX5_clearGains ∈ gtbl := gt_mem 615 rfl rfl
set_option maxRecDepth 20000 in
theorem tw_616 : Cond.code yX5_clearGains cX5_clearGains 3 none ∈ gtbl := gt_mem 616 rfl rfl
set_option maxRecDepth 20000 in
theorem tw_617 : Cond.methodLink RX5 67 yX5_spreadForest ∈ gtbl := gt_mem 617 rfl rfl
set_option maxRecDepth 20000 in
theorem tw_619 : Cond.instanceMethod yX5_spreadForest ∈ gtbl := gt_mem 619 rfl rfl
set_option maxRecDepth 20000 in
theorem tw_620 : Cond.code yX5_spreadForest cX5_spreadForest 7 none ∈ gtbl := gt_mem 620 rfl rfl
set_option maxRecDepth 20000 in
theorem tw_621 : Cond.methodLink RX5 71 yX5_spreadBranch ∈ gtbl := gt_mem 621 rfl rfl
set_option maxRecDepth 20000 in
theorem tw_623 : Cond.instanceMethod yX5_spreadBranch ∈ gtbl := gt_mem 623 rfl rfl
set_option maxRecDepth 20000 in
theorem tw_624 : Cond.code yX5_spreadBranch cX5_spreadBranch 7 none ∈ gtbl := gt_mem 624 rfl rfl
set_option maxRecDepth 20000 in
theorem tw_625 : Cond.methodLink RX7 212 yX7_greatestCommonDivisor ∈ gtbl := gt_mem 625 rfl rfl
set_option maxRecDepth 20000 in
theorem tw_626 : Cond.static yX7_greatestCommonDivisor ∈ gtbl := gt_mem 626 rfl rfl
set_option maxRecDepth 20000 in
theorem tw_627 : Cond.code yX7_greatestCommonDivisor cX7_greatestCommonDivisor 11 (some .long) ∈ gtbl := gt_mem 627 rfl rfl
set_option maxRecDepth 20000 in
theorem tw_636 : Cond.methodLink RX7 220 yX7_countCrossings ∈ gtbl := gt_mem 636 rfl rfl
set_option maxRecDepth 20000 in
theorem tw_637 : Cond.static yX7_countCrossings ∈ gtbl := gt_mem 637 rfl rfl
set_option maxRecDepth 20000 in
theorem tw_638 : Cond.code yX7_countCrossings cX7_countCrossings 4 (some .int) ∈ gtbl := gt_mem 638 rfl rfl
set_option maxRecDepth 20000 in
theorem tw_639 : Cond.methodLink RX7 302 yX7_cross ∈ gtbl := gt_mem 639 rfl rfl
set_option maxRecDepth 20000 in
theorem tw_648 : Cond.methodLink RX7 227 yX3_arrange ∈ gtbl := gt_mem 648 rfl rfl
set_option maxRecDepth 20000 in
theorem tw_649 : Cond.instanceMethod yX3_arrange ∈ gtbl := gt_mem 649 rfl rfl
set_option maxRecDepth 20000 in
theorem tw_650 : Cond.selects RX3 yX3_arrange yX3_arrange ∈ gtbl := gt_mem 650 rfl rfl
set_option maxRecDepth 20000 in
theorem tw_651 : Cond.code yX3_arrange cX3_arrange 2 none ∈ gtbl := gt_mem 651 rfl rfl
set_option maxRecDepth 20000 in
theorem tw_652 : Cond.methodLink RX3 54 arraycopyName ∈ gtbl := gt_mem 652 rfl rfl
set_option maxRecDepth 20000 in
theorem tw_653 : Cond.static arraycopyName ∈ gtbl := gt_mem 653 rfl rfl
set_option maxRecDepth 20000 in
theorem tw_654 : Cond.native arraycopyName ∈ gtbl := gt_mem 654 rfl rfl
set_option maxRecDepth 20000 in
theorem tw_655 : Cond.methodLink RX3 60 yX3_visit ∈ gtbl := gt_mem 655 rfl rfl
set_option maxRecDepth 20000 in
theorem tw_657 : Cond.instanceMethod yX3_visit ∈ gtbl := gt_mem 657 rfl rfl
set_option maxRecDepth 20000 in
theorem tw_658 : Cond.code yX3_visit cX3_visit 4 none ∈ gtbl := gt_mem 658 rfl rfl
set_option maxRecDepth 20000 in
theorem tw_663 : Cond.methodLink RX7 234 yX7_countTransitions ∈ gtbl := gt_mem 663 rfl rfl
set_option maxRecDepth 20000 in
theorem tw_665 : Cond.instanceMethod yX7_countTransitions ∈ gtbl := gt_mem 665 rfl rfl
set_option maxRecDepth 20000 in
theorem tw_666 : Cond.code yX7_countTransitions cX7_countTransitions 2 (some .int) ∈ gtbl := gt_mem 666 rfl rfl
set_option maxRecDepth 20000 in
theorem tw_667 : Cond.methodLink RX7 306 yX3_perform ∈ gtbl := gt_mem 667 rfl rfl
set_option maxRecDepth 20000 in
theorem tw_668 : Cond.instanceMethod yX3_perform ∈ gtbl := gt_mem 668 rfl rfl
set_option maxRecDepth 20000 in
theorem tw_669 : Cond.selects RX3 yX3_perform yX3_perform ∈ gtbl := gt_mem 669 rfl rfl
set_option maxRecDepth 20000 in
theorem tw_670 : Cond.code yX3_perform cX3_perform 3 none ∈ gtbl := gt_mem 670 rfl rfl
set_option maxRecDepth 20000 in
theorem tw_671 : Cond.methodLink RX3 64 yX3_choose ∈ gtbl := gt_mem 671 rfl rfl
set_option maxRecDepth 20000 in
theorem tw_673 : Cond.instanceMethod yX3_choose ∈ gtbl := gt_mem 673 rfl rfl
set_option maxRecDepth 20000 in
theorem tw_674 : Cond.code yX3_choose cX3_choose 3 (some .int) ∈ gtbl := gt_mem 674 rfl rfl
set_option maxRecDepth 20000 in
theorem tw_675 : Cond.methodLink RX3 72 yX3_isComplete ∈ gtbl := gt_mem 675 rfl rfl
set_option maxRecDepth 20000 in
theorem tw_677 : Cond.instanceMethod yX3_isComplete ∈ gtbl := gt_mem 677 rfl rfl
set_option maxRecDepth 20000 in
theorem tw_678 : Cond.code yX3_isComplete cX3_isComplete 3 (some .boolean) ∈ gtbl := gt_mem 678 rfl rfl
set_option maxRecDepth 20000 in
theorem tw_679 : Cond.methodLink RX3 68 yX3_apply ∈ gtbl := gt_mem 679 rfl rfl
set_option maxRecDepth 20000 in
theorem tw_681 : Cond.instanceMethod yX3_apply ∈ gtbl := gt_mem 681 rfl rfl
set_option maxRecDepth 20000 in
theorem tw_682 : Cond.code yX3_apply cX3_apply 4 none ∈ gtbl := gt_mem 682 rfl rfl
set_option maxRecDepth 20000 in
theorem tw_691 : Cond.methodLink RX7 240 yX7_learn ∈ gtbl := gt_mem 691 rfl rfl
set_option maxRecDepth 20000 in
theorem tw_693 : Cond.instanceMethod yX7_learn ∈ gtbl := gt_mem 693 rfl rfl
set_option maxRecDepth 20000 in
theorem tw_694 : Cond.code yX7_learn cX7_learn 5 (some .int) ∈ gtbl := gt_mem 694 rfl rfl
set_option maxRecDepth 20000 in
theorem tw_695 : Cond.methodLink RX7 310 yX6_nudge ∈ gtbl := gt_mem 695 rfl rfl
set_option maxRecDepth 20000 in
theorem tw_696 : Cond.instanceMethod yX6_nudge ∈ gtbl := gt_mem 696 rfl rfl
set_option maxRecDepth 20000 in
theorem tw_697 : Cond.selects RX6 yX6_nudge yX6_nudge ∈ gtbl := gt_mem 697 rfl rfl
set_option maxRecDepth 20000 in
theorem tw_698 : Cond.code yX6_nudge cX6_nudge 9 none ∈ gtbl := gt_mem 698 rfl rfl
set_option maxRecDepth 20000 in
theorem tw_699 : Cond.methodLink RX6 35 yX6_clamp ∈ gtbl := gt_mem 699 rfl rfl
set_option maxRecDepth 20000 in
theorem tw_700 : Cond.static yX6_clamp ∈ gtbl := gt_mem 700 rfl rfl
set_option maxRecDepth 20000 in
theorem tw_701 : Cond.code yX6_clamp cX6_clamp 1 (some .int) ∈ gtbl := gt_mem 701 rfl rfl
set_option maxRecDepth 20000 in
theorem tw_702 : Cond.methodLink RX6 38 yJ9_min_7cf53 ∈ gtbl := gt_mem 702 rfl rfl
set_option maxRecDepth 20000 in
theorem tw_703 : Cond.methodLink RX6 41 yJ9_max_7cf53 ∈ gtbl := gt_mem 703 rfl rfl
set_option maxRecDepth 20000 in
theorem tw_712 : Cond.methodLink RX7 243 yX6_copyFrom ∈ gtbl := gt_mem 712 rfl rfl
set_option maxRecDepth 20000 in
theorem tw_713 : Cond.instanceMethod yX6_copyFrom ∈ gtbl := gt_mem 713 rfl rfl
set_option maxRecDepth 20000 in
theorem tw_714 : Cond.selects RX6 yX6_copyFrom yX6_copyFrom ∈ gtbl := gt_mem 714 rfl rfl
set_option maxRecDepth 20000 in
theorem tw_715 : Cond.code yX6_copyFrom cX6_copyFrom 3 none ∈ gtbl := gt_mem 715 rfl rfl
set_option maxRecDepth 20000 in
theorem tw_716 : Cond.methodLink RX6 44 arraycopyName ∈ gtbl := gt_mem 716 rfl rfl
set_option maxRecDepth 20000 in
theorem tw_717 : Cond.methodLink RX7 247 yX6_countNonZero ∈ gtbl := gt_mem 717 rfl rfl
set_option maxRecDepth 20000 in
theorem tw_718 : Cond.instanceMethod yX6_countNonZero ∈ gtbl := gt_mem 718 rfl rfl
set_option maxRecDepth 20000 in
theorem tw_719 : Cond.selects RX6 yX6_countNonZero yX6_countNonZero ∈ gtbl := gt_mem 719 rfl rfl
set_option maxRecDepth 20000 in
theorem tw_720 : Cond.code yX6_countNonZero cX6_countNonZero 4 (some .int) ∈ gtbl := gt_mem 720 rfl rfl
set_option maxRecDepth 20000 in
theorem tw_729 : Cond.constantLong RX7 250 (13) ∈ gtbl := gt_mem 729 rfl rfl
set_option maxRecDepth 20000 in
theorem tw_730 : Cond.methodLink RX7 252 yX7_mix ∈ gtbl := gt_mem 730 rfl rfl
set_option maxRecDepth 20000 in
theorem tw_731 : Cond.static yX7_mix ∈ gtbl := gt_mem 731 rfl rfl
set_option maxRecDepth 20000 in
theorem tw_732 : Cond.code yX7_mix cX7_mix 4 (some .long) ∈ gtbl := gt_mem 732 rfl rfl
set_option maxRecDepth 20000 in
theorem tw_733 : Cond.constantLong RX7 314 (31) ∈ gtbl := gt_mem 733 rfl rfl
set_option maxRecDepth 20000 in
theorem tw_734 : Cond.methodLink RX7 255 yX7_mixSentence ∈ gtbl := gt_mem 734 rfl rfl
set_option maxRecDepth 20000 in
theorem tw_736 : Cond.instanceMethod yX7_mixSentence ∈ gtbl := gt_mem 736 rfl rfl
set_option maxRecDepth 20000 in
theorem tw_737 : Cond.code yX7_mixSentence cX7_mixSentence 8 (some .long) ∈ gtbl := gt_mem 737 rfl rfl
set_option maxRecDepth 20000 in
theorem tw_738 : Cond.methodLink RX7 259 yX6_mixInto ∈ gtbl := gt_mem 738 rfl rfl
set_option maxRecDepth 20000 in
theorem tw_739 : Cond.instanceMethod yX6_mixInto ∈ gtbl := gt_mem 739 rfl rfl
set_option maxRecDepth 20000 in
theorem tw_740 : Cond.selects RX6 yX6_mixInto yX6_mixInto ∈ gtbl := gt_mem 740 rfl rfl
set_option maxRecDepth 20000 in
theorem tw_741 : Cond.code yX6_mixInto cX6_mixInto 7 (some .long) ∈ gtbl := gt_mem 741 rfl rfl
set_option maxRecDepth 20000 in
theorem tw_749 : Cond.fieldLink RX8 7 "ArcFactoredParserModel" "text" "[I" ∈ gtbl := gt_mem 749 rfl rfl
set_option maxRecDepth 20000 in
theorem tw_750 : Cond.fieldLink RX8 107 "ArcFactoredParserModel" "length" "I" ∈ gtbl := gt_mem 750 rfl rfl
set_option maxRecDepth 20000 in
theorem tw_751 : Cond.fieldLink RX8 91 "ArcFactoredParserModel" "many" "I" ∈ gtbl := gt_mem 751 rfl rfl
set_option maxRecDepth 20000 in
theorem tw_752 : Cond.fieldLink RX8 13 "ArcFactoredParserModel" "words" "[I" ∈ gtbl := gt_mem 752 rfl rfl
set_option maxRecDepth 20000 in
theorem tw_753 : Cond.fieldLink RX8 16 "ArcFactoredParserModel" "tags" "[I" ∈ gtbl := gt_mem 753 rfl rfl
set_option maxRecDepth 20000 in
theorem tw_754 : Cond.fieldLink RX8 19 "ArcFactoredParserModel" "heads" "[I" ∈ gtbl := gt_mem 754 rfl rfl
set_option maxRecDepth 20000 in
theorem tw_755 : Cond.fieldLink RX8 22 "ArcFactoredParserModel" "biases" "[I" ∈ gtbl := gt_mem 755 rfl rfl
set_option maxRecDepth 20000 in
theorem tw_756 : Cond.fieldLink RX8 25 "ArcFactoredParserModel" "constraints" "[I" ∈ gtbl := gt_mem 756 rfl rfl
set_option maxRecDepth 20000 in
theorem tw_757 : Cond.fieldLink RX8 28 "ArcFactoredParserModel" "weights" "[I" ∈ gtbl := gt_mem 757 rfl rfl
set_option maxRecDepth 20000 in
theorem tw_758 : Cond.fieldLink RX8 31 "ArcFactoredParserModel" "kept" "[I" ∈ gtbl := gt_mem 758 rfl rfl
set_option maxRecDepth 20000 in
theorem tw_759 : Cond.fieldLink RX8 34 "ArcFactoredParserModel" "isKept" "[Z" ∈ gtbl := gt_mem 759 rfl rfl
set_option maxRecDepth 20000 in
theorem tw_760 : Cond.fieldLink RX8 151 "ArcFactoredParserModel" "isSingle" "Z" ∈ gtbl := gt_mem 760 rfl rfl
set_option maxRecDepth 20000 in
theorem tw_761 : Cond.fieldLink RX8 155 "ArcFactoredParserModel" "isProjective" "Z" ∈ gtbl := gt_mem 761 rfl rfl
set_option maxRecDepth 20000 in
theorem tw_762 : Cond.fieldLink RX8 38 "ArcFactoredParserModel" "shift" "I" ∈ gtbl := gt_mem 762 rfl rfl
set_option maxRecDepth 20000 in
theorem tw_763 : Cond.fieldLink RX8 111 "ArcFactoredParserModel" "told" "I" ∈ gtbl := gt_mem 763 rfl rfl
set_option maxRecDepth 20000 in
theorem tw_764 : Cond.fieldLink RX8 42 "ArcFactoredParserModel" "toldWords" "[I" ∈ gtbl := gt_mem 764 rfl rfl
set_option maxRecDepth 20000 in
theorem tw_765 : Cond.fieldLink RX8 45 "ArcFactoredParserModel" "begins" "[I" ∈ gtbl := gt_mem 765 rfl rfl
set_option maxRecDepth 20000 in
theorem tw_766 : Cond.fieldLink RX8 48 "ArcFactoredParserModel" "row" "[I" ∈ gtbl := gt_mem 766 rfl rfl
set_option maxRecDepth 20000 in
theorem tw_767 : Cond.fieldLink RX8 51 "ArcFactoredParserModel" "scores" "[I" ∈ gtbl := gt_mem 767 rfl rfl
set_option maxRecDepth 20000 in
theorem tw_768 : Cond.fieldLink RX8 54 "ArcFactoredParserModel" "potentials" "[I" ∈ gtbl := gt_mem 768 rfl rfl
set_option maxRecDepth 20000 in
theorem tw_769 : Cond.fieldLink RX8 57 "ArcFactoredParserModel" "tried" "[I" ∈ gtbl := gt_mem 769 rfl rfl
set_option maxRecDepth 20000 in
theorem tw_770 : Cond.fieldLink RX8 171 "ArcFactoredParserModel" "ranked" "I" ∈ gtbl := gt_mem 770 rfl rfl
set_option maxRecDepth 20000 in
theorem tw_771 : Cond.fieldLink RX8 60 "ArcFactoredParserModel" "rankScores" "[I" ∈ gtbl := gt_mem 771 rfl rfl
set_option maxRecDepth 20000 in
theorem tw_772 : Cond.fieldLink RX8 63 "ArcFactoredParserModel" "rankHeads" "[I" ∈ gtbl := gt_mem 772 rfl rfl
set_option maxRecDepth 20000 in
theorem tw_773 : Cond.fieldLink RX8 174 "ArcFactoredParserModel" "count" "I" ∈ gtbl := gt_mem 773 rfl rfl
set_option maxRecDepth 20000 in
theorem tw_774 : Cond.fieldLink RX8 177 "ArcFactoredParserModel" "weightAll" "J" ∈ gtbl := gt_mem 774 rfl rfl
set_option maxRecDepth 20000 in
theorem tw_775 : Cond.fieldLink RX8 66 "ArcFactoredParserModel" "arcBest" "[I" ∈ gtbl := gt_mem 775 rfl rfl
set_option maxRecDepth 20000 in
theorem tw_776 : Cond.fieldLink RX8 69 "ArcFactoredParserModel" "arcWeight" "[J" ∈ gtbl := gt_mem 776 rfl rfl
set_option maxRecDepth 20000 in
theorem tw_777 : Cond.fieldLink RX8 181 "ArcFactoredParserModel" "bestOther" "I" ∈ gtbl := gt_mem 777 rfl rfl
set_option maxRecDepth 20000 in
theorem tw_778 : Cond.fieldLink RX8 186 "ArcFactoredParserModel" "risk" "J" ∈ gtbl := gt_mem 778 rfl rfl
set_option maxRecDepth 20000 in
theorem tw_779 : Cond.fieldLink RX8 73 "ArcFactoredParserModel" "riskHeads" "[I" ∈ gtbl := gt_mem 779 rfl rfl
set_option maxRecDepth 20000 in
theorem tw_780 : Cond.fieldLink RX8 76 "ArcFactoredParserModel" "order" "[I" ∈ gtbl := gt_mem 780 rfl rfl
set_option maxRecDepth 20000 in
theorem tw_781 : Cond.fieldLink RX8 79 "ArcFactoredParserModel" "places" "[I" ∈ gtbl := gt_mem 781 rfl rfl
set_option maxRecDepth 20000 in
theorem tw_782 : Cond.fieldLink RX8 261 "ArcFactoredParserModel" "moves" "I" ∈ gtbl := gt_mem 782 rfl rfl
set_option maxRecDepth 20000 in
theorem tw_783 : Cond.fieldLink RX8 82 "ArcFactoredParserModel" "moved" "[I" ∈ gtbl := gt_mem 783 rfl rfl
set_option maxRecDepth 20000 in
theorem tw_784 : Cond.fieldLink RX8 85 "ArcFactoredParserModel" "stack" "[I" ∈ gtbl := gt_mem 784 rfl rfl
set_option maxRecDepth 20000 in
theorem tw_785 : Cond.fieldLink RX8 252 "ArcFactoredParserModel" "height" "I" ∈ gtbl := gt_mem 785 rfl rfl
set_option maxRecDepth 20000 in
theorem tw_786 : Cond.fieldLink RX8 88 "ArcFactoredParserModel" "buffer" "[I" ∈ gtbl := gt_mem 786 rfl rfl
set_option maxRecDepth 20000 in
theorem tw_787 : Cond.fieldLink RX8 258 "ArcFactoredParserModel" "left" "I" ∈ gtbl := gt_mem 787 rfl rfl
set_option maxRecDepth 20000 in
theorem tw_788 : Cond.fieldLink RX8 249 "ArcFactoredParserModel" "attached" "I" ∈ gtbl := gt_mem 788 rfl rfl
set_option maxRecDepth 20000 in
theorem tw_874 : Cond.methodLink RX8 94 yX8_in ∈ gtbl := gt_mem 874 rfl rfl
set_option maxRecDepth 20000 in
theorem tw_875 : Cond.static yX8_in ∈ gtbl := gt_mem 875 rfl rfl
set_option maxRecDepth 20000 in
theorem tw_876 : Cond.code yX8_in cX8_in 3 (some .boolean) ∈ gtbl := gt_mem 876 rfl rfl
set_option maxRecDepth 20000 in
theorem tw_877 : Cond.constant RX8 106 (-1000002) ∈ gtbl := gt_mem 877 rfl rfl
set_option maxRecDepth 20000 in
theorem tw_878 : Cond.constant RX8 110 (-1000003) ∈ gtbl := gt_mem 878 rfl rfl
set_option maxRecDepth 20000 in
theorem tw_887 : Cond.methodLink RX8 119 yX8_faultOf ∈ gtbl := gt_mem 887 rfl rfl
set_option maxRecDepth 20000 in
theorem tw_889 : Cond.instanceMethod yX8_faultOf ∈ gtbl := gt_mem 889 rfl rfl
set_option maxRecDepth 20000 in
theorem tw_890 : Cond.code yX8_faultOf cX8_faultOf 3 (some .int) ∈ gtbl := gt_mem 890 rfl rfl
set_option maxRecDepth 20000 in
theorem tw_891 : Cond.methodLink RX8 114 yX8_isTree ∈ gtbl := gt_mem 891 rfl rfl
set_option maxRecDepth 20000 in
theorem tw_892 : Cond.static yX8_isTree ∈ gtbl := gt_mem 892 rfl rfl
set_option maxRecDepth 20000 in
theorem tw_893 : Cond.code yX8_isTree cX8_isTree 7 (some .boolean) ∈ gtbl := gt_mem 893 rfl rfl
set_option maxRecDepth 20000 in
theorem tw_894 : Cond.constant RX8 118 (-1000004) ∈ gtbl := gt_mem 894 rfl rfl
set_option maxRecDepth 20000 in
theorem tw_899 : Cond.constant RX8 123 (-1000005) ∈ gtbl := gt_mem 899 rfl rfl
set_option maxRecDepth 20000 in
theorem tw_900 : Cond.methodLink RX8 124 yX8_word ∈ gtbl := gt_mem 900 rfl rfl
set_option maxRecDepth 20000 in
theorem tw_901 : Cond.static yX8_word ∈ gtbl := gt_mem 901 rfl rfl
set_option maxRecDepth 20000 in
theorem tw_902 : Cond.code yX8_word cX8_word 2 (some .int) ∈ gtbl := gt_mem 902 rfl rfl
set_option maxRecDepth 20000 in
theorem tw_907 : Cond.methodLink RX8 98 yX8_isSentence ∈ gtbl := gt_mem 907 rfl rfl
set_option maxRecDepth 20000 in
theorem tw_909 : Cond.instanceMethod yX8_isSentence ∈ gtbl := gt_mem 909 rfl rfl
set_option maxRecDepth 20000 in
theorem tw_910 : Cond.code yX8_isSentence cX8_isSentence 2 (some .boolean) ∈ gtbl := gt_mem 910 rfl rfl
set_option maxRecDepth 20000 in
theorem tw_911 : Cond.constant RX8 128 (-1000001) ∈ gtbl := gt_mem 911 rfl rfl
set_option maxRecDepth 20000 in
theorem tw_924 : Cond.methodLink RX8 102 yX8_isWord ∈ gtbl := gt_mem 924 rfl rfl
set_option maxRecDepth 20000 in
theorem tw_926 : Cond.instanceMethod yX8_isWord ∈ gtbl := gt_mem 926 rfl rfl
set_option maxRecDepth 20000 in
theorem tw_927 : Cond.code yX8_isWord cX8_isWord 3 (some .boolean) ∈ gtbl := gt_mem 927 rfl rfl
set_option maxRecDepth 20000 in
theorem tw_936 : Cond.methodLink RX8 129 yX8_isArc ∈ gtbl := gt_mem 936 rfl rfl
set_option maxRecDepth 20000 in
theorem tw_938 : Cond.instanceMethod yX8_isArc ∈ gtbl := gt_mem 938 rfl rfl
set_option maxRecDepth 20000 in
theorem tw_939 : Cond.code yX8_isArc cX8_isArc 4 (some .boolean) ∈ gtbl := gt_mem 939 rfl rfl
set_option maxRecDepth 20000 in
theorem tw_944 : Cond.methodLink RX8 132 yX8_areTags ∈ gtbl := gt_mem 944 rfl rfl
set_option maxRecDepth 20000 in
theorem tw_945 : Cond.static yX8_areTags ∈ gtbl := gt_mem 945 rfl rfl
set_option maxRecDepth 20000 in
theorem tw_946 : Cond.code yX8_areTags cX8_areTags 2 (some .boolean) ∈ gtbl := gt_mem 946 rfl rfl
set_option maxRecDepth 20000 in
theorem tw_947 : Cond.methodLink RX8 135 yX8_tagPlace ∈ gtbl := gt_mem 947 rfl rfl
set_option maxRecDepth 20000 in
theorem tw_948 : Cond.static yX8_tagPlace ∈ gtbl := gt_mem 948 rfl rfl
set_option maxRecDepth 20000 in
theorem tw_949 : Cond.code yX8_tagPlace cX8_tagPlace 2 (some .int) ∈ gtbl := gt_mem 949 rfl rfl
set_option maxRecDepth 20000 in
theorem tw_950 : Cond.methodLink RX8 138 yX8_sets ∈ gtbl := gt_mem 950 rfl rfl
set_option maxRecDepth 20000 in
theorem tw_952 : Cond.instanceMethod yX8_sets ∈ gtbl := gt_mem 952 rfl rfl
set_option maxRecDepth 20000 in
theorem tw_953 : Cond.code yX8_sets cX8_sets 4 (some .int) ∈ gtbl := gt_mem 953 rfl rfl
set_option maxRecDepth 20000 in
theorem tw_958 : Cond.methodLink RX8 141 yX8_isDistance ∈ gtbl := gt_mem 958 rfl rfl
set_option maxRecDepth 20000 in
theorem tw_959 : Cond.static yX8_isDistance ∈ gtbl := gt_mem 959 rfl rfl
set_option maxRecDepth 20000 in
theorem tw_960 : Cond.code yX8_isDistance cX8_isDistance 2 (some .boolean) ∈ gtbl := gt_mem 960 rfl rfl
set_option maxRecDepth 20000 in
theorem tw_961 : Cond.methodLink RX8 144 yX8_distancePlace ∈ gtbl := gt_mem 961 rfl rfl
set_option maxRecDepth 20000 in
theorem tw_962 : Cond.static yX8_distancePlace ∈ gtbl := gt_mem 962 rfl rfl
set_option maxRecDepth 20000 in
theorem tw_963 : Cond.code yX8_distancePlace cX8_distancePlace 2 (some .int) ∈ gtbl := gt_mem 963 rfl rfl
set_option maxRecDepth 20000 in
theorem tw_976 : Cond.methodLink RX8 147 yX8_arc ∈ gtbl := gt_mem 976 rfl rfl
set_option maxRecDepth 20000 in
theorem tw_977 : Cond.static yX8_arc ∈ gtbl := gt_mem 977 rfl rfl
set_option maxRecDepth 20000 in
theorem tw_978 : Cond.code yX8_arc cX8_arc 3 (some .int) ∈ gtbl := gt_mem 978 rfl rfl
set_option maxRecDepth 20000 in
theorem tw_999 : Cond.methodLink RX8 167 yX8_scoreOf ∈ gtbl := gt_mem 999 rfl rfl
set_option maxRecDepth 20000 in
theorem tw_1001 : Cond.instanceMethod yX8_scoreOf ∈ gtbl := gt_mem 1001 rfl rfl
set_option maxRecDepth 20000 in
theorem tw_1002 : Cond.code yX8_scoreOf cX8_scoreOf 4 (some .int) ∈ gtbl := gt_mem 1002 rfl rfl
set_option maxRecDepth 20000 in
theorem tw_1003 : Cond.methodLink RX8 161 yX8_tagPlaceOf ∈ gtbl := gt_mem 1003 rfl rfl
set_option maxRecDepth 20000 in
theorem tw_1005 : Cond.instanceMethod yX8_tagPlaceOf ∈ gtbl := gt_mem 1005 rfl rfl
set_option maxRecDepth 20000 in
theorem tw_1006 : Cond.code yX8_tagPlaceOf cX8_tagPlaceOf 4 (some .int) ∈ gtbl := gt_mem 1006 rfl rfl
set_option maxRecDepth 20000 in
theorem tw_1007 : Cond.methodLink RX8 158 yX8_tagOf ∈ gtbl := gt_mem 1007 rfl rfl
set_option maxRecDepth 20000 in
theorem tw_1009 : Cond.instanceMethod yX8_tagOf ∈ gtbl := gt_mem 1009 rfl rfl
set_option maxRecDepth 20000 in
theorem tw_1010 : Cond.code yX8_tagOf cX8_tagOf 3 (some .int) ∈ gtbl := gt_mem 1010 rfl rfl
set_option maxRecDepth 20000 in
theorem tw_1011 : Cond.methodLink RX8 164 yX8_distancePlaceOf ∈ gtbl := gt_mem 1011 rfl rfl
set_option maxRecDepth 20000 in
theorem tw_1012 : Cond.static yX8_distancePlaceOf ∈ gtbl := gt_mem 1012 rfl rfl
set_option maxRecDepth 20000 in
theorem tw_1013 : Cond.code yX8_distancePlaceOf cX8_distancePlaceOf 2 (some .int) ∈ gtbl := gt_mem 1013 rfl rfl
set_option maxRecDepth 20000 in
theorem tw_1018 : Cond.methodLink RX8 226 yX8_looks ∈ gtbl := gt_mem 1018 rfl rfl
set_option maxRecDepth 20000 in
theorem tw_1020 : Cond.instanceMethod yX8_looks ∈ gtbl := gt_mem 1020 rfl rfl
set_option maxRecDepth 20000 in
theorem tw_1021 : Cond.code yX8_looks cX8_looks 3 none ∈ gtbl := gt_mem 1021 rfl rfl
set_option maxRecDepth 20000 in
theorem tw_1022 : Cond.methodLink RX8 208 yX8_prepares ∈ gtbl := gt_mem 1022 rfl rfl
set_option maxRecDepth 20000 in
theorem tw_1024 : Cond.instanceMethod yX8_prepares ∈ gtbl := gt_mem 1024 rfl rfl
set_option maxRecDepth 20000 in
theorem tw_1025 : Cond.code yX8_prepares cX8_prepares 7 none ∈ gtbl := gt_mem 1025 rfl rfl
set_option maxRecDepth 20000 in
theorem tw_1026 : Cond.constant RX8 170 (-100000000) ∈ gtbl := gt_mem 1026 rfl rfl
set_option maxRecDepth 20000 in
theorem tw_1027 : Cond.constantLong RX8 184 (-1) ∈ gtbl := gt_mem 1027 rfl rfl
set_option maxRecDepth 20000 in
theorem tw_1028 : Cond.methodLink RX8 212 yX8_begins ∈ gtbl := gt_mem 1028 rfl rfl
set_option maxRecDepth 20000 in
theorem tw_1030 : Cond.instanceMethod yX8_begins ∈ gtbl := gt_mem 1030 rfl rfl
set_option maxRecDepth 20000 in
theorem tw_1031 : Cond.code yX8_begins cX8_begins 2 none ∈ gtbl := gt_mem 1031 rfl rfl
set_option maxRecDepth 20000 in
theorem tw_1032 : Cond.methodLink RX8 214 yX8_isAdmissible ∈ gtbl := gt_mem 1032 rfl rfl
set_option maxRecDepth 20000 in
theorem tw_1034 : Cond.instanceMethod yX8_isAdmissible ∈ gtbl := gt_mem 1034 rfl rfl
set_option maxRecDepth 20000 in
theorem tw_1035 : Cond.code yX8_isAdmissible cX8_isAdmissible 6 (some .boolean) ∈ gtbl := gt_mem 1035 rfl rfl
set_option maxRecDepth 20000 in
theorem tw_1036 : Cond.methodLink RX8 193 yX8_crossed ∈ gtbl := gt_mem 1036 rfl rfl
set_option maxRecDepth 20000 in
theorem tw_1037 : Cond.static yX8_crossed ∈ gtbl := gt_mem 1037 rfl rfl
set_option maxRecDepth 20000 in
theorem tw_1038 : Cond.code yX8_crossed cX8_crossed 6 (some .int) ∈ gtbl := gt_mem 1038 rfl rfl
set_option maxRecDepth 20000 in
theorem tw_1039 : Cond.methodLink RX8 189 yX8_crosses ∈ gtbl := gt_mem 1039 rfl rfl
set_option maxRecDepth 20000 in
theorem tw_1040 : Cond.static yX8_crosses ∈ gtbl := gt_mem 1040 rfl rfl
set_option maxRecDepth 20000 in
theorem tw_1041 : Cond.code yX8_crosses cX8_crosses 8 (some .boolean) ∈ gtbl := gt_mem 1041 rfl rfl
set_option maxRecDepth 20000 in
theorem tw_1042 : Cond.methodLink RX8 217 yX8_meets ∈ gtbl := gt_mem 1042 rfl rfl
set_option maxRecDepth 20000 in
theorem tw_1044 : Cond.instanceMethod yX8_meets ∈ gtbl := gt_mem 1044 rfl rfl
set_option maxRecDepth 20000 in
theorem tw_1045 : Cond.code yX8_meets cX8_meets 8 none ∈ gtbl := gt_mem 1045 rfl rfl
set_option maxRecDepth 20000 in
theorem tw_1046 : Cond.methodLink RX8 197 yX8_sumOf ∈ gtbl := gt_mem 1046 rfl rfl
set_option maxRecDepth 20000 in
theorem tw_1048 : Cond.instanceMethod yX8_sumOf ∈ gtbl := gt_mem 1048 rfl rfl
set_option maxRecDepth 20000 in
theorem tw_1049 : Cond.code yX8_sumOf cX8_sumOf 4 (some .int) ∈ gtbl := gt_mem 1049 rfl rfl
set_option maxRecDepth 20000 in
theorem tw_1050 : Cond.methodLink RX8 201 yX8_isAnnotation ∈ gtbl := gt_mem 1050 rfl rfl
set_option maxRecDepth 20000 in
theorem tw_1052 : Cond.instanceMethod yX8_isAnnotation ∈ gtbl := gt_mem 1052 rfl rfl
set_option maxRecDepth 20000 in
theorem tw_1053 : Cond.code yX8_isAnnotation cX8_isAnnotation 4 (some .boolean) ∈ gtbl := gt_mem 1053 rfl rfl
set_option maxRecDepth 20000 in
theorem tw_1054 : Cond.methodLink RX8 204 yX8_ranks ∈ gtbl := gt_mem 1054 rfl rfl
set_option maxRecDepth 20000 in
theorem tw_1056 : Cond.instanceMethod yX8_ranks ∈ gtbl := gt_mem 1056 rfl rfl
set_option maxRecDepth 20000 in
theorem tw_1057 : Cond.code yX8_ranks cX8_ranks 5 none ∈ gtbl := gt_mem 1057 rfl rfl
set_option maxRecDepth 20000 in
theorem tw_1058 : Cond.methodLink RX8 220 yX8_steps ∈ gtbl := gt_mem 1058 rfl rfl
set_option maxRecDepth 20000 in
theorem tw_1060 : Cond.instanceMethod yX8_steps ∈ gtbl := gt_mem 1060 rfl rfl
set_option maxRecDepth 20000 in
theorem tw_1061 : Cond.code yX8_steps cX8_steps 3 (some .boolean) ∈ gtbl := gt_mem 1061 rfl rfl
set_option maxRecDepth 20000 in
theorem tw_1086 : Cond.methodLink RX8 229 yX8_right ∈ gtbl := gt_mem 1086 rfl rfl
set_option maxRecDepth 20000 in
theorem tw_1088 : Cond.instanceMethod yX8_right ∈ gtbl := gt_mem 1088 rfl rfl
set_option maxRecDepth 20000 in
theorem tw_1089 : Cond.code yX8_right cX8_right 4 (some .int) ∈ gtbl := gt_mem 1089 rfl rfl
set_option maxRecDepth 20000 in
theorem tw_1102 : Cond.constantLong RX8 232 (-1000001) ∈ gtbl := gt_mem 1102 rfl rfl
set_option maxRecDepth 20000 in
theorem tw_1107 : Cond.constantLong RX8 234 (-1000004) ∈ gtbl := gt_mem 1107 rfl rfl
set_option maxRecDepth 20000 in
theorem tw_1112 : Cond.methodLink RX8 236 yX8_looksForRisk ∈ gtbl := gt_mem 1112 rfl rfl
set_option maxRecDepth 20000 in
theorem tw_1114 : Cond.instanceMethod yX8_looksForRisk ∈ gtbl := gt_mem 1114 rfl rfl
set_option maxRecDepth 20000 in
theorem tw_1115 : Cond.code yX8_looksForRisk cX8_looksForRisk 3 none ∈ gtbl := gt_mem 1115 rfl rfl
set_option maxRecDepth 20000 in
theorem tw_1116 : Cond.methodLink RX8 223 yX8_risks ∈ gtbl := gt_mem 1116 rfl rfl
set_option maxRecDepth 20000 in
theorem tw_1118 : Cond.instanceMethod yX8_risks ∈ gtbl := gt_mem 1118 rfl rfl
set_option maxRecDepth 20000 in
theorem tw_1119 : Cond.code yX8_risks cX8_risks 5 none ∈ gtbl := gt_mem 1119 rfl rfl
set_option maxRecDepth 20000 in
theorem tw_1132 : Cond.methodLink RX8 246 yX8_orders ∈ gtbl := gt_mem 1132 rfl rfl
set_option maxRecDepth 20000 in
theorem tw_1134 : Cond.instanceMethod yX8_orders ∈ gtbl := gt_mem 1134 rfl rfl
set_option maxRecDepth 20000 in
theorem tw_1135 : Cond.code yX8_orders cX8_orders 8 none ∈ gtbl := gt_mem 1135 rfl rfl
set_option maxRecDepth 20000 in
theorem tw_1136 : Cond.methodLink RX8 239 yX8_placeOf ∈ gtbl := gt_mem 1136 rfl rfl
set_option maxRecDepth 20000 in
theorem tw_1138 : Cond.instanceMethod yX8_placeOf ∈ gtbl := gt_mem 1138 rfl rfl
set_option maxRecDepth 20000 in
theorem tw_1139 : Cond.code yX8_placeOf cX8_placeOf 4 (some .int) ∈ gtbl := gt_mem 1139 rfl rfl
set_option maxRecDepth 20000 in
theorem tw_1140 : Cond.methodLink RX8 242 yX8_inserts ∈ gtbl := gt_mem 1140 rfl rfl
set_option maxRecDepth 20000 in
theorem tw_1142 : Cond.instanceMethod yX8_inserts ∈ gtbl := gt_mem 1142 rfl rfl
set_option maxRecDepth 20000 in
theorem tw_1143 : Cond.code yX8_inserts cX8_inserts 5 none ∈ gtbl := gt_mem 1143 rfl rfl
set_option maxRecDepth 20000 in
theorem tw_1148 : Cond.methodLink RX8 267 yX8_moves ∈ gtbl := gt_mem 1148 rfl rfl
set_option maxRecDepth 20000 in
theorem tw_1150 : Cond.instanceMethod yX8_moves ∈ gtbl := gt_mem 1150 rfl rfl
set_option maxRecDepth 20000 in
theorem tw_1151 : Cond.code yX8_moves cX8_moves 5 none ∈ gtbl := gt_mem 1151 rfl rfl
set_option maxRecDepth 20000 in
theorem tw_1152 : Cond.methodLink RX8 264 yX8_next ∈ gtbl := gt_mem 1152 rfl rfl
set_option maxRecDepth 20000 in
theorem tw_1154 : Cond.instanceMethod yX8_next ∈ gtbl := gt_mem 1154 rfl rfl
set_option maxRecDepth 20000 in
theorem tw_1155 : Cond.code yX8_next cX8_next 4 (some .int) ∈ gtbl := gt_mem 1155 rfl rfl
set_option maxRecDepth 20000 in
theorem tw_1156 : Cond.methodLink RX8 255 yX8_isReady ∈ gtbl := gt_mem 1156 rfl rfl
set_option maxRecDepth 20000 in
theorem tw_1158 : Cond.instanceMethod yX8_isReady ∈ gtbl := gt_mem 1158 rfl rfl
set_option maxRecDepth 20000 in
theorem tw_1159 : Cond.code yX8_isReady cX8_isReady 5 (some .boolean) ∈ gtbl := gt_mem 1159 rfl rfl
set_option maxRecDepth 20000 in
theorem tw_1168 : Cond.methodLink RX8 272 yX8_trains ∈ gtbl := gt_mem 1168 rfl rfl
set_option maxRecDepth 20000 in
theorem tw_1170 : Cond.instanceMethod yX8_trains ∈ gtbl := gt_mem 1170 rfl rfl
set_option maxRecDepth 20000 in
theorem tw_1171 : Cond.code yX8_trains cX8_trains 6 (some .int) ∈ gtbl := gt_mem 1171 rfl rfl
set_option maxRecDepth 20000 in
theorem tw_1172 : Cond.methodLink RX8 269 yX8_changes ∈ gtbl := gt_mem 1172 rfl rfl
set_option maxRecDepth 20000 in
theorem tw_1174 : Cond.instanceMethod yX8_changes ∈ gtbl := gt_mem 1174 rfl rfl
set_option maxRecDepth 20000 in
theorem tw_1175 : Cond.code yX8_changes cX8_changes 4 none ∈ gtbl := gt_mem 1175 rfl rfl
set_option maxRecDepth 20000 in
theorem tw_1184 : Cond.methodLink RX8 275 yX8_used ∈ gtbl := gt_mem 1184 rfl rfl
set_option maxRecDepth 20000 in
theorem tw_1186 : Cond.instanceMethod yX8_used ∈ gtbl := gt_mem 1186 rfl rfl
set_option maxRecDepth 20000 in
theorem tw_1187 : Cond.code yX8_used cX8_used 3 (some .int) ∈ gtbl := gt_mem 1187 rfl rfl
set_option maxRecDepth 20000 in
theorem tw_1196 : Cond.constantLong RX8 278 (403) ∈ gtbl := gt_mem 1196 rfl rfl
set_option maxRecDepth 20000 in
theorem tw_1197 : Cond.constantLong RX8 280 (31) ∈ gtbl := gt_mem 1197 rfl rfl
set_option maxRecDepth 20000 in
theorem tws_0 : Cond.selects RX7 yX7_find yX7_find ∈ gtbl := gt_sel 0 rfl rfl
set_option maxRecDepth 20000 in
theorem tws_1 : Cond.selects RX7 yX7_rankTrees yX7_rankTrees ∈ gtbl := gt_sel 1 rfl rfl
set_option maxRecDepth 20000 in
theorem tws_2 : Cond.selects RX7 yX7_offerArcs yX7_offerArcs ∈ gtbl := gt_sel 2 rfl rfl
set_option maxRecDepth 20000 in
theorem tws_3 : Cond.selects RX7 yX7_arcScore yX7_arcScore ∈ gtbl := gt_sel 3 rfl rfl
set_option maxRecDepth 20000 in
theorem tws_4 : Cond.selects RX4 yX4_descend yX4_descend ∈ gtbl := gt_sel 4 rfl rfl
set_option maxRecDepth 20000 in
theorem tws_5 : Cond.selects RX4 yX4_keep yX4_keep ∈ gtbl := gt_sel 5 rfl rfl
set_option maxRecDepth 20000 in
theorem tws_6 : Cond.selects RX4 yX4_closesCycle yX4_closesCycle ∈ gtbl := gt_sel 6 rfl rfl
set_option maxRecDepth 20000 in
theorem tws_7 : Cond.selects RX4 yX4_crossesEarlier yX4_crossesEarlier ∈ gtbl := gt_sel 7 rfl rfl
set_option maxRecDepth 20000 in
theorem tws_8 : Cond.selects RX7 yX7_countAgreeing yX7_countAgreeing ∈ gtbl := gt_sel 8 rfl rfl
set_option maxRecDepth 20000 in
theorem tws_9 : Cond.selects RX7 yX7_annotationScore yX7_annotationScore ∈ gtbl := gt_sel 9 rfl rfl
set_option maxRecDepth 20000 in
theorem tws_10 : Cond.selects RX7 yX7_countTrees yX7_countTrees ∈ gtbl := gt_sel 10 rfl rfl
set_option maxRecDepth 20000 in
theorem tws_11 : Cond.selects RX7 yX7_setPotentials yX7_setPotentials ∈ gtbl := gt_sel 11 rfl rfl
set_option maxRecDepth 20000 in
theorem tws_12 : Cond.selects RX7 yX7_potential yX7_potential ∈ gtbl := gt_sel 12 rfl rfl
set_option maxRecDepth 20000 in
theorem tws_13 : Cond.selects RX5 yX5_addBranches yX5_addBranches ∈ gtbl := gt_sel 13 rfl rfl
set_option maxRecDepth 20000 in
theorem tws_14 : Cond.selects RX5 yX5_mayBranch yX5_mayBranch ∈ gtbl := gt_sel 14 rfl rfl
set_option maxRecDepth 20000 in
theorem tws_15 : Cond.selects RX5 yX5_addForests yX5_addForests ∈ gtbl := gt_sel 15 rfl rfl
set_option maxRecDepth 20000 in
theorem tws_16 : Cond.selects RX7 yX7_sumWeights yX7_sumWeights ∈ gtbl := gt_sel 16 rfl rfl
set_option maxRecDepth 20000 in
theorem tws_17 : Cond.selects RX5 yX5_clearGains yX5_clearGains ∈ gtbl := gt_sel 17 rfl rfl
set_option maxRecDepth 20000 in
theorem tws_18 : Cond.selects RX5 yX5_spreadForest yX5_spreadForest ∈ gtbl := gt_sel 18 rfl rfl
set_option maxRecDepth 20000 in
theorem tws_19 : Cond.selects RX5 yX5_spreadBranch yX5_spreadBranch ∈ gtbl := gt_sel 19 rfl rfl
set_option maxRecDepth 20000 in
theorem tws_20 : Cond.selects RX3 yX3_visit yX3_visit ∈ gtbl := gt_sel 20 rfl rfl
set_option maxRecDepth 20000 in
theorem tws_21 : Cond.selects RX7 yX7_countTransitions yX7_countTransitions ∈ gtbl := gt_sel 21 rfl rfl
set_option maxRecDepth 20000 in
theorem tws_22 : Cond.selects RX3 yX3_choose yX3_choose ∈ gtbl := gt_sel 22 rfl rfl
set_option maxRecDepth 20000 in
theorem tws_23 : Cond.selects RX3 yX3_isComplete yX3_isComplete ∈ gtbl := gt_sel 23 rfl rfl
set_option maxRecDepth 20000 in
theorem tws_24 : Cond.selects RX3 yX3_apply yX3_apply ∈ gtbl := gt_sel 24 rfl rfl
set_option maxRecDepth 20000 in
theorem tws_25 : Cond.selects RX7 yX7_learn yX7_learn ∈ gtbl := gt_sel 25 rfl rfl
set_option maxRecDepth 20000 in
theorem tws_26 : Cond.selects RX7 yX7_mixSentence yX7_mixSentence ∈ gtbl := gt_sel 26 rfl rfl
set_option maxRecDepth 20000 in
theorem tws_27 : Cond.selects RX8 yX8_faultOf yX8_faultOf ∈ gtbl := gt_sel 27 rfl rfl
set_option maxRecDepth 20000 in
theorem tws_28 : Cond.selects RX8 yX8_isSentence yX8_isSentence ∈ gtbl := gt_sel 28 rfl rfl
set_option maxRecDepth 20000 in
theorem tws_29 : Cond.selects RX8 yX8_isWord yX8_isWord ∈ gtbl := gt_sel 29 rfl rfl
set_option maxRecDepth 20000 in
theorem tws_30 : Cond.selects RX8 yX8_isArc yX8_isArc ∈ gtbl := gt_sel 30 rfl rfl
set_option maxRecDepth 20000 in
theorem tws_31 : Cond.selects RX8 yX8_sets yX8_sets ∈ gtbl := gt_sel 31 rfl rfl
set_option maxRecDepth 20000 in
theorem tws_32 : Cond.selects RX8 yX8_scoreOf yX8_scoreOf ∈ gtbl := gt_sel 32 rfl rfl
set_option maxRecDepth 20000 in
theorem tws_33 : Cond.selects RX8 yX8_tagPlaceOf yX8_tagPlaceOf ∈ gtbl := gt_sel 33 rfl rfl
set_option maxRecDepth 20000 in
theorem tws_34 : Cond.selects RX8 yX8_tagOf yX8_tagOf ∈ gtbl := gt_sel 34 rfl rfl
set_option maxRecDepth 20000 in
theorem tws_35 : Cond.selects RX8 yX8_looks yX8_looks ∈ gtbl := gt_sel 35 rfl rfl
set_option maxRecDepth 20000 in
theorem tws_36 : Cond.selects RX8 yX8_prepares yX8_prepares ∈ gtbl := gt_sel 36 rfl rfl
set_option maxRecDepth 20000 in
theorem tws_37 : Cond.selects RX8 yX8_begins yX8_begins ∈ gtbl := gt_sel 37 rfl rfl
set_option maxRecDepth 20000 in
theorem tws_38 : Cond.selects RX8 yX8_isAdmissible yX8_isAdmissible ∈ gtbl := gt_sel 38 rfl rfl
set_option maxRecDepth 20000 in
theorem tws_39 : Cond.selects RX8 yX8_meets yX8_meets ∈ gtbl := gt_sel 39 rfl rfl
set_option maxRecDepth 20000 in
theorem tws_40 : Cond.selects RX8 yX8_sumOf yX8_sumOf ∈ gtbl := gt_sel 40 rfl rfl
set_option maxRecDepth 20000 in
theorem tws_41 : Cond.selects RX8 yX8_isAnnotation yX8_isAnnotation ∈ gtbl := gt_sel 41 rfl rfl
set_option maxRecDepth 20000 in
theorem tws_42 : Cond.selects RX8 yX8_ranks yX8_ranks ∈ gtbl := gt_sel 42 rfl rfl
set_option maxRecDepth 20000 in
theorem tws_43 : Cond.selects RX8 yX8_steps yX8_steps ∈ gtbl := gt_sel 43 rfl rfl
set_option maxRecDepth 20000 in
theorem tws_44 : Cond.selects RX8 yX8_right yX8_right ∈ gtbl := gt_sel 44 rfl rfl
set_option maxRecDepth 20000 in
theorem tws_45 : Cond.selects RX8 yX8_looksForRisk yX8_looksForRisk ∈ gtbl := gt_sel 45 rfl rfl
set_option maxRecDepth 20000 in
theorem tws_46 : Cond.selects RX8 yX8_risks yX8_risks ∈ gtbl := gt_sel 46 rfl rfl
set_option maxRecDepth 20000 in
theorem tws_47 : Cond.selects RX8 yX8_orders yX8_orders ∈ gtbl := gt_sel 47 rfl rfl
set_option maxRecDepth 20000 in
theorem tws_48 : Cond.selects RX8 yX8_placeOf yX8_placeOf ∈ gtbl := gt_sel 48 rfl rfl
set_option maxRecDepth 20000 in
theorem tws_49 : Cond.selects RX8 yX8_inserts yX8_inserts ∈ gtbl := gt_sel 49 rfl rfl
set_option maxRecDepth 20000 in
theorem tws_50 : Cond.selects RX8 yX8_moves yX8_moves ∈ gtbl := gt_sel 50 rfl rfl
set_option maxRecDepth 20000 in
theorem tws_51 : Cond.selects RX8 yX8_next yX8_next ∈ gtbl := gt_sel 51 rfl rfl
set_option maxRecDepth 20000 in
theorem tws_52 : Cond.selects RX8 yX8_isReady yX8_isReady ∈ gtbl := gt_sel 52 rfl rfl
set_option maxRecDepth 20000 in
theorem tws_53 : Cond.selects RX8 yX8_trains yX8_trains ∈ gtbl := gt_sel 53 rfl rfl
set_option maxRecDepth 20000 in
theorem tws_54 : Cond.selects RX8 yX8_changes yX8_changes ∈ gtbl := gt_sel 54 rfl rfl
set_option maxRecDepth 20000 in
theorem tws_55 : Cond.selects RX8 yX8_used yX8_used ∈ gtbl := gt_sel 55 rfl rfl
theorem LRX0_30 : LkV RX0 30 yX0_hasWord cX0_hasWord 2 (some .boolean) 1 := ⟨⟨tw_359, tw_344, tw_345, tw_346, tw_3⟩, ⟨by decide, by decide, by decide +kernel⟩, by decide⟩
theorem LRX0_34 : LkS RX0 34 yJ6_bitCount_0f7a4 cJ6_bitCount_0f7a4 1 (some .int) 1 := ⟨⟨tw_381, tw_382, tw_383, tw_10⟩, ⟨by decide, by decide, by decide +kernel⟩, by decide⟩
theorem LRX2_35 : LkS RX2 35 yX2_isDigit cX2_isDigit 1 (some .boolean) 1 := ⟨⟨tw_290, tw_291, tw_292, tw_2⟩, ⟨by decide, by decide, by decide +kernel⟩, by decide⟩
theorem LRX7_223 : LkS RX7 223 yX7_countStepsToRoot cX7_countStepsToRoot 5 (some .int) 3 := ⟨⟨tw_296, tw_297, tw_298, tw_1⟩, ⟨by decide, by decide, by decide +kernel⟩, by decide⟩
theorem LRX2_30 : LkS RX2 30 yX2_isTagLetter cX2_isTagLetter 1 (some .boolean) 1 := ⟨⟨tw_300, tw_301, tw_302, tw_2⟩, ⟨by decide, by decide, by decide +kernel⟩, by decide⟩
theorem LRX2_26 : LkN RX2 26 yX7_formTree RX7 cX7_formTree 3 (some .boolean) 2 := ⟨⟨tw_294, tw_295, tw_1⟩, ⟨by decide, by decide, by decide +kernel⟩, by decide⟩
theorem LRX2_22 : LkS RX2 22 yX2_isHeadOf cX2_isHeadOf 2 (some .boolean) 2 := ⟨⟨tw_287, tw_288, tw_289, tw_2⟩, ⟨by decide, by decide, by decide +kernel⟩, by decide⟩
theorem LRX3_60 : LkV RX3 60 yX3_visit cX3_visit 4 none 2 := ⟨⟨tw_655, tw_657, tws_20, tw_658, tw_8⟩, ⟨by decide, by decide, by decide +kernel⟩, by decide⟩
theorem LRX3_72 : LkV RX3 72 yX3_isComplete cX3_isComplete 3 (some .boolean) 1 := ⟨⟨tw_675, tw_677, tws_23, tw_678, tw_8⟩, ⟨by decide, by decide, by decide +kernel⟩, by decide⟩
theorem LRX3_64 : LkV RX3 64 yX3_choose cX3_choose 3 (some .int) 0 := ⟨⟨tw_671, tw_673, tws_22, tw_674, tw_8⟩, ⟨by decide, by decide, by decide +kernel⟩, by decide⟩
theorem LRX3_68 : LkV RX3 68 yX3_apply cX3_apply 4 none 1 := ⟨⟨tw_679, tw_681, tws_24, tw_682, tw_8⟩, ⟨by decide, by decide, by decide +kernel⟩, by decide⟩
theorem LRX4_87 : LkN RX4 87 yX7_cross RX7 cX7_cross 8 (some .boolean) 4 := ⟨⟨tw_442, tw_443, tw_1⟩, ⟨by decide, by decide, by decide +kernel⟩, by decide⟩
theorem LRX4_77 : LkV RX4 77 yX4_closesCycle cX4_closesCycle 5 (some .boolean) 2 := ⟨⟨tw_433, tw_435, tws_6, tw_436, tw_6⟩, ⟨by decide, by decide, by decide +kernel⟩, by decide⟩
theorem LRX4_63 : LkV RX4 63 yX4_descend cX4_descend 10 none 3 := ⟨⟨tw_425, tw_427, tws_4, tw_428, tw_6⟩, ⟨by decide, by decide, by decide +kernel⟩, by decide⟩
theorem LRX4_84 : LkV RX4 84 yX4_crossesEarlier cX4_crossesEarlier 4 (some .boolean) 2 := ⟨⟨tw_437, tw_439, tws_7, tw_440, tw_6⟩, ⟨by decide, by decide, by decide +kernel⟩, by decide⟩
theorem LRX4_67 : LkV RX4 67 yX4_keep cX4_keep 4 none 1 := ⟨⟨tw_429, tw_431, tws_5, tw_432, tw_6⟩, ⟨by decide, by decide, by decide +kernel⟩, by decide⟩
theorem LRX4_95 : LkS RX4 95 yJ9_floorMod_f86c9 cJ9_floorMod_f86c9 6 (some .long) 2 := ⟨⟨tw_452, tw_453, tw_454, tw_11⟩, ⟨by decide, by decide, by decide +kernel⟩, by decide⟩
theorem LRX4_91 : LkS RX4 91 yJ9_floorDiv_f86c9 cJ9_floorDiv_f86c9 6 (some .long) 2 := ⟨⟨tw_512, tw_513, tw_514, tw_11⟩, ⟨by decide, by decide, by decide +kernel⟩, by decide⟩
theorem LRX5_60 : LkS RX5 60 yX5_bit cX5_bit 1 (some .int) 1 := ⟨⟨tw_580, tw_581, tw_582, tw_7⟩, ⟨by decide, by decide, by decide +kernel⟩, by decide⟩
theorem LRX5_56 : LkV RX5 56 yX5_mayBranch cX5_mayBranch 2 (some .boolean) 1 := ⟨⟨tw_587, tw_589, tws_14, tw_590, tw_7⟩, ⟨by decide, by decide, by decide +kernel⟩, by decide⟩
theorem LRX5_39 : LkS RX5 39 yX5_hasNode cX5_hasNode 2 (some .boolean) 2 := ⟨⟨tw_577, tw_578, tw_579, tw_7⟩, ⟨by decide, by decide, by decide +kernel⟩, by decide⟩
theorem LRX5_43 : LkV RX5 43 yX5_addBranches cX5_addBranches 6 (some .long) 2 := ⟨⟨tw_583, tw_585, tws_13, tw_586, tw_7⟩, ⟨by decide, by decide, by decide +kernel⟩, by decide⟩
theorem LRX5_47 : LkV RX5 47 yX5_addForests cX5_addForests 7 (some .long) 2 := ⟨⟨tw_591, tw_593, tws_15, tw_594, tw_7⟩, ⟨by decide, by decide, by decide +kernel⟩, by decide⟩
theorem LRX5_64 : LkV RX5 64 yX5_clearGains cX5_clearGains 3 none 0 := ⟨⟨tw_613, tw_615, tws_17, tw_616, tw_7⟩, ⟨by decide, by decide, by decide +kernel⟩, by decide⟩
theorem LRX5_67 : LkV RX5 67 yX5_spreadForest cX5_spreadForest 7 none 2 := ⟨⟨tw_617, tw_619, tws_18, tw_620, tw_7⟩, ⟨by decide, by decide, by decide +kernel⟩, by decide⟩
theorem LRX5_71 : LkV RX5 71 yX5_spreadBranch cX5_spreadBranch 7 none 2 := ⟨⟨tw_621, tw_623, tws_19, tw_624, tw_7⟩, ⟨by decide, by decide, by decide +kernel⟩, by decide⟩
theorem LRX6_50 : LkN RX6 50 yX7_mix RX7 cX7_mix 4 (some .long) 2 := ⟨⟨tw_731, tw_732, tw_1⟩, ⟨by decide, by decide, by decide +kernel⟩, by decide⟩
theorem LRX6_35 : LkS RX6 35 yX6_clamp cX6_clamp 1 (some .int) 1 := ⟨⟨tw_699, tw_700, tw_701, tw_4⟩, ⟨by decide, by decide, by decide +kernel⟩, by decide⟩
theorem LRX6_25 : LkS RX6 25 yX6_direction cX6_direction 2 (some .int) 2 := ⟨⟨tw_402, tw_403, tw_404, tw_4⟩, ⟨by decide, by decide, by decide +kernel⟩, by decide⟩
theorem LRX7_263 : LkV RX7 263 yX6_ofArc cX6_ofArc 4 (some .int) 3 := ⟨⟨tw_398, tw_399, tw_400, tw_401, tw_4⟩, ⟨by decide, by decide, by decide +kernel⟩, by decide⟩
theorem LRX7_266 : LkV RX7 266 yX4_begin cX4_begin 3 none 1 := ⟨⟨tw_373, tw_374, tw_375, tw_376, tw_6⟩, ⟨by decide, by decide, by decide +kernel⟩, by decide⟩
theorem LRX7_269 : LkV RX7 269 yX0_headChoices cX0_headChoices 5 (some .int) 1 := ⟨⟨tw_377, tw_378, tw_379, tw_380, tw_3⟩, ⟨by decide, by decide, by decide +kernel⟩, by decide⟩
theorem LRX7_272 : LkS RX7 272 yX7_holds cX7_holds 2 (some .boolean) 2 := ⟨⟨tw_387, tw_388, tw_389, tw_1⟩, ⟨by decide, by decide, by decide +kernel⟩, by decide⟩
theorem LRX7_176 : LkV RX7 176 yX7_arcScore cX7_arcScore 4 (some .int) 3 := ⟨⟨tw_394, tw_396, tws_3, tw_397, tw_1⟩, ⟨by decide, by decide, by decide +kernel⟩, by decide⟩
theorem LRX7_275 : LkV RX7 275 yX4_offer cX4_offer 9 none 3 := ⟨⟨tw_408, tw_409, tw_410, tw_411, tw_6⟩, ⟨by decide, by decide, by decide +kernel⟩, by decide⟩
theorem LRX7_208 : LkV RX7 208 yX5_arcSum cX5_arcSum 3 (some .long) 2 := ⟨⟨tw_390, tw_391, tw_392, tw_393, tw_7⟩, ⟨by decide, by decide, by decide +kernel⟩, by decide⟩
theorem LRX7_216 : LkV RX7 216 yX7_offerArcs cX7_offerArcs 6 none 2 := ⟨⟨tw_369, tw_371, tws_2, tw_372, tw_1⟩, ⟨by decide, by decide, by decide +kernel⟩, by decide⟩
theorem LRX7_187 : LkV RX7 187 yX4_seek cX4_seek 3 none 1 := ⟨⟨tw_415, tw_416, tw_417, tw_418, tw_6⟩, ⟨by decide, by decide, by decide +kernel⟩, by decide⟩
theorem LRX7_140 : LkV RX7 140 yX4_headAt cX4_headAt 5 (some .int) 2 := ⟨⟨tw_448, tw_449, tw_450, tw_451, tw_6⟩, ⟨by decide, by decide, by decide +kernel⟩, by decide⟩
theorem LRX7_101 : LkV RX7 101 yX7_find cX7_find 2 (some (.object RX0)) 1 := ⟨⟨tw_322, tw_324, tws_0, tw_325, tw_1⟩, ⟨by decide, by decide, by decide +kernel⟩, by decide⟩
theorem LRX7_129 : LkV RX7 129 yX7_rankTrees cX7_rankTrees 3 none 2 := ⟨⟨tw_365, tw_367, tws_1, tw_368, tw_1⟩, ⟨by decide, by decide, by decide +kernel⟩, by decide⟩
theorem LRX7_136 : LkV RX7 136 yX7_countAgreeing cX7_countAgreeing 4 (some .int) 1 := ⟨⟨tw_444, tw_446, tws_8, tw_447, tw_1⟩, ⟨by decide, by decide, by decide +kernel⟩, by decide⟩
theorem LRX7_121 : LkV RX7 121 yX0_hasArc cX0_hasArc 3 (some .boolean) 2 := ⟨⟨tw_355, tw_356, tw_357, tw_358, tw_3⟩, ⟨by decide, by decide, by decide +kernel⟩, by decide⟩
theorem LRX7_125 : LkS RX7 125 yX7_formTree cX7_formTree 3 (some .boolean) 2 := ⟨⟨tw_360, tw_294, tw_295, tw_1⟩, ⟨by decide, by decide, by decide +kernel⟩, by decide⟩
theorem LRX7_112 : LkV RX7 112 yX0_hasWord cX0_hasWord 2 (some .boolean) 1 := ⟨⟨tw_343, tw_344, tw_345, tw_346, tw_3⟩, ⟨by decide, by decide, by decide +kernel⟩, by decide⟩
theorem LRX7_73 : LkV RX7 73 yX2_add cX2_add 2 (some .boolean) 1 := ⟨⟨tw_270, tw_271, tw_272, tw_273, tw_2⟩, ⟨by decide, by decide, by decide +kernel⟩, by decide⟩
theorem LRX7_180 : LkV RX7 180 yX4_scoreAt cX4_scoreAt 2 (some .int) 1 := ⟨⟨tw_508, tw_509, tw_510, tw_511, tw_6⟩, ⟨by decide, by decide, by decide +kernel⟩, by decide⟩
theorem LRX7_286 : LkV RX7 286 yX5_begin cX5_begin 2 none 1 := ⟨⟨tw_559, tw_560, tw_561, tw_562, tw_7⟩, ⟨by decide, by decide, by decide +kernel⟩, by decide⟩
theorem LRX7_290 : LkV RX7 290 yX5_setPotential cX5_setPotential 4 none 3 := ⟨⟨tw_569, tw_570, tw_571, tw_572, tw_7⟩, ⟨by decide, by decide, by decide +kernel⟩, by decide⟩
theorem LRX7_287 : LkV RX7 287 yX7_potential cX7_potential 4 (some .int) 3 := ⟨⟨tw_563, tw_565, tws_12, tw_566, tw_1⟩, ⟨by decide, by decide, by decide +kernel⟩, by decide⟩
theorem LRX7_279 : LkV RX7 279 yX7_setPotentials cX7_setPotentials 7 none 2 := ⟨⟨tw_555, tw_557, tws_11, tw_558, tw_1⟩, ⟨by decide, by decide, by decide +kernel⟩, by decide⟩
theorem LRX7_282 : LkV RX7 282 yX5_addUp cX5_addUp 4 (some .long) 0 := ⟨⟨tw_573, tw_574, tw_575, tw_576, tw_7⟩, ⟨by decide, by decide, by decide +kernel⟩, by decide⟩
theorem LRX7_199 : LkV RX7 199 yX7_sumWeights cX7_sumWeights 2 (some .long) 1 := ⟨⟨tw_600, tw_602, tws_16, tw_603, tw_1⟩, ⟨by decide, by decide, by decide +kernel⟩, by decide⟩
theorem LRX7_205 : LkV RX7 205 yX5_spread cX5_spread 4 none 0 := ⟨⟨tw_609, tw_610, tw_611, tw_612, tw_7⟩, ⟨by decide, by decide, by decide +kernel⟩, by decide⟩
theorem LRX7_212 : LkS RX7 212 yX7_greatestCommonDivisor cX7_greatestCommonDivisor 11 (some .long) 2 := ⟨⟨tw_625, tw_626, tw_627, tw_1⟩, ⟨by decide, by decide, by decide +kernel⟩, by decide⟩
theorem LRX7_302 : LkS RX7 302 yX7_cross cX7_cross 8 (some .boolean) 4 := ⟨⟨tw_639, tw_442, tw_443, tw_1⟩, ⟨by decide, by decide, by decide +kernel⟩, by decide⟩
theorem LRX7_227 : LkV RX7 227 yX3_arrange cX3_arrange 2 none 1 := ⟨⟨tw_648, tw_649, tw_650, tw_651, tw_8⟩, ⟨by decide, by decide, by decide +kernel⟩, by decide⟩
theorem LRX7_306 : LkV RX7 306 yX3_perform cX3_perform 3 none 0 := ⟨⟨tw_667, tw_668, tw_669, tw_670, tw_8⟩, ⟨by decide, by decide, by decide +kernel⟩, by decide⟩
theorem LRX7_252 : LkS RX7 252 yX7_mix cX7_mix 4 (some .long) 2 := ⟨⟨tw_730, tw_731, tw_732, tw_1⟩, ⟨by decide, by decide, by decide +kernel⟩, by decide⟩
theorem LRX7_194 : LkV RX7 194 yX7_countTrees cX7_countTrees 2 (some .int) 1 := ⟨⟨tw_551, tw_553, tws_10, tw_554, tw_1⟩, ⟨by decide, by decide, by decide +kernel⟩, by decide⟩
theorem LRX7_220 : LkS RX7 220 yX7_countCrossings cX7_countCrossings 4 (some .int) 1 := ⟨⟨tw_636, tw_637, tw_638, tw_1⟩, ⟨by decide, by decide, by decide +kernel⟩, by decide⟩
theorem LRX7_234 : LkV RX7 234 yX7_countTransitions cX7_countTransitions 2 (some .int) 1 := ⟨⟨tw_663, tw_665, tws_21, tw_666, tw_1⟩, ⟨by decide, by decide, by decide +kernel⟩, by decide⟩
theorem LRX7_259 : LkV RX7 259 yX6_mixInto cX6_mixInto 7 (some .long) 1 := ⟨⟨tw_738, tw_739, tw_740, tw_741, tw_4⟩, ⟨by decide, by decide, by decide +kernel⟩, by decide⟩
theorem LRX7_255 : LkV RX7 255 yX7_mixSentence cX7_mixSentence 8 (some .long) 2 := ⟨⟨tw_734, tw_736, tws_26, tw_737, tw_1⟩, ⟨by decide, by decide, by decide +kernel⟩, by decide⟩
theorem LRX7_154 : LkS RX7 154 yX7_isDistance cX7_isDistance 2 (some .boolean) 2 := ⟨⟨tw_469, tw_470, tw_471, tw_1⟩, ⟨by decide, by decide, by decide +kernel⟩, by decide⟩
theorem LRX7_81 : LkV RX7 81 yX2_findFault cX2_findFault 5 (some .int) 0 := ⟨⟨tw_283, tw_284, tw_285, tw_286, tw_2⟩, ⟨by decide, by decide, by decide +kernel⟩, by decide⟩
theorem LRX7_310 : LkV RX7 310 yX6_nudge cX6_nudge 9 none 4 := ⟨⟨tw_695, tw_696, tw_697, tw_698, tw_4⟩, ⟨by decide, by decide, by decide +kernel⟩, by decide⟩
theorem LRX7_191 : LkV RX7 191 yX7_annotationScore cX7_annotationScore 4 (some .int) 1 := ⟨⟨tw_539, tw_541, tws_9, tw_542, tw_1⟩, ⟨by decide, by decide, by decide +kernel⟩, by decide⟩
theorem LRX7_87 : LkV RX7 87 yX2_countSentences cX2_countSentences 3 (some .int) 0 := ⟨⟨tw_309, tw_310, tw_311, tw_312, tw_2⟩, ⟨by decide, by decide, by decide +kernel⟩, by decide⟩
theorem LRX7_94 : LkS RX7 94 yX2_isDigit cX2_isDigit 1 (some .boolean) 1 := ⟨⟨tw_313, tw_291, tw_292, tw_2⟩, ⟨by decide, by decide, by decide +kernel⟩, by decide⟩
theorem LRX7_97 : LkV RX7 97 yX0_addWord cX0_addWord 3 none 2 := ⟨⟨tw_314, tw_315, tw_316, tw_317, tw_3⟩, ⟨by decide, by decide, by decide +kernel⟩, by decide⟩
theorem LRX7_184 : LkV RX7 184 yX4_keepOnly cX4_keepOnly 5 none 2 := ⟨⟨tw_531, tw_532, tw_533, tw_534, tw_6⟩, ⟨by decide, by decide, by decide +kernel⟩, by decide⟩
theorem LRX7_106 : LkV RX7 106 yX0_blank cX0_blank 3 none 0 := ⟨⟨tw_327, tw_328, tw_329, tw_330, tw_3⟩, ⟨by decide, by decide, by decide +kernel⟩, by decide⟩
theorem LRX7_243 : LkV RX7 243 yX6_copyFrom cX6_copyFrom 3 none 1 := ⟨⟨tw_712, tw_713, tw_714, tw_715, tw_4⟩, ⟨by decide, by decide, by decide +kernel⟩, by decide⟩
theorem LRX7_247 : LkV RX7 247 yX6_countNonZero cX6_countNonZero 4 (some .int) 0 := ⟨⟨tw_717, tw_718, tw_719, tw_720, tw_4⟩, ⟨by decide, by decide, by decide +kernel⟩, by decide⟩
theorem LRX7_147 : LkS RX7 147 yX7_isWithin cX7_isWithin 2 (some .boolean) 2 := ⟨⟨tw_462, tw_463, tw_464, tw_1⟩, ⟨by decide, by decide, by decide +kernel⟩, by decide⟩
theorem LRX7_144 : LkS RX7 144 yX7_isTagPair cX7_isTagPair 2 (some .boolean) 2 := ⟨⟨tw_459, tw_460, tw_461, tw_1⟩, ⟨by decide, by decide, by decide +kernel⟩, by decide⟩
theorem LRX7_240 : LkV RX7 240 yX7_learn cX7_learn 5 (some .int) 1 := ⟨⟨tw_691, tw_693, tws_25, tw_694, tw_1⟩, ⟨by decide, by decide, by decide +kernel⟩, by decide⟩
theorem LRX8_94 : LkS RX8 94 yX8_in cX8_in 3 (some .boolean) 3 := ⟨⟨tw_874, tw_875, tw_876, tw_9⟩, ⟨by decide, by decide, by decide +kernel⟩, by decide⟩
theorem LRX8_124 : LkS RX8 124 yX8_word cX8_word 2 (some .int) 2 := ⟨⟨tw_900, tw_901, tw_902, tw_9⟩, ⟨by decide, by decide, by decide +kernel⟩, by decide⟩
theorem LRX8_158 : LkV RX8 158 yX8_tagOf cX8_tagOf 3 (some .int) 2 := ⟨⟨tw_1007, tw_1009, tws_34, tw_1010, tw_9⟩, ⟨by decide, by decide, by decide +kernel⟩, by decide⟩
theorem LRX8_135 : LkS RX8 135 yX8_tagPlace cX8_tagPlace 2 (some .int) 2 := ⟨⟨tw_947, tw_948, tw_949, tw_9⟩, ⟨by decide, by decide, by decide +kernel⟩, by decide⟩
theorem LRX8_144 : LkS RX8 144 yX8_distancePlace cX8_distancePlace 2 (some .int) 2 := ⟨⟨tw_961, tw_962, tw_963, tw_9⟩, ⟨by decide, by decide, by decide +kernel⟩, by decide⟩
theorem LRX8_161 : LkV RX8 161 yX8_tagPlaceOf cX8_tagPlaceOf 4 (some .int) 3 := ⟨⟨tw_1003, tw_1005, tws_33, tw_1006, tw_9⟩, ⟨by decide, by decide, by decide +kernel⟩, by decide⟩
theorem LRX8_164 : LkS RX8 164 yX8_distancePlaceOf cX8_distancePlaceOf 2 (some .int) 2 := ⟨⟨tw_1011, tw_1012, tw_1013, tw_9⟩, ⟨by decide, by decide, by decide +kernel⟩, by decide⟩
theorem LRX8_147 : LkS RX8 147 yX8_arc cX8_arc 3 (some .int) 3 := ⟨⟨tw_976, tw_977, tw_978, tw_9⟩, ⟨by decide, by decide, by decide +kernel⟩, by decide⟩
theorem LRX8_167 : LkV RX8 167 yX8_scoreOf cX8_scoreOf 4 (some .int) 3 := ⟨⟨tw_999, tw_1001, tws_32, tw_1002, tw_9⟩, ⟨by decide, by decide, by decide +kernel⟩, by decide⟩
theorem LRX8_189 : LkS RX8 189 yX8_crosses cX8_crosses 8 (some .boolean) 4 := ⟨⟨tw_1039, tw_1040, tw_1041, tw_9⟩, ⟨by decide, by decide, by decide +kernel⟩, by decide⟩
theorem LRX8_114 : LkS RX8 114 yX8_isTree cX8_isTree 7 (some .boolean) 3 := ⟨⟨tw_891, tw_892, tw_893, tw_9⟩, ⟨by decide, by decide, by decide +kernel⟩, by decide⟩
theorem LRX8_193 : LkS RX8 193 yX8_crossed cX8_crossed 6 (some .int) 3 := ⟨⟨tw_1036, tw_1037, tw_1038, tw_9⟩, ⟨by decide, by decide, by decide +kernel⟩, by decide⟩
theorem LRX8_197 : LkV RX8 197 yX8_sumOf cX8_sumOf 4 (some .int) 1 := ⟨⟨tw_1046, tw_1048, tws_40, tw_1049, tw_9⟩, ⟨by decide, by decide, by decide +kernel⟩, by decide⟩
theorem LRX8_204 : LkV RX8 204 yX8_ranks cX8_ranks 5 none 2 := ⟨⟨tw_1054, tw_1056, tws_42, tw_1057, tw_9⟩, ⟨by decide, by decide, by decide +kernel⟩, by decide⟩
theorem LRX8_201 : LkV RX8 201 yX8_isAnnotation cX8_isAnnotation 4 (some .boolean) 1 := ⟨⟨tw_1050, tw_1052, tws_41, tw_1053, tw_9⟩, ⟨by decide, by decide, by decide +kernel⟩, by decide⟩
theorem LRX8_208 : LkV RX8 208 yX8_prepares cX8_prepares 7 none 1 := ⟨⟨tw_1022, tw_1024, tws_36, tw_1025, tw_9⟩, ⟨by decide, by decide, by decide +kernel⟩, by decide⟩
theorem LRX8_212 : LkV RX8 212 yX8_begins cX8_begins 2 none 0 := ⟨⟨tw_1028, tw_1030, tws_37, tw_1031, tw_9⟩, ⟨by decide, by decide, by decide +kernel⟩, by decide⟩
theorem LRX8_214 : LkV RX8 214 yX8_isAdmissible cX8_isAdmissible 6 (some .boolean) 1 := ⟨⟨tw_1032, tw_1034, tws_38, tw_1035, tw_9⟩, ⟨by decide, by decide, by decide +kernel⟩, by decide⟩
theorem LRX8_220 : LkV RX8 220 yX8_steps cX8_steps 3 (some .boolean) 1 := ⟨⟨tw_1058, tw_1060, tws_43, tw_1061, tw_9⟩, ⟨by decide, by decide, by decide +kernel⟩, by decide⟩
theorem LRX8_217 : LkV RX8 217 yX8_meets cX8_meets 8 none 1 := ⟨⟨tw_1042, tw_1044, tws_39, tw_1045, tw_9⟩, ⟨by decide, by decide, by decide +kernel⟩, by decide⟩
theorem LRX8_98 : LkV RX8 98 yX8_isSentence cX8_isSentence 2 (some .boolean) 1 := ⟨⟨tw_907, tw_909, tws_28, tw_910, tw_9⟩, ⟨by decide, by decide, by decide +kernel⟩, by decide⟩
theorem LRX8_226 : LkV RX8 226 yX8_looks cX8_looks 3 none 1 := ⟨⟨tw_1018, tw_1020, tws_35, tw_1021, tw_9⟩, ⟨by decide, by decide, by decide +kernel⟩, by decide⟩
theorem LRX8_229 : LkV RX8 229 yX8_right cX8_right 4 (some .int) 1 := ⟨⟨tw_1086, tw_1088, tws_44, tw_1089, tw_9⟩, ⟨by decide, by decide, by decide +kernel⟩, by decide⟩
theorem LRX8_102 : LkV RX8 102 yX8_isWord cX8_isWord 3 (some .boolean) 2 := ⟨⟨tw_924, tw_926, tws_29, tw_927, tw_9⟩, ⟨by decide, by decide, by decide +kernel⟩, by decide⟩
theorem LRX8_129 : LkV RX8 129 yX8_isArc cX8_isArc 4 (some .boolean) 3 := ⟨⟨tw_936, tw_938, tws_30, tw_939, tw_9⟩, ⟨by decide, by decide, by decide +kernel⟩, by decide⟩
theorem LRX8_239 : LkV RX8 239 yX8_placeOf cX8_placeOf 4 (some .int) 2 := ⟨⟨tw_1136, tw_1138, tws_48, tw_1139, tw_9⟩, ⟨by decide, by decide, by decide +kernel⟩, by decide⟩
theorem LRX8_242 : LkV RX8 242 yX8_inserts cX8_inserts 5 none 3 := ⟨⟨tw_1140, tw_1142, tws_49, tw_1143, tw_9⟩, ⟨by decide, by decide, by decide +kernel⟩, by decide⟩
theorem LRX8_255 : LkV RX8 255 yX8_isReady cX8_isReady 5 (some .boolean) 2 := ⟨⟨tw_1156, tw_1158, tws_52, tw_1159, tw_9⟩, ⟨by decide, by decide, by decide +kernel⟩, by decide⟩
theorem LRX8_246 : LkV RX8 246 yX8_orders cX8_orders 8 none 1 := ⟨⟨tw_1132, tw_1134, tws_47, tw_1135, tw_9⟩, ⟨by decide, by decide, by decide +kernel⟩, by decide⟩
theorem LRX8_264 : LkV RX8 264 yX8_next cX8_next 4 (some .int) 1 := ⟨⟨tw_1152, tw_1154, tws_51, tw_1155, tw_9⟩, ⟨by decide, by decide, by decide +kernel⟩, by decide⟩
theorem LRX8_267 : LkV RX8 267 yX8_moves cX8_moves 5 none 1 := ⟨⟨tw_1148, tw_1150, tws_50, tw_1151, tw_9⟩, ⟨by decide, by decide, by decide +kernel⟩, by decide⟩
theorem LRX8_141 : LkS RX8 141 yX8_isDistance cX8_isDistance 2 (some .boolean) 2 := ⟨⟨tw_958, tw_959, tw_960, tw_9⟩, ⟨by decide, by decide, by decide +kernel⟩, by decide⟩
theorem LRX8_119 : LkV RX8 119 yX8_faultOf cX8_faultOf 3 (some .int) 0 := ⟨⟨tw_887, tw_889, tws_27, tw_890, tw_9⟩, ⟨by decide, by decide, by decide +kernel⟩, by decide⟩
theorem LRX8_223 : LkV RX8 223 yX8_risks cX8_risks 5 none 1 := ⟨⟨tw_1116, tw_1118, tws_46, tw_1119, tw_9⟩, ⟨by decide, by decide, by decide +kernel⟩, by decide⟩
theorem LRX8_275 : LkV RX8 275 yX8_used cX8_used 3 (some .int) 0 := ⟨⟨tw_1184, tw_1186, tws_55, tw_1187, tw_9⟩, ⟨by decide, by decide, by decide +kernel⟩, by decide⟩
theorem LRX8_236 : LkV RX8 236 yX8_looksForRisk cX8_looksForRisk 3 none 1 := ⟨⟨tw_1112, tw_1114, tws_45, tw_1115, tw_9⟩, ⟨by decide, by decide, by decide +kernel⟩, by decide⟩
theorem LRX8_138 : LkV RX8 138 yX8_sets cX8_sets 4 (some .int) 2 := ⟨⟨tw_950, tw_952, tws_31, tw_953, tw_9⟩, ⟨by decide, by decide, by decide +kernel⟩, by decide⟩
theorem LRX8_132 : LkS RX8 132 yX8_areTags cX8_areTags 2 (some .boolean) 2 := ⟨⟨tw_944, tw_945, tw_946, tw_9⟩, ⟨by decide, by decide, by decide +kernel⟩, by decide⟩
theorem LRX8_269 : LkV RX8 269 yX8_changes cX8_changes 4 none 2 := ⟨⟨tw_1172, tw_1174, tws_54, tw_1175, tw_9⟩, ⟨by decide, by decide, by decide +kernel⟩, by decide⟩
theorem LRX8_272 : LkV RX8 272 yX8_trains cX8_trains 6 (some .int) 1 := ⟨⟨tw_1168, tw_1170, tws_53, tw_1171, tw_9⟩, ⟨by decide, by decide, by decide +kernel⟩, by decide⟩
end
section
def P_J6_bitCount_0f7a4 (p0 : Int32) (σ : St) (K : Int32 → St → Prop) : Prop := ∀ v1 : Int32, v1 = (p0 - ((ushr p0 1) &&& 1431655765)) → (∀ v2 : Int32, v2 = ((v1 &&& 858993459) + ((ushr v1 2) &&& 858993459)) → (∀ v3 : Int32, v3 = ((v2 + (ushr v2 4)) &&& 252645135) → (∀ v4 : Int32, v4 = (v3 + (ushr v3 8)) → (∀ v5 : Int32, v5 = (v4 + (ushr v4 16)) → (K (v5 &&& 63) σ)))))
set_option maxHeartbeats 4000000 in
set_option maxRecDepth 100000 in
theorem m_J6_bitCount_0f7a4 (l : Launch) (ad : Nat → Nat) (D : va_G) (ca : Nat → ClassId) (had : adOk ad) (p0 : Int32)  (σ : St) (K : Int32 → St → Prop) (hp : P_J6_bitCount_0f7a4 p0 σ K) : CtI l ad D ca yJ6_bitCount_0f7a4 cJ6_bitCount_0f7a4 1 .int 0 [.int p0] σ K := CtI_of (av := fun ad => [.int p0]) (by decide +kernel) had (Nat.le_of_ble_eq_true rfl) (fun κ C hret => by
  have C : Ok κ RJ6 cJ6_bitCount_0f7a4 1 0 := C
  show GG κ 0 [(0, .int p0)] [] σ
  unfold P_J6_bitCount_0f7a4 at hp
  refine x_iload_n 0 C rfl (dJ6_bitCount_0f7a4_p0 0 rfl) ?_
  refine x_iload_n 0 C rfl (dJ6_bitCount_0f7a4_p0 1 rfl) ?_
  refine x_iconst (v := 1) C (by decide) (dJ6_bitCount_0f7a4_p0 2 rfl) ?_
  refine x_iushr C (dJ6_bitCount_0f7a4_p0 3 rfl) ?_
  refine x_ldcw C tw_384 (dJ6_bitCount_0f7a4_p0 4 rfl) ?_
  refine x_iand C (dJ6_bitCount_0f7a4_p0 5 rfl) ?_
  refine x_isub C (dJ6_bitCount_0f7a4_p0 6 rfl) ?_
  refine x_topI (fun v1 ev1 => ?_)
  have hp := hp v1 ev1
  refine x_istore_n (loc' := [(0, .int v1)]) C rfl (by decide) rfl (dJ6_bitCount_0f7a4_p0 7 rfl) ?_
  refine x_iload_n 0 C rfl (dJ6_bitCount_0f7a4_p0 8 rfl) ?_
  refine x_ldcw C tw_385 (dJ6_bitCount_0f7a4_p0 9 rfl) ?_
  refine x_iand C (dJ6_bitCount_0f7a4_p0 10 rfl) ?_
  refine x_iload_n 0 C rfl (dJ6_bitCount_0f7a4_p0 11 rfl) ?_
  refine x_iconst (v := 2) C (by decide) (dJ6_bitCount_0f7a4_p0 12 rfl) ?_
  refine x_iushr C (dJ6_bitCount_0f7a4_p0 13 rfl) ?_
  refine x_ldcw C tw_385 (dJ6_bitCount_0f7a4_p0 14 rfl) ?_
  refine x_iand C (dJ6_bitCount_0f7a4_p0 15 rfl) ?_
  refine x_iadd C (dJ6_bitCount_0f7a4_p0 16 rfl) ?_
  refine x_topI (fun v2 ev2 => ?_)
  have hp := hp v2 ev2
  refine x_istore_n (loc' := [(0, .int v2)]) C rfl (by decide) rfl (dJ6_bitCount_0f7a4_p0 17 rfl) ?_
  refine x_iload_n 0 C rfl (dJ6_bitCount_0f7a4_p0 18 rfl) ?_
  refine x_iload_n 0 C rfl (dJ6_bitCount_0f7a4_p0 19 rfl) ?_
  refine x_iconst (v := 4) C (by decide) (dJ6_bitCount_0f7a4_p0 20 rfl) ?_
  refine x_iushr C (dJ6_bitCount_0f7a4_p0 21 rfl) ?_
  refine x_iadd C (dJ6_bitCount_0f7a4_p0 22 rfl) ?_
  refine x_ldcw C tw_386 (dJ6_bitCount_0f7a4_p0 23 rfl) ?_
  refine x_iand C (dJ6_bitCount_0f7a4_p0 24 rfl) ?_
  refine x_topI (fun v3 ev3 => ?_)
  have hp := hp v3 ev3
  refine x_istore_n (loc' := [(0, .int v3)]) C rfl (by decide) rfl (dJ6_bitCount_0f7a4_p0 25 rfl) ?_
  refine x_iload_n 0 C rfl (dJ6_bitCount_0f7a4_p0 26 rfl) ?_
  refine x_iload_n 0 C rfl (dJ6_bitCount_0f7a4_p0 27 rfl) ?_
  refine x_bipush (v := 8) C (by decide) (dJ6_bitCount_0f7a4_p0 28 rfl) ?_
  refine x_iushr C (dJ6_bitCount_0f7a4_p0 29 rfl) ?_
  refine x_iadd C (dJ6_bitCount_0f7a4_p0 30 rfl) ?_
  refine x_topI (fun v4 ev4 => ?_)
  have hp := hp v4 ev4
  refine x_istore_n (loc' := [(0, .int v4)]) C rfl (by decide) rfl (dJ6_bitCount_0f7a4_p0 31 rfl) ?_
  refine x_iload_n 0 C rfl (dJ6_bitCount_0f7a4_p0 32 rfl) ?_
  refine x_iload_n 0 C rfl (dJ6_bitCount_0f7a4_p0 33 rfl) ?_
  refine x_bipush (v := 16) C (by decide) (dJ6_bitCount_0f7a4_p0 34 rfl) ?_
  refine x_iushr C (dJ6_bitCount_0f7a4_p0 35 rfl) ?_
  refine x_iadd C (dJ6_bitCount_0f7a4_p0 36 rfl) ?_
  refine x_topI (fun v5 ev5 => ?_)
  have hp := hp v5 ev5
  refine x_istore_n (loc' := [(0, .int v5)]) C rfl (by decide) rfl (dJ6_bitCount_0f7a4_p0 37 rfl) ?_
  refine x_iload_n 0 C rfl (dJ6_bitCount_0f7a4_p0 38 rfl) ?_
  refine x_bipush (v := 63) C (by decide) (dJ6_bitCount_0f7a4_p0 39 rfl) ?_
  refine x_iand C (dJ6_bitCount_0f7a4_p0 40 rfl) ?_
  exact hret _ _ _ _ (dJ6_bitCount_0f7a4_p0 41 rfl) (nar_i _) hp)
def P_J9_floorDiv_f86c9 (p0 : Int64) (p2 : Int64) (σ : St) (K : Int64 → St → Prop) : Prop := ¬ p2 = 0 ∧ (∀ v2 : Int64, v2 = (p0 / p2) → ((0 ≤ (p0 ^^^ p2) → (K v2 σ)) ∧ (¬ (0 ≤ (p0 ^^^ p2)) → (((v2 * p2) = p0 → (K v2 σ)) ∧ (¬ ((v2 * p2) = p0) → (K (v2 - 1) σ))))))
set_option maxHeartbeats 4000000 in
set_option maxRecDepth 100000 in
theorem m_J9_floorDiv_f86c9 (l : Launch) (ad : Nat → Nat) (D : va_G) (ca : Nat → ClassId) (had : adOk ad) (p0 : Int64) (p2 : Int64)  (σ : St) (K : Int64 → St → Prop) (hp : P_J9_floorDiv_f86c9 p0 p2 σ K) : CtL l ad D ca yJ9_floorDiv_f86c9 cJ9_floorDiv_f86c9 6 0 [.long p0, .long p2] σ K := CtL_of (av := fun ad => [.long p0, .long p2]) (by decide +kernel) had (Nat.le_of_ble_eq_true rfl) (fun κ C hret => by
  have C : Ok κ RJ9 cJ9_floorDiv_f86c9 6 0 := C
  show GG κ 0 [(0, .long p0), (2, .long p2)] [] σ
  unfold P_J9_floorDiv_f86c9 at hp
  refine x_lload_n 0 C rfl (dJ9_floorDiv_f86c9_p0 0 rfl) ?_
  refine x_lload_n 1 C rfl (dJ9_floorDiv_f86c9_p0 1 rfl) ?_
  obtain ⟨h1, hp⟩ := hp
  refine x_ldiv C h1 (dJ9_floorDiv_f86c9_p0 2 rfl) ?_
  refine x_topL (fun v2 ev2 => ?_)
  have hp := hp v2 ev2
  refine x_lstore (loc' := [(4, .long v2), (0, .long p0), (2, .long p2)]) C (by decide) rfl (dJ9_floorDiv_f86c9_p0 3 rfl) ?_
  refine x_lload_n 1 C rfl (dJ9_floorDiv_f86c9_p0 4 rfl) ?_
  refine x_lload_n 2 C rfl (dJ9_floorDiv_f86c9_p0 5 rfl) ?_
  refine x_lxor C (dJ9_floorDiv_f86c9_p0 6 rfl) ?_
  refine x_lconst (v := 0) C (by decide) (dJ9_floorDiv_f86c9_p0 7 rfl) ?_
  refine x_lcmp C (dJ9_floorDiv_f86c9_p0 8 rfl) ?_
  refine x_if_ge (tgt := 27) C (dJ9_floorDiv_f86c9_p0 9 rfl) (by decide) (fun hc => ?_) (fun hc => ?_)
  · have hp := hp.1 (lgc_ge.mp hc)
    refine x_lload 0 C rfl (dJ9_floorDiv_f86c9_p0 20 rfl) ?_
    exact hret _ _ _ _ (dJ9_floorDiv_f86c9_p0 21 rfl) hp
  · have hp := hp.2 (fun q => hc (lgc_ge.mpr q))
    refine x_lload 0 C rfl (dJ9_floorDiv_f86c9_p0 10 rfl) ?_
    refine x_lload_n 2 C rfl (dJ9_floorDiv_f86c9_p0 11 rfl) ?_
    refine x_lmul C (dJ9_floorDiv_f86c9_p0 12 rfl) ?_
    refine x_lload_n 1 C rfl (dJ9_floorDiv_f86c9_p0 13 rfl) ?_
    refine x_lcmp C (dJ9_floorDiv_f86c9_p0 14 rfl) ?_
    refine x_if_eq (tgt := 27) C (dJ9_floorDiv_f86c9_p0 15 rfl) (by decide) (fun hc => ?_) (fun hc => ?_)
    · have hp := hp.1 (lgc_eq.mp hc)
      refine x_lload 0 C rfl (dJ9_floorDiv_f86c9_p0 20 rfl) ?_
      exact hret _ _ _ _ (dJ9_floorDiv_f86c9_p0 21 rfl) hp
    · have hp := hp.2 (fun q => hc (lgc_eq.mpr q))
      refine x_lload 0 C rfl (dJ9_floorDiv_f86c9_p0 16 rfl) ?_
      refine x_lconst (v := 1) C (by decide) (dJ9_floorDiv_f86c9_p0 17 rfl) ?_
      refine x_lsub C (dJ9_floorDiv_f86c9_p0 18 rfl) ?_
      exact hret _ _ _ _ (dJ9_floorDiv_f86c9_p0 19 rfl) hp)
def P_X0_addWord (p0 : Nat) (p1 : Int32) (p2 : Int32) (σ : St) (K : St → Prop) : Prop := (6 ≤ (σ.1 p0 0) → (K σ)) ∧ (¬ (6 ≤ (σ.1 p0 0)) → (∀ s1 : St, s1 = wI σ p0 0 ((σ.1 p0 0) + 1) → (vp_in (s1.1 p0 0) 7 ∧ ∀ s3 : St, s3 = wI s1 (p0 + 1) (ix (s1.1 p0 0)) p1 → (vp_in (s3.1 p0 0) 7 ∧ ∀ s5 : St, s5 = wI s3 (p0 + 2) (ix (s3.1 p0 0)) p2 → (K s5)))))
set_option maxHeartbeats 4000000 in
set_option maxRecDepth 100000 in
theorem m_X0_addWord (l : Launch) (ad : Nat → Nat) (D : va_G) (ca : Nat → ClassId) (had : adOk ad) (p0 : Nat) (p1 : Int32) (p2 : Int32) (hp0 : sOk p0) (σ : St) (K : St → Prop) (hp : P_X0_addWord p0 p1 p2 σ K) : CtV l ad D ca yX0_addWord cX0_addWord 3 0 [.ref (ad p0), .int p1, .int p2] σ K := CtV_of (av := fun ad => [.ref (ad p0), .int p1, .int p2]) (by decide +kernel) had (Nat.le_of_ble_eq_true rfl) (fun κ C hret => by
  have C : Ok κ RX0 cX0_addWord 3 0 := C
  show GG κ 0 [(0, .ref (kad κ p0)), (1, .int p1), (2, .int p2)] [] σ
  unfold P_X0_addWord at hp
  refine x_aload_n 0 C rfl (dX0_addWord_p0 0 rfl) ?_
  refine gX0_0 C (s_kd hp0) (s_lt hp0) tw_49 (dX0_addWord_p0 1 rfl) ?_
  refine x_bipush (v := 6) C (by decide) (dX0_addWord_p0 2 rfl) ?_
  refine x_icmp_ge (tgt := 39) C (dX0_addWord_p0 3 rfl) (by decide) (fun hc => ?_) (fun hc => ?_)
  · have hp := hp.1 hc
    exact hret _ _ _ (dX0_addWord_p0 22 rfl) hp
  · have hp := hp.2 hc
    refine x_aload_n 0 C rfl (dX0_addWord_p0 4 rfl) ?_
    refine x_dup C rfl (dX0_addWord_p0 5 rfl) ?_
    refine gX0_0 C (s_kd hp0) (s_lt hp0) tw_49 (dX0_addWord_p0 6 rfl) ?_
    refine x_iconst (v := 1) C (by decide) (dX0_addWord_p0 7 rfl) ?_
    refine x_iadd C (dX0_addWord_p0 8 rfl) ?_
    refine qX0_0 C (s_kd hp0) (s_lt hp0) tw_49 (dX0_addWord_p0 9 rfl) ?_
    refine x_nmS (fun s1 es1 => ?_)
    have hp := hp s1 es1
    refine x_aload_n 0 C rfl (dX0_addWord_p0 10 rfl) ?_
    refine gX0_1 (b := p0 + 1) C (s_kd hp0) (s_lt hp0) (s_m1 hp0) tw_52 (dX0_addWord_p0 11 rfl) ?_
    refine x_aload_n 0 C rfl (dX0_addWord_p0 12 rfl) ?_
    refine gX0_0 C (s_kd hp0) (s_lt hp0) tw_49 (dX0_addWord_p0 13 rfl) ?_
    refine x_iload_n 1 C rfl (dX0_addWord_p0 14 rfl) ?_
    obtain ⟨h2, hp⟩ := hp
    refine x_iast C (s_kd1 hp0) (s_lt1 hp0) (vp_ln (s_ln1 hp0) h2) (dX0_addWord_p0 15 rfl) ?_
    refine x_nmS (fun s3 es3 => ?_)
    have hp := hp s3 es3
    refine x_aload_n 0 C rfl (dX0_addWord_p0 16 rfl) ?_
    refine gX0_2 (b := p0 + 2) C (s_kd hp0) (s_lt hp0) (s_m2 hp0) tw_55 (dX0_addWord_p0 17 rfl) ?_
    refine x_aload_n 0 C rfl (dX0_addWord_p0 18 rfl) ?_
    refine gX0_0 C (s_kd hp0) (s_lt hp0) tw_49 (dX0_addWord_p0 19 rfl) ?_
    refine x_iload_n 2 C rfl (dX0_addWord_p0 20 rfl) ?_
    obtain ⟨h4, hp⟩ := hp
    refine x_iast C (s_kd2 hp0) (s_lt2 hp0) (vp_ln (s_ln2 hp0) h4) (dX0_addWord_p0 21 rfl) ?_
    refine x_nmS (fun s5 es5 => ?_)
    have hp := hp s5 es5
    exact hret _ _ _ (dX0_addWord_p0 22 rfl) hp)
def F_X0_blank_15 (K : St → Prop) (c7 : (Int32 × St) → Prop) (c15 : (Int32 × St) → Prop) (u0 : Nat) (u1 : Int32) (u2 : Int32) (σ : St) : Prop := (7 ≤ u2 → ∀ v2 : Int32, v2 = u1 + 1 → c7 (v2, σ)) ∧ (¬ (7 ≤ u2) → vp_in u1 7 ∧ (vp_in u2 7 ∧ ∀ s5 : St, s5 = wI σ ((u0 + 3) + 1 + ix u1) (ix u2) 0 → vp_in u1 7 ∧ (vp_in u2 7 ∧ ∀ s8 : St, s8 = wI s5 ((u0 + 11) + 1 + ix u1) (ix u2) 0 → ∀ v9 : Int32, v9 = u2 + 1 → c15 (v9, s8))))
set_option maxHeartbeats 4000000 in
set_option maxRecDepth 100000 in
theorem F_X0_blank_15_w {κ : Kap} {K : St → Prop} {c7 : (Int32 × St) → Prop} {c15 : (Int32 × St) → Prop} (C : Ok κ RX0 cX0_blank 3 0) (hret : RetV κ cX0_blank K) (u0 : Nat) (u1 : Int32) (u2 : Int32) (hu0 : sOk u0)   (σ : St) (hc7 : ∀ (u1 : Int32) (σ : St), c7 (u1, σ) → GG κ 7 [(0, .ref (kad κ u0)), (1, .int u1)] [] σ) (hc15 : ∀ (u2 : Int32) (σ : St), c15 (u2, σ) → GG κ 15 [(0, .ref (kad κ u0)), (1, .int u1), (2, .int u2)] [] σ) (hp : F_X0_blank_15 K c7 c15 u0 u1 u2 σ) : GG κ 15 [(0, .ref (kad κ u0)), (1, .int u1), (2, .int u2)] [] σ := by
  unfold F_X0_blank_15 at hp
  refine x_iload_n 2 C rfl (dX0_blank_p0 10 rfl) ?_
  refine x_bipush (v := 7) C (by decide) (dX0_blank_p0 11 rfl) ?_
  refine x_icmp_ge (tgt := 45) C (dX0_blank_p0 12 rfl) (by decide) (fun hc => ?_) (fun hc => ?_)
  · have hp := hp.1 hc
    obtain ⟨v2, ev2⟩ : ∃ z : Int32, z = u1 + 1 := ⟨_, rfl⟩
    have hp := hp v2 ev2
    refine x_iinc (v := v2) (loc' := [(1, .int v2), (0, .ref (kad κ u0)), (2, .int u2)]) 1 C rfl (by rw [ev2]; rfl) (by decide) rfl (dX0_blank_p0 29 rfl) ?_
    refine x_goto (tgt := 7) C (dX0_blank_p0 30 rfl) (by decide) ?_
    refine x_loc (loc' := [(0, .ref (kad κ u0)), (1, .int v2)]) [1, 0] rfl ?_
    exact hc7 v2 σ hp
  · have hp := hp.2 hc
    refine x_aload_n 0 C rfl (dX0_blank_p0 13 rfl) ?_
    refine gX0_3 (b := u0 + 3) C (s_kd hu0) (s_lt hu0) (s_m3 hu0) tw_58 (dX0_blank_p0 14 rfl) ?_
    refine x_iload_n 1 C rfl (dX0_blank_p0 15 rfl) ?_
    obtain ⟨h3, hp⟩ := hp
    refine x_aald (c := 13) (b := (u0 + 3) + 1 + ix u1) C (s_kd3 hu0) (by decide) rfl rfl (s_lt3 hu0) (vp_ln (s_ln3 hu0) h3) (row_mr13 (s_kd3 hu0) (s_lt3 hu0) (vp_ln (s_ln3 hu0) h3)) (dX0_blank_p0 16 rfl) ?_
    refine x_iload_n 2 C rfl (dX0_blank_p0 17 rfl) ?_
    refine x_iconst (v := 0) C (by decide) (dX0_blank_p0 18 rfl) ?_
    obtain ⟨h4, hp⟩ := hp
    refine x_iast C (row_kd13 (s_kd3 hu0) (s_lt3 hu0) (vp_ln (s_ln3 hu0) h3)) (row_lt13 (s_kd3 hu0) (s_lt3 hu0) (vp_ln (s_ln3 hu0) h3)) (vp_ln ((row_ln13 (s_kd3 hu0) (s_lt3 hu0) (vp_ln (s_ln3 hu0) h3)).trans (s_iln3 hu0)) h4) (dX0_blank_p0 19 rfl) ?_
    refine x_nmS (fun s5 es5 => ?_)
    have hp := hp s5 es5
    refine x_aload_n 0 C rfl (dX0_blank_p0 20 rfl) ?_
    refine gX0_4 (b := u0 + 11) C (s_kd hu0) (s_lt hu0) (s_m4 hu0) tw_60 (dX0_blank_p0 21 rfl) ?_
    refine x_iload_n 1 C rfl (dX0_blank_p0 22 rfl) ?_
    obtain ⟨h6, hp⟩ := hp
    refine x_aald (c := 13) (b := (u0 + 11) + 1 + ix u1) C (s_kd4 hu0) (by decide) rfl rfl (s_lt4 hu0) (vp_ln (s_ln4 hu0) h6) (row_mr13 (s_kd4 hu0) (s_lt4 hu0) (vp_ln (s_ln4 hu0) h6)) (dX0_blank_p0 23 rfl) ?_
    refine x_iload_n 2 C rfl (dX0_blank_p0 24 rfl) ?_
    refine x_iconst (v := 0) C (by decide) (dX0_blank_p0 25 rfl) ?_
    obtain ⟨h7, hp⟩ := hp
    refine x_iast C (row_kd13 (s_kd4 hu0) (s_lt4 hu0) (vp_ln (s_ln4 hu0) h6)) (row_lt13 (s_kd4 hu0) (s_lt4 hu0) (vp_ln (s_ln4 hu0) h6)) (vp_ln ((row_ln13 (s_kd4 hu0) (s_lt4 hu0) (vp_ln (s_ln4 hu0) h6)).trans (s_iln4 hu0)) h7) (dX0_blank_p0 26 rfl) ?_
    refine x_nmS (fun s8 es8 => ?_)
    have hp := hp s8 es8
    obtain ⟨v9, ev9⟩ : ∃ z : Int32, z = u2 + 1 := ⟨_, rfl⟩
    have hp := hp v9 ev9
    refine x_iinc (v := v9) (loc' := [(2, .int v9), (0, .ref (kad κ u0)), (1, .int u1)]) 2 C rfl (by rw [ev9]; rfl) (by decide) rfl (dX0_blank_p0 27 rfl) ?_
    refine x_goto (tgt := 15) C (dX0_blank_p0 28 rfl) (by decide) ?_
    refine x_loc (loc' := [(0, .ref (kad κ u0)), (1, .int u1), (2, .int v9)]) [1, 2, 0] rfl ?_
    exact hc15 v9 s8 hp
def F_X0_blank_7 (K : St → Prop) (c7 : (Int32 × St) → Prop) (u0 : Nat) (u1 : Int32) (σ : St) : Prop := (7 ≤ u1 → (K σ)) ∧ (¬ (7 ≤ u1) → (LpE (fun c s => F_X0_blank_15 K c7 c u0 u1 s.1 s.2) (0, σ)))
set_option maxHeartbeats 4000000 in
set_option maxRecDepth 100000 in
theorem F_X0_blank_7_w {κ : Kap} {K : St → Prop} {c7 : (Int32 × St) → Prop} (C : Ok κ RX0 cX0_blank 3 0) (hret : RetV κ cX0_blank K) (u0 : Nat) (u1 : Int32) (hu0 : sOk u0)  (σ : St) (hc7 : ∀ (u1 : Int32) (σ : St), c7 (u1, σ) → GG κ 7 [(0, .ref (kad κ u0)), (1, .int u1)] [] σ) (hp : F_X0_blank_7 K c7 u0 u1 σ) : GG κ 7 [(0, .ref (kad κ u0)), (1, .int u1)] [] σ := by
  unfold F_X0_blank_7 at hp
  refine x_iload_n 1 C rfl (dX0_blank_p0 5 rfl) ?_
  refine x_bipush (v := 7) C (by decide) (dX0_blank_p0 6 rfl) ?_
  refine x_icmp_ge (tgt := 51) C (dX0_blank_p0 7 rfl) (by decide) (fun hc => ?_) (fun hc => ?_)
  · have hp := hp.1 hc
    exact hret _ _ _ (dX0_blank_p0 31 rfl) hp
  · have hp := hp.2 hc
    refine x_iconst (v := 0) C (by decide) (dX0_blank_p0 8 rfl) ?_
    refine x_istore_n (loc' := [(2, .int 0), (0, .ref (kad κ u0)), (1, .int u1)]) C rfl (by decide) rfl (dX0_blank_p0 9 rfl) ?_
    refine x_loc (loc' := [(0, .ref (kad κ u0)), (1, .int u1), (2, .int 0)]) [1, 2, 0] rfl ?_
    exact LpE_GG (S := (Int32 × St)) (F := fun c s => F_X0_blank_15 K c7 c u0 u1 s.1 s.2) (W := fun s => GG κ 15 [(0, .ref (kad κ u0)), (1, .int u1), (2, .int s.1)] [] s.2) (fun c s hcc hp => F_X0_blank_15_w C hret u0 u1 s.1 hu0 s.2 hc7 (fun u2 σ h => hcc (u2, σ) h) hp) hp
def P_X0_blank (p0 : Nat) (σ : St) (K : St → Prop) : Prop := ∀ s1 : St, s1 = wI σ p0 0 0 → (LpE (fun c s => F_X0_blank_7 K  c p0 s.1 s.2) (0, s1))
set_option maxHeartbeats 4000000 in
set_option maxRecDepth 100000 in
theorem m_X0_blank (l : Launch) (ad : Nat → Nat) (D : va_G) (ca : Nat → ClassId) (had : adOk ad) (p0 : Nat) (hp0 : sOk p0) (σ : St) (K : St → Prop) (hp : P_X0_blank p0 σ K) : CtV l ad D ca yX0_blank cX0_blank 3 0 [.ref (ad p0)] σ K := CtV_of (av := fun ad => [.ref (ad p0)]) (by decide +kernel) had (Nat.le_of_ble_eq_true rfl) (fun κ C hret => by
  have C : Ok κ RX0 cX0_blank 3 0 := C
  show GG κ 0 [(0, .ref (kad κ p0))] [] σ
  unfold P_X0_blank at hp
  refine x_aload_n 0 C rfl (dX0_blank_p0 0 rfl) ?_
  refine x_iconst (v := 0) C (by decide) (dX0_blank_p0 1 rfl) ?_
  refine qX0_0 C (s_kd hp0) (s_lt hp0) tw_49 (dX0_blank_p0 2 rfl) ?_
  refine x_nmS (fun s1 es1 => ?_)
  have hp := hp s1 es1
  refine x_iconst (v := 0) C (by decide) (dX0_blank_p0 3 rfl) ?_
  refine x_istore_n (loc' := [(1, .int 0), (0, .ref (kad κ p0))]) C rfl (by decide) rfl (dX0_blank_p0 4 rfl) ?_
  refine x_loc (loc' := [(0, .ref (kad κ p0)), (1, .int 0)]) [1, 0] rfl ?_
  exact LpE_GG (S := (Int32 × St)) (F := fun c s => F_X0_blank_7 K  c p0 s.1 s.2) (W := fun s => GG κ 7 [(0, .ref (kad κ p0)), (1, .int s.1)] [] s.2) (fun c s hcc hp => F_X0_blank_7_w C hret p0 s.1 hp0 s.2  (fun u1 σ h => hcc (u1, σ) h) hp) hp)
def P_X0_hasWord (p0 : Nat) (p1 : Int32) (σ : St) (K : Int32 → St → Prop) : Prop := (p1 < 1 → (K 0 σ)) ∧ (¬ (p1 < 1) → (((σ.1 p0 0) < p1 → (K 0 σ)) ∧ (¬ ((σ.1 p0 0) < p1) → (K 1 σ))))
set_option maxHeartbeats 4000000 in
set_option maxRecDepth 100000 in
theorem m_X0_hasWord (l : Launch) (ad : Nat → Nat) (D : va_G) (ca : Nat → ClassId) (had : adOk ad) (p0 : Nat) (p1 : Int32) (hp0 : sOk p0) (σ : St) (K : Int32 → St → Prop) (hp : P_X0_hasWord p0 p1 σ K) : CtI l ad D ca yX0_hasWord cX0_hasWord 2 .boolean 0 [.ref (ad p0), .int p1] σ K := CtI_of (av := fun ad => [.ref (ad p0), .int p1]) (by decide +kernel) had (Nat.le_of_ble_eq_true rfl) (fun κ C hret => by
  have C : Ok κ RX0 cX0_hasWord 2 0 := C
  show GG κ 0 [(0, .ref (kad κ p0)), (1, .int p1)] [] σ
  unfold P_X0_hasWord at hp
  refine x_iload_n 1 C rfl (dX0_hasWord_p0 0 rfl) ?_
  refine x_iconst (v := 1) C (by decide) (dX0_hasWord_p0 1 rfl) ?_
  refine x_icmp_lt (tgt := 17) C (dX0_hasWord_p0 2 rfl) (by decide) (fun hc => ?_) (fun hc => ?_)
  · have hp := hp.1 hc
    refine x_iconst (v := 0) C (by decide) (dX0_hasWord_p0 9 rfl) ?_
    exact hret _ _ _ _ (dX0_hasWord_p0 10 rfl) (nar_z isB0) hp
  · have hp := hp.2 hc
    refine x_iload_n 1 C rfl (dX0_hasWord_p0 3 rfl) ?_
    refine x_aload_n 0 C rfl (dX0_hasWord_p0 4 rfl) ?_
    refine gX0_0 C (s_kd hp0) (s_lt hp0) tw_49 (dX0_hasWord_p0 5 rfl) ?_
    refine x_icmp_gt (tgt := 17) C (dX0_hasWord_p0 6 rfl) (by decide) (fun hc => ?_) (fun hc => ?_)
    · have hp := hp.1 hc
      refine x_iconst (v := 0) C (by decide) (dX0_hasWord_p0 9 rfl) ?_
      exact hret _ _ _ _ (dX0_hasWord_p0 10 rfl) (nar_z isB0) hp
    · have hp := hp.2 hc
      refine x_iconst (v := 1) C (by decide) (dX0_hasWord_p0 7 rfl) ?_
      refine x_goto (tgt := 18) C (dX0_hasWord_p0 8 rfl) (by decide) ?_
      exact hret _ _ _ _ (dX0_hasWord_p0 10 rfl) (nar_z isB1) hp)
def P_X0_hasArc (p0 : Nat) (p1 : Int32) (p2 : Int32) (σ : St) (K : Int32 → St → Prop) : Prop := P_X0_hasWord p0 p2 σ (fun r2 s1 => (r2 = 0 → (K 0 s1)) ∧ (¬ (r2 = 0) → ((p1 < 0 → (K 0 s1)) ∧ (¬ (p1 < 0) → (((s1.1 p0 0) < p1 → (K 0 s1)) ∧ (¬ ((s1.1 p0 0) < p1) → ((p1 = p2 → (K 0 s1)) ∧ (¬ (p1 = p2) → (K 1 s1)))))))))
set_option maxHeartbeats 4000000 in
set_option maxRecDepth 100000 in
theorem m_X0_hasArc (l : Launch) (ad : Nat → Nat) (D : va_G) (ca : Nat → ClassId) (had : adOk ad) (p0 : Nat) (p1 : Int32) (p2 : Int32) (hp0 : sOk p0) (σ : St) (K : Int32 → St → Prop) (hp : P_X0_hasArc p0 p1 p2 σ K) : CtI l ad D ca yX0_hasArc cX0_hasArc 3 .boolean 1 [.ref (ad p0), .int p1, .int p2] σ K := CtI_of (av := fun ad => [.ref (ad p0), .int p1, .int p2]) (by decide +kernel) had (Nat.le_of_ble_eq_true rfl) (fun κ C hret => by
  have C : Ok κ RX0 cX0_hasArc 3 1 := C
  show GG κ 0 [(0, .ref (kad κ p0)), (1, .int p1), (2, .int p2)] [] σ
  unfold P_X0_hasArc at hp
  refine x_aload_n 0 C rfl (dX0_hasArc_p0 0 rfl) ?_
  refine x_iload_n 2 C rfl (dX0_hasArc_p0 1 rfl) ?_
  refine x_cvI (As := [.int p2]) (st := []) C LRX0_30 (ci := 0) rfl (s_kd hp0) (by decide) (s_lt hp0) (m_X0_hasWord (kL κ) (kad κ) (kD κ) (kca κ) C.ado p0 p2 hp0 σ _ hp) rfl (by decide) rfl (by decide) (dX0_hasArc_p0 2 rfl) (fun r2 s1 hp => ?_)
  refine x_if_eq (tgt := 29) C (dX0_hasArc_p0 3 rfl) (by decide) (fun hc => ?_) (fun hc => ?_)
  · have hp := hp.1 hc
    refine x_iconst (v := 0) C (by decide) (dX0_hasArc_p0 15 rfl) ?_
    exact hret _ _ _ _ (dX0_hasArc_p0 16 rfl) (nar_z isB0) hp
  · have hp := hp.2 hc
    refine x_iload_n 1 C rfl (dX0_hasArc_p0 4 rfl) ?_
    refine x_if_lt (tgt := 29) C (dX0_hasArc_p0 5 rfl) (by decide) (fun hc => ?_) (fun hc => ?_)
    · have hp := hp.1 hc
      refine x_iconst (v := 0) C (by decide) (dX0_hasArc_p0 15 rfl) ?_
      exact hret _ _ _ _ (dX0_hasArc_p0 16 rfl) (nar_z isB0) hp
    · have hp := hp.2 hc
      refine x_iload_n 1 C rfl (dX0_hasArc_p0 6 rfl) ?_
      refine x_aload_n 0 C rfl (dX0_hasArc_p0 7 rfl) ?_
      refine gX0_0 C (s_kd hp0) (s_lt hp0) tw_49 (dX0_hasArc_p0 8 rfl) ?_
      refine x_icmp_gt (tgt := 29) C (dX0_hasArc_p0 9 rfl) (by decide) (fun hc => ?_) (fun hc => ?_)
      · have hp := hp.1 hc
        refine x_iconst (v := 0) C (by decide) (dX0_hasArc_p0 15 rfl) ?_
        exact hret _ _ _ _ (dX0_hasArc_p0 16 rfl) (nar_z isB0) hp
      · have hp := hp.2 hc
        refine x_iload_n 1 C rfl (dX0_hasArc_p0 10 rfl) ?_
        refine x_iload_n 2 C rfl (dX0_hasArc_p0 11 rfl) ?_
        refine x_icmp_eq (tgt := 29) C (dX0_hasArc_p0 12 rfl) (by decide) (fun hc => ?_) (fun hc => ?_)
        · have hp := hp.1 hc
          refine x_iconst (v := 0) C (by decide) (dX0_hasArc_p0 15 rfl) ?_
          exact hret _ _ _ _ (dX0_hasArc_p0 16 rfl) (nar_z isB0) hp
        · have hp := hp.2 hc
          refine x_iconst (v := 1) C (by decide) (dX0_hasArc_p0 13 rfl) ?_
          refine x_goto (tgt := 30) C (dX0_hasArc_p0 14 rfl) (by decide) ?_
          exact hret _ _ _ _ (dX0_hasArc_p0 16 rfl) (nar_z isB1) hp)
def J_X0_headChoices_45 (K : Int32 → St → Prop) (c7 : (Int32 × Int32 × Int32 × St) → Prop) (u0 : Nat) (u1 : Int32) (u2 : Int32) (u3 : Int32) (u4 : Int32) (σ : St) : Prop := (u4 = u1 → ∀ v3 : Int32, v3 = u4 + 1 → c7 (u2, u3, v3, σ)) ∧ (¬ (u4 = u1) → vp_in u4 7 ∧ vp_in u1 7 ∧ (((σ.1 ((u0 + 11) + 1 + ix u4) (ix u1)) = 0 → (∀ v7 : Int32, v7 = (u2 ||| (1 <<< (u4 &&& 31))) → ∀ v8 : Int32, v8 = u4 + 1 → c7 (v7, u3, v8, σ))) ∧ (¬ ((σ.1 ((u0 + 11) + 1 + ix u4) (ix u1)) = 0) → ∀ v6 : Int32, v6 = u4 + 1 → c7 (u2, u3, v6, σ))))
set_option maxHeartbeats 4000000 in
set_option maxRecDepth 100000 in
theorem J_X0_headChoices_45_w {κ : Kap} {K : Int32 → St → Prop} {c7 : (Int32 × Int32 × Int32 × St) → Prop} (C : Ok κ RX0 cX0_headChoices 5 1) (hret : RetI κ cX0_headChoices .int K) (u0 : Nat) (u1 : Int32) (u2 : Int32) (u3 : Int32) (u4 : Int32) (hu0 : sOk u0)     (σ : St) (hc7 : ∀ (u2 : Int32) (u3 : Int32) (u4 : Int32) (σ : St), c7 (u2, u3, u4, σ) → GG κ 7 [(0, .ref (kad κ u0)), (1, .int u1), (2, .int u2), (3, .int u3), (4, .int u4)] [] σ) (hp : J_X0_headChoices_45 K c7 u0 u1 u2 u3 u4 σ) : GG κ 45 [(0, .ref (kad κ u0)), (1, .int u1), (2, .int u2), (3, .int u3), (4, .int u4)] [] σ := by
  unfold J_X0_headChoices_45 at hp
  refine x_iload 4 C rfl (dX0_headChoices_p0 28 rfl) ?_
  refine x_iload_n 1 C rfl (dX0_headChoices_p0 29 rfl) ?_
  refine x_icmp_eq (tgt := 70) C (dX0_headChoices_p0 30 rfl) (by decide) (fun hc => ?_) (fun hc => ?_)
  · have hp := hp.1 hc
    obtain ⟨v3, ev3⟩ : ∃ z : Int32, z = u4 + 1 := ⟨_, rfl⟩
    have hp := hp v3 ev3
    refine x_iinc (v := v3) (loc' := [(4, .int v3), (0, .ref (kad κ u0)), (1, .int u1), (2, .int u2), (3, .int u3)]) 4 C rfl (by rw [ev3]; rfl) (by decide) rfl (dX0_headChoices_p0 44 rfl) ?_
    refine x_goto (tgt := 7) C (dX0_headChoices_p0 45 rfl) (by decide) ?_
    refine x_loc (loc' := [(0, .ref (kad κ u0)), (1, .int u1), (2, .int u2), (3, .int u3), (4, .int v3)]) [1, 2, 3, 4, 0] rfl ?_
    exact hc7 u2 u3 v3 σ hp
  · have hp := hp.2 hc
    refine x_aload_n 0 C rfl (dX0_headChoices_p0 31 rfl) ?_
    refine gX0_4 (b := u0 + 11) C (s_kd hu0) (s_lt hu0) (s_m4 hu0) tw_60 (dX0_headChoices_p0 32 rfl) ?_
    refine x_iload 4 C rfl (dX0_headChoices_p0 33 rfl) ?_
    obtain ⟨h4, hp⟩ := hp
    refine x_aald (c := 13) (b := (u0 + 11) + 1 + ix u4) C (s_kd4 hu0) (by decide) rfl rfl (s_lt4 hu0) (vp_ln (s_ln4 hu0) h4) (row_mr13 (s_kd4 hu0) (s_lt4 hu0) (vp_ln (s_ln4 hu0) h4)) (dX0_headChoices_p0 34 rfl) ?_
    refine x_iload_n 1 C rfl (dX0_headChoices_p0 35 rfl) ?_
    obtain ⟨h5, hp⟩ := hp
    refine x_iald C (row_kd13 (s_kd4 hu0) (s_lt4 hu0) (vp_ln (s_ln4 hu0) h4)) (row_lt13 (s_kd4 hu0) (s_lt4 hu0) (vp_ln (s_ln4 hu0) h4)) (vp_ln ((row_ln13 (s_kd4 hu0) (s_lt4 hu0) (vp_ln (s_ln4 hu0) h4)).trans (s_iln4 hu0)) h5) (dX0_headChoices_p0 36 rfl) ?_
    refine x_if_ne (tgt := 70) C (dX0_headChoices_p0 37 rfl) (by decide) (fun hc => ?_) (fun hc => ?_)
    · have hp := hp.2 hc
      obtain ⟨v6, ev6⟩ : ∃ z : Int32, z = u4 + 1 := ⟨_, rfl⟩
      have hp := hp v6 ev6
      refine x_iinc (v := v6) (loc' := [(4, .int v6), (0, .ref (kad κ u0)), (1, .int u1), (2, .int u2), (3, .int u3)]) 4 C rfl (by rw [ev6]; rfl) (by decide) rfl (dX0_headChoices_p0 44 rfl) ?_
      refine x_goto (tgt := 7) C (dX0_headChoices_p0 45 rfl) (by decide) ?_
      refine x_loc (loc' := [(0, .ref (kad κ u0)), (1, .int u1), (2, .int u2), (3, .int u3), (4, .int v6)]) [1, 2, 3, 4, 0] rfl ?_
      exact hc7 u2 u3 v6 σ hp
    · have hp := hp.1 hc
      refine x_iload_n 2 C rfl (dX0_headChoices_p0 38 rfl) ?_
      refine x_iconst (v := 1) C (by decide) (dX0_headChoices_p0 39 rfl) ?_
      refine x_iload 4 C rfl (dX0_headChoices_p0 40 rfl) ?_
      refine x_ishl C (dX0_headChoices_p0 41 rfl) ?_
      refine x_ior C (dX0_headChoices_p0 42 rfl) ?_
      refine x_topI (fun v7 ev7 => ?_)
      have hp := hp v7 ev7
      refine x_istore_n (loc' := [(2, .int v7), (0, .ref (kad κ u0)), (1, .int u1), (3, .int u3), (4, .int u4)]) C rfl (by decide) rfl (dX0_headChoices_p0 43 rfl) ?_
      obtain ⟨v8, ev8⟩ : ∃ z : Int32, z = u4 + 1 := ⟨_, rfl⟩
      have hp := hp v8 ev8
      refine x_iinc (v := v8) (loc' := [(4, .int v8), (2, .int v7), (0, .ref (kad κ u0)), (1, .int u1), (3, .int u3)]) 4 C rfl (by rw [ev8]; rfl) (by decide) rfl (dX0_headChoices_p0 44 rfl) ?_
      refine x_goto (tgt := 7) C (dX0_headChoices_p0 45 rfl) (by decide) ?_
      refine x_loc (loc' := [(0, .ref (kad κ u0)), (1, .int u1), (2, .int v7), (3, .int u3), (4, .int v8)]) [2, 3, 1, 4, 0] rfl ?_
      exact hc7 v7 u3 v8 σ hp
def F_X0_headChoices_7 (K : Int32 → St → Prop) (c7 : (Int32 × Int32 × Int32 × St) → Prop) (u0 : Nat) (u1 : Int32) (u2 : Int32) (u3 : Int32) (u4 : Int32) (σ : St) : Prop := ((σ.1 u0 0) < u4 → ((u3 = 0 → (K u2 σ)) ∧ (¬ (u3 = 0) → P_J6_bitCount_0f7a4 u3 σ (fun r2 s1 => (r2 = 1 → (K u3 s1)) ∧ (¬ (r2 = 1) → (K 0 s1)))))) ∧ (¬ ((σ.1 u0 0) < u4) → ((u4 = u1 → (J_X0_headChoices_45 K c7 u0 u1 u2 u3 u4 σ)) ∧ (¬ (u4 = u1) → vp_in u4 7 ∧ vp_in u1 7 ∧ (((σ.1 ((u0 + 11) + 1 + ix u4) (ix u1)) = 1 → (∀ v11 : Int32, v11 = (u3 ||| (1 <<< (u4 &&& 31))) → ∀ v12 : Int32, v12 = u4 + 1 → c7 (u2, v11, v12, σ))) ∧ (¬ ((σ.1 ((u0 + 11) + 1 + ix u4) (ix u1)) = 1) → (J_X0_headChoices_45 K c7 u0 u1 u2 u3 u4 σ))))))
set_option maxHeartbeats 4000000 in
set_option maxRecDepth 100000 in
theorem F_X0_headChoices_7_w {κ : Kap} {K : Int32 → St → Prop} {c7 : (Int32 × Int32 × Int32 × St) → Prop} (C : Ok κ RX0 cX0_headChoices 5 1) (hret : RetI κ cX0_headChoices .int K) (u0 : Nat) (u1 : Int32) (u2 : Int32) (u3 : Int32) (u4 : Int32) (hu0 : sOk u0)     (σ : St) (hc7 : ∀ (u2 : Int32) (u3 : Int32) (u4 : Int32) (σ : St), c7 (u2, u3, u4, σ) → GG κ 7 [(0, .ref (kad κ u0)), (1, .int u1), (2, .int u2), (3, .int u3), (4, .int u4)] [] σ) (hp : F_X0_headChoices_7 K c7 u0 u1 u2 u3 u4 σ) : GG κ 7 [(0, .ref (kad κ u0)), (1, .int u1), (2, .int u2), (3, .int u3), (4, .int u4)] [] σ := by
  unfold F_X0_headChoices_7 at hp
  refine x_iload 4 C rfl (dX0_headChoices_p0 6 rfl) ?_
  refine x_aload_n 0 C rfl (dX0_headChoices_p0 7 rfl) ?_
  refine gX0_0 C (s_kd hu0) (s_lt hu0) tw_49 (dX0_headChoices_p0 8 rfl) ?_
  refine x_icmp_gt (tgt := 76) C (dX0_headChoices_p0 9 rfl) (by decide) (fun hc => ?_) (fun hc => ?_)
  · have hp := hp.1 hc
    refine x_iload_n 3 C rfl (dX0_headChoices_p0 46 rfl) ?_
    refine x_if_ne (tgt := 82) C (dX0_headChoices_p0 47 rfl) (by decide) (fun hc => ?_) (fun hc => ?_)
    · have hp := hp.2 hc
      refine x_iload_n 3 C rfl (dX0_headChoices_p0 50 rfl) ?_
      refine x_csI (As := [.int u3]) (st := []) C LRX0_34 (m_J6_bitCount_0f7a4 (kL κ) (kad κ) (kD κ) (kca κ) C.ado u3  σ _ hp) rfl (by decide) rfl (by decide) (dX0_headChoices_p0 51 rfl) (fun r2 s1 hp => ?_)
      refine x_iconst (v := 1) C (by decide) (dX0_headChoices_p0 52 rfl) ?_
      refine x_icmp_ne (tgt := 94) C (dX0_headChoices_p0 53 rfl) (by decide) (fun hc => ?_) (fun hc => ?_)
      · have hp := hp.2 hc
        refine x_iconst (v := 0) C (by decide) (dX0_headChoices_p0 56 rfl) ?_
        exact hret _ _ _ _ (dX0_headChoices_p0 57 rfl) (nar_i _) hp
      · have hp := hp.1 hc
        refine x_iload_n 3 C rfl (dX0_headChoices_p0 54 rfl) ?_
        refine x_goto (tgt := 95) C (dX0_headChoices_p0 55 rfl) (by decide) ?_
        exact hret _ _ _ _ (dX0_headChoices_p0 57 rfl) (nar_i _) hp
    · have hp := hp.1 hc
      refine x_iload_n 2 C rfl (dX0_headChoices_p0 48 rfl) ?_
      exact hret _ _ _ _ (dX0_headChoices_p0 49 rfl) (nar_i _) hp
  · have hp := hp.2 hc
    refine x_iload 4 C rfl (dX0_headChoices_p0 10 rfl) ?_
    refine x_iload_n 1 C rfl (dX0_headChoices_p0 11 rfl) ?_
    refine x_icmp_eq (tgt := 45) C (dX0_headChoices_p0 12 rfl) (by decide) (fun hc => ?_) (fun hc => ?_)
    · have hp := hp.1 hc
      exact J_X0_headChoices_45_w C hret u0 u1 u2 u3 u4 hu0 σ hc7 hp
    · have hp := hp.2 hc
      refine x_aload_n 0 C rfl (dX0_headChoices_p0 13 rfl) ?_
      refine gX0_4 (b := u0 + 11) C (s_kd hu0) (s_lt hu0) (s_m4 hu0) tw_60 (dX0_headChoices_p0 14 rfl) ?_
      refine x_iload 4 C rfl (dX0_headChoices_p0 15 rfl) ?_
      obtain ⟨h9, hp⟩ := hp
      refine x_aald (c := 13) (b := (u0 + 11) + 1 + ix u4) C (s_kd4 hu0) (by decide) rfl rfl (s_lt4 hu0) (vp_ln (s_ln4 hu0) h9) (row_mr13 (s_kd4 hu0) (s_lt4 hu0) (vp_ln (s_ln4 hu0) h9)) (dX0_headChoices_p0 16 rfl) ?_
      refine x_iload_n 1 C rfl (dX0_headChoices_p0 17 rfl) ?_
      obtain ⟨h10, hp⟩ := hp
      refine x_iald C (row_kd13 (s_kd4 hu0) (s_lt4 hu0) (vp_ln (s_ln4 hu0) h9)) (row_lt13 (s_kd4 hu0) (s_lt4 hu0) (vp_ln (s_ln4 hu0) h9)) (vp_ln ((row_ln13 (s_kd4 hu0) (s_lt4 hu0) (vp_ln (s_ln4 hu0) h9)).trans (s_iln4 hu0)) h10) (dX0_headChoices_p0 18 rfl) ?_
      refine x_iconst (v := 1) C (by decide) (dX0_headChoices_p0 19 rfl) ?_
      refine x_icmp_ne (tgt := 45) C (dX0_headChoices_p0 20 rfl) (by decide) (fun hc => ?_) (fun hc => ?_)
      · have hp := hp.2 hc
        exact J_X0_headChoices_45_w C hret u0 u1 u2 u3 u4 hu0 σ hc7 hp
      · have hp := hp.1 hc
        refine x_iload_n 3 C rfl (dX0_headChoices_p0 21 rfl) ?_
        refine x_iconst (v := 1) C (by decide) (dX0_headChoices_p0 22 rfl) ?_
        refine x_iload 4 C rfl (dX0_headChoices_p0 23 rfl) ?_
        refine x_ishl C (dX0_headChoices_p0 24 rfl) ?_
        refine x_ior C (dX0_headChoices_p0 25 rfl) ?_
        refine x_topI (fun v11 ev11 => ?_)
        have hp := hp v11 ev11
        refine x_istore_n (loc' := [(3, .int v11), (0, .ref (kad κ u0)), (1, .int u1), (2, .int u2), (4, .int u4)]) C rfl (by decide) rfl (dX0_headChoices_p0 26 rfl) ?_
        refine x_goto (tgt := 70) C (dX0_headChoices_p0 27 rfl) (by decide) ?_
        obtain ⟨v12, ev12⟩ : ∃ z : Int32, z = u4 + 1 := ⟨_, rfl⟩
        have hp := hp v12 ev12
        refine x_iinc (v := v12) (loc' := [(4, .int v12), (3, .int v11), (0, .ref (kad κ u0)), (1, .int u1), (2, .int u2)]) 4 C rfl (by rw [ev12]; rfl) (by decide) rfl (dX0_headChoices_p0 44 rfl) ?_
        refine x_goto (tgt := 7) C (dX0_headChoices_p0 45 rfl) (by decide) ?_
        refine x_loc (loc' := [(0, .ref (kad κ u0)), (1, .int u1), (2, .int u2), (3, .int v11), (4, .int v12)]) [2, 3, 4, 1, 0] rfl ?_
        exact hc7 u2 v11 v12 σ hp
def P_X0_headChoices (p0 : Nat) (p1 : Int32) (σ : St) (K : Int32 → St → Prop) : Prop := LpE (fun c s => F_X0_headChoices_7 K  c p0 p1 s.1 s.2.1 s.2.2.1 s.2.2.2) (0, 0, 0, σ)
set_option maxHeartbeats 4000000 in
set_option maxRecDepth 100000 in
theorem m_X0_headChoices (l : Launch) (ad : Nat → Nat) (D : va_G) (ca : Nat → ClassId) (had : adOk ad) (p0 : Nat) (p1 : Int32) (hp0 : sOk p0) (σ : St) (K : Int32 → St → Prop) (hp : P_X0_headChoices p0 p1 σ K) : CtI l ad D ca yX0_headChoices cX0_headChoices 5 .int 1 [.ref (ad p0), .int p1] σ K := CtI_of (av := fun ad => [.ref (ad p0), .int p1]) (by decide +kernel) had (Nat.le_of_ble_eq_true rfl) (fun κ C hret => by
  have C : Ok κ RX0 cX0_headChoices 5 1 := C
  show GG κ 0 [(0, .ref (kad κ p0)), (1, .int p1)] [] σ
  unfold P_X0_headChoices at hp
  refine x_iconst (v := 0) C (by decide) (dX0_headChoices_p0 0 rfl) ?_
  refine x_istore_n (loc' := [(2, .int 0), (0, .ref (kad κ p0)), (1, .int p1)]) C rfl (by decide) rfl (dX0_headChoices_p0 1 rfl) ?_
  refine x_iconst (v := 0) C (by decide) (dX0_headChoices_p0 2 rfl) ?_
  refine x_istore_n (loc' := [(3, .int 0), (2, .int 0), (0, .ref (kad κ p0)), (1, .int p1)]) C rfl (by decide) rfl (dX0_headChoices_p0 3 rfl) ?_
  refine x_iconst (v := 0) C (by decide) (dX0_headChoices_p0 4 rfl) ?_
  refine x_istore (loc' := [(4, .int 0), (3, .int 0), (2, .int 0), (0, .ref (kad κ p0)), (1, .int p1)]) C (by decide) rfl (dX0_headChoices_p0 5 rfl) ?_
  refine x_loc (loc' := [(0, .ref (kad κ p0)), (1, .int p1), (2, .int 0), (3, .int 0), (4, .int 0)]) [3, 4, 2, 1, 0] rfl ?_
  exact LpE_GG (S := (Int32 × Int32 × Int32 × St)) (F := fun c s => F_X0_headChoices_7 K  c p0 p1 s.1 s.2.1 s.2.2.1 s.2.2.2) (W := fun s => GG κ 7 [(0, .ref (kad κ p0)), (1, .int p1), (2, .int s.1), (3, .int s.2.1), (4, .int s.2.2.1)] [] s.2.2.2) (fun c s hcc hp => F_X0_headChoices_7_w C hret p0 p1 s.1 s.2.1 s.2.2.1 hp0 s.2.2.2  (fun u2 u3 u4 σ h => hcc (u2, u3, u4, σ) h) hp) hp)
end
