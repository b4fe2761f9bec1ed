-- ===== PART A: goes FIRST, ahead of the names: the tables' words, and 'selects' of the private methods out of them =====
/-- a private method of a class that the tables say can be made, by its rows of tables_1 -/
def lw_okq (q : MethodName × Nat) : Prop := (q.1.cls ≠ "java/lang/invoke/MethodHandle" ∧ q.1.cls ≠ "java/lang/invoke/VarHandle") ∧ Cond.instantiable q.1.cls q.2 ∈ tables_1 ∧ Cond.privateMethod q.1 ∈ tables_1 ∧ Cond.instanceMethod q.1 ∈ tables_1
theorem lw_p0 : lw_okq (⟨"ArcFactoredParser", "find", "(I)LArcFactoredParser$Sentence;"⟩, 10) := ⟨⟨by decide +kernel, by decide +kernel⟩, List.mem_of_getElem? (i := 14) (by decide +kernel), List.mem_of_getElem? (i := 323) (by decide +kernel), List.mem_of_getElem? (i := 324) (by decide +kernel)⟩
theorem lw_p1 : lw_okq (⟨"ArcFactoredParser", "rankTrees", "(LArcFactoredParser$Sentence;I)V"⟩, 10) := ⟨⟨by decide +kernel, by decide +kernel⟩, List.mem_of_getElem? (i := 14) (by decide +kernel), List.mem_of_getElem? (i := 366) (by decide +kernel), List.mem_of_getElem? (i := 367) (by decide +kernel)⟩
theorem lw_p2 : lw_okq (⟨"ArcFactoredParser", "offerArcs", "(LArcFactoredParser$Sentence;Z)V"⟩, 10) := ⟨⟨by decide +kernel, by decide +kernel⟩, List.mem_of_getElem? (i := 14) (by decide +kernel), List.mem_of_getElem? (i := 370) (by decide +kernel), List.mem_of_getElem? (i := 371) (by decide +kernel)⟩
theorem lw_p3 : lw_okq (⟨"ArcFactoredParser", "arcScore", "(LArcFactoredParser$Sentence;II)I"⟩, 10) := ⟨⟨by decide +kernel, by decide +kernel⟩, List.mem_of_getElem? (i := 14) (by decide +kernel), List.mem_of_getElem? (i := 395) (by decide +kernel), List.mem_of_getElem? (i := 396) (by decide +kernel)⟩
theorem lw_p4 : lw_okq (⟨"ArcFactoredParser$TreeSearch", "descend", "(IJZ)V"⟩, 10) := ⟨⟨by decide +kernel, by decide +kernel⟩, List.mem_of_getElem? (i := 115) (by decide +kernel), List.mem_of_getElem? (i := 426) (by decide +kernel), List.mem_of_getElem? (i := 427) (by decide +kernel)⟩
theorem lw_p5 : lw_okq (⟨"ArcFactoredParser$TreeSearch", "keep", "(J)V"⟩, 10) := ⟨⟨by decide +kernel, by decide +kernel⟩, List.mem_of_getElem? (i := 115) (by decide +kernel), List.mem_of_getElem? (i := 430) (by decide +kernel), List.mem_of_getElem? (i := 431) (by decide +kernel)⟩
theorem lw_p6 : lw_okq (⟨"ArcFactoredParser$TreeSearch", "closesCycle", "(II)Z"⟩, 10) := ⟨⟨by decide +kernel, by decide +kernel⟩, List.mem_of_getElem? (i := 115) (by decide +kernel), List.mem_of_getElem? (i := 434) (by decide +kernel), List.mem_of_getElem? (i := 435) (by decide +kernel)⟩
theorem lw_p7 : lw_okq (⟨"ArcFactoredParser$TreeSearch", "crossesEarlier", "(II)Z"⟩, 10) := ⟨⟨by decide +kernel, by decide +kernel⟩, List.mem_of_getElem? (i := 115) (by decide +kernel), List.mem_of_getElem? (i := 438) (by decide +kernel), List.mem_of_getElem? (i := 439) (by decide +kernel)⟩
theorem lw_p8 : lw_okq (⟨"ArcFactoredParser", "countAgreeing", "(LArcFactoredParser$Sentence;)I"⟩, 10) := ⟨⟨by decide +kernel, by decide +kernel⟩, List.mem_of_getElem? (i := 14) (by decide +kernel), List.mem_of_getElem? (i := 445) (by decide +kernel), List.mem_of_getElem? (i := 446) (by decide +kernel)⟩
theorem lw_p9 : lw_okq (⟨"ArcFactoredParser", "annotationScore", "(LArcFactoredParser$Sentence;)I"⟩, 10) := ⟨⟨by decide +kernel, by decide +kernel⟩, List.mem_of_getElem? (i := 14) (by decide +kernel), List.mem_of_getElem? (i := 540) (by decide +kernel), List.mem_of_getElem? (i := 541) (by decide +kernel)⟩
theorem lw_p10 : lw_okq (⟨"ArcFactoredParser", "countTrees", "(LArcFactoredParser$Sentence;)I"⟩, 10) := ⟨⟨by decide +kernel, by decide +kernel⟩, List.mem_of_getElem? (i := 14) (by decide +kernel), List.mem_of_getElem? (i := 552) (by decide +kernel), List.mem_of_getElem? (i := 553) (by decide +kernel)⟩
theorem lw_p11 : lw_okq (⟨"ArcFactoredParser", "setPotentials", "(LArcFactoredParser$Sentence;Z)V"⟩, 10) := ⟨⟨by decide +kernel, by decide +kernel⟩, List.mem_of_getElem? (i := 14) (by decide +kernel), List.mem_of_getElem? (i := 556) (by decide +kernel), List.mem_of_getElem? (i := 557) (by decide +kernel)⟩
theorem lw_p12 : lw_okq (⟨"ArcFactoredParser$TreeSums", "addBranches", "(II)J"⟩, 8) := ⟨⟨by decide +kernel, by decide +kernel⟩, List.mem_of_getElem? (i := 157) (by decide +kernel), List.mem_of_getElem? (i := 583) (by decide +kernel), List.mem_of_getElem? (i := 584) (by decide +kernel)⟩
theorem lw_p13 : lw_okq (⟨"ArcFactoredParser$TreeSums", "mayBranch", "(I)Z"⟩, 8) := ⟨⟨by decide +kernel, by decide +kernel⟩, List.mem_of_getElem? (i := 157) (by decide +kernel), List.mem_of_getElem? (i := 587) (by decide +kernel), List.mem_of_getElem? (i := 588) (by decide +kernel)⟩
theorem lw_p14 : lw_okq (⟨"ArcFactoredParser$TreeSums", "addForests", "(II)J"⟩, 8) := ⟨⟨by decide +kernel, by decide +kernel⟩, List.mem_of_getElem? (i := 157) (by decide +kernel), List.mem_of_getElem? (i := 591) (by decide +kernel), List.mem_of_getElem? (i := 592) (by decide +kernel)⟩
theorem lw_p15 : lw_okq (⟨"ArcFactoredParser", "sumWeights", "(LArcFactoredParser$Sentence;)J"⟩, 10) := ⟨⟨by decide +kernel, by decide +kernel⟩, List.mem_of_getElem? (i := 14) (by decide +kernel), List.mem_of_getElem? (i := 600) (by decide +kernel), List.mem_of_getElem? (i := 601) (by decide +kernel)⟩
def lw_privs_1 : List (MethodName × Nat) := [(⟨"ArcFactoredParser", "find", "(I)LArcFactoredParser$Sentence;"⟩, 10), (⟨"ArcFactoredParser", "rankTrees", "(LArcFactoredParser$Sentence;I)V"⟩, 10), (⟨"ArcFactoredParser", "offerArcs", "(LArcFactoredParser$Sentence;Z)V"⟩, 10), (⟨"ArcFactoredParser", "arcScore", "(LArcFactoredParser$Sentence;II)I"⟩, 10), (⟨"ArcFactoredParser$TreeSearch", "descend", "(IJZ)V"⟩, 10), (⟨"ArcFactoredParser$TreeSearch", "keep", "(J)V"⟩, 10), (⟨"ArcFactoredParser$TreeSearch", "closesCycle", "(II)Z"⟩, 10), (⟨"ArcFactoredParser$TreeSearch", "crossesEarlier", "(II)Z"⟩, 10), (⟨"ArcFactoredParser", "countAgreeing", "(LArcFactoredParser$Sentence;)I"⟩, 10), (⟨"ArcFactoredParser", "annotationScore", "(LArcFactoredParser$Sentence;)I"⟩, 10), (⟨"ArcFactoredParser", "countTrees", "(LArcFactoredParser$Sentence;)I"⟩, 10), (⟨"ArcFactoredParser", "setPotentials", "(LArcFactoredParser$Sentence;Z)V"⟩, 10), (⟨"ArcFactoredParser$TreeSums", "addBranches", "(II)J"⟩, 8), (⟨"ArcFactoredParser$TreeSums", "mayBranch", "(I)Z"⟩, 8), (⟨"ArcFactoredParser$TreeSums", "addForests", "(II)J"⟩, 8), (⟨"ArcFactoredParser", "sumWeights", "(LArcFactoredParser$Sentence;)J"⟩, 10)]
theorem lw_r1 : ∀ q ∈ lw_privs_1, lw_okq q := List.forall_mem_cons.mpr ⟨lw_p0, List.forall_mem_cons.mpr ⟨lw_p1, List.forall_mem_cons.mpr ⟨lw_p2, List.forall_mem_cons.mpr ⟨lw_p3, List.forall_mem_cons.mpr ⟨lw_p4, List.forall_mem_cons.mpr ⟨lw_p5, List.forall_mem_cons.mpr ⟨lw_p6, List.forall_mem_cons.mpr ⟨lw_p7, List.forall_mem_cons.mpr ⟨lw_p8, List.forall_mem_cons.mpr ⟨lw_p9, List.forall_mem_cons.mpr ⟨lw_p10, List.forall_mem_cons.mpr ⟨lw_p11, List.forall_mem_cons.mpr ⟨lw_p12, List.forall_mem_cons.mpr ⟨lw_p13, List.forall_mem_cons.mpr ⟨lw_p14, List.forall_mem_cons.mpr ⟨lw_p15, fun _ h => absurd h List.not_mem_nil⟩⟩⟩⟩⟩⟩⟩⟩⟩⟩⟩⟩⟩⟩⟩⟩
theorem lw_p16 : lw_okq (⟨"ArcFactoredParser$TreeSums", "clearGains", "()V"⟩, 8) := ⟨⟨by decide +kernel, by decide +kernel⟩, List.mem_of_getElem? (i := 157) (by decide +kernel), List.mem_of_getElem? (i := 613) (by decide +kernel), List.mem_of_getElem? (i := 614) (by decide +kernel)⟩
theorem lw_p17 : lw_okq (⟨"ArcFactoredParser$TreeSums", "spreadForest", "(II)V"⟩, 8) := ⟨⟨by decide +kernel, by decide +kernel⟩, List.mem_of_getElem? (i := 157) (by decide +kernel), List.mem_of_getElem? (i := 617) (by decide +kernel), List.mem_of_getElem? (i := 618) (by decide +kernel)⟩
theorem lw_p18 : lw_okq (⟨"ArcFactoredParser$TreeSums", "spreadBranch", "(II)V"⟩, 8) := ⟨⟨by decide +kernel, by decide +kernel⟩, List.mem_of_getElem? (i := 157) (by decide +kernel), List.mem_of_getElem? (i := 621) (by decide +kernel), List.mem_of_getElem? (i := 622) (by decide +kernel)⟩
theorem lw_p19 : lw_okq (⟨"ArcFactoredParser$TransitionRun", "visit", "(II)V"⟩, 12) := ⟨⟨by decide +kernel, by decide +kernel⟩, List.mem_of_getElem? (i := 189) (by decide +kernel), List.mem_of_getElem? (i := 655) (by decide +kernel), List.mem_of_getElem? (i := 656) (by decide +kernel)⟩
theorem lw_p20 : lw_okq (⟨"ArcFactoredParser", "countTransitions", "(LArcFactoredParser$Sentence;)I"⟩, 10) := ⟨⟨by decide +kernel, by decide +kernel⟩, List.mem_of_getElem? (i := 14) (by decide +kernel), List.mem_of_getElem? (i := 663) (by decide +kernel), List.mem_of_getElem? (i := 664) (by decide +kernel)⟩
theorem lw_p21 : lw_okq (⟨"ArcFactoredParser$TransitionRun", "choose", "()I"⟩, 12) := ⟨⟨by decide +kernel, by decide +kernel⟩, List.mem_of_getElem? (i := 189) (by decide +kernel), List.mem_of_getElem? (i := 671) (by decide +kernel), List.mem_of_getElem? (i := 672) (by decide +kernel)⟩
theorem lw_p22 : lw_okq (⟨"ArcFactoredParser$TransitionRun", "isComplete", "(I)Z"⟩, 12) := ⟨⟨by decide +kernel, by decide +kernel⟩, List.mem_of_getElem? (i := 189) (by decide +kernel), List.mem_of_getElem? (i := 675) (by decide +kernel), List.mem_of_getElem? (i := 676) (by decide +kernel)⟩
theorem lw_p23 : lw_okq (⟨"ArcFactoredParser$TransitionRun", "apply", "(I)V"⟩, 12) := ⟨⟨by decide +kernel, by decide +kernel⟩, List.mem_of_getElem? (i := 189) (by decide +kernel), List.mem_of_getElem? (i := 679) (by decide +kernel), List.mem_of_getElem? (i := 680) (by decide +kernel)⟩
theorem lw_p24 : lw_okq (⟨"ArcFactoredParser", "learn", "(LArcFactoredParser$Sentence;)I"⟩, 10) := ⟨⟨by decide +kernel, by decide +kernel⟩, List.mem_of_getElem? (i := 14) (by decide +kernel), List.mem_of_getElem? (i := 691) (by decide +kernel), List.mem_of_getElem? (i := 692) (by decide +kernel)⟩
theorem lw_p25 : lw_okq (⟨"ArcFactoredParser", "mixSentence", "(JLArcFactoredParser$Sentence;)J"⟩, 10) := ⟨⟨by decide +kernel, by decide +kernel⟩, List.mem_of_getElem? (i := 14) (by decide +kernel), List.mem_of_getElem? (i := 734) (by decide +kernel), List.mem_of_getElem? (i := 735) (by decide +kernel)⟩
theorem lw_p26 : lw_okq (⟨"ArcFactoredParserModel", "faultOf", "()I"⟩, 40) := ⟨⟨by decide +kernel, by decide +kernel⟩, List.mem_of_getElem? (i := 743) (by decide +kernel), List.mem_of_getElem? (i := 887) (by decide +kernel), List.mem_of_getElem? (i := 888) (by decide +kernel)⟩
theorem lw_p27 : lw_okq (⟨"ArcFactoredParserModel", "isSentence", "(I)Z"⟩, 40) := ⟨⟨by decide +kernel, by decide +kernel⟩, List.mem_of_getElem? (i := 743) (by decide +kernel), List.mem_of_getElem? (i := 907) (by decide +kernel), List.mem_of_getElem? (i := 908) (by decide +kernel)⟩
theorem lw_p28 : lw_okq (⟨"ArcFactoredParserModel", "isWord", "(II)Z"⟩, 40) := ⟨⟨by decide +kernel, by decide +kernel⟩, List.mem_of_getElem? (i := 743) (by decide +kernel), List.mem_of_getElem? (i := 924) (by decide +kernel), List.mem_of_getElem? (i := 925) (by decide +kernel)⟩
theorem lw_p29 : lw_okq (⟨"ArcFactoredParserModel", "isArc", "(III)Z"⟩, 40) := ⟨⟨by decide +kernel, by decide +kernel⟩, List.mem_of_getElem? (i := 743) (by decide +kernel), List.mem_of_getElem? (i := 936) (by decide +kernel), List.mem_of_getElem? (i := 937) (by decide +kernel)⟩
theorem lw_p30 : lw_okq (⟨"ArcFactoredParserModel", "sets", "(II)I"⟩, 40) := ⟨⟨by decide +kernel, by decide +kernel⟩, List.mem_of_getElem? (i := 743) (by decide +kernel), List.mem_of_getElem? (i := 950) (by decide +kernel), List.mem_of_getElem? (i := 951) (by decide +kernel)⟩
theorem lw_p31 : lw_okq (⟨"ArcFactoredParserModel", "scoreOf", "(III)I"⟩, 40) := ⟨⟨by decide +kernel, by decide +kernel⟩, List.mem_of_getElem? (i := 743) (by decide +kernel), List.mem_of_getElem? (i := 999) (by decide +kernel), List.mem_of_getElem? (i := 1000) (by decide +kernel)⟩
def lw_privs_2 : List (MethodName × Nat) := [(⟨"ArcFactoredParser$TreeSums", "clearGains", "()V"⟩, 8), (⟨"ArcFactoredParser$TreeSums", "spreadForest", "(II)V"⟩, 8), (⟨"ArcFactoredParser$TreeSums", "spreadBranch", "(II)V"⟩, 8), (⟨"ArcFactoredParser$TransitionRun", "visit", "(II)V"⟩, 12), (⟨"ArcFactoredParser", "countTransitions", "(LArcFactoredParser$Sentence;)I"⟩, 10), (⟨"ArcFactoredParser$TransitionRun", "choose", "()I"⟩, 12), (⟨"ArcFactoredParser$TransitionRun", "isComplete", "(I)Z"⟩, 12), (⟨"ArcFactoredParser$TransitionRun", "apply", "(I)V"⟩, 12), (⟨"ArcFactoredParser", "learn", "(LArcFactoredParser$Sentence;)I"⟩, 10), (⟨"ArcFactoredParser", "mixSentence", "(JLArcFactoredParser$Sentence;)J"⟩, 10), (⟨"ArcFactoredParserModel", "faultOf", "()I"⟩, 40), (⟨"ArcFactoredParserModel", "isSentence", "(I)Z"⟩, 40), (⟨"ArcFactoredParserModel", "isWord", "(II)Z"⟩, 40), (⟨"ArcFactoredParserModel", "isArc", "(III)Z"⟩, 40), (⟨"ArcFactoredParserModel", "sets", "(II)I"⟩, 40), (⟨"ArcFactoredParserModel", "scoreOf", "(III)I"⟩, 40)]
theorem lw_r2 : ∀ q ∈ lw_privs_2, lw_okq q := List.forall_mem_cons.mpr ⟨lw_p16, List.forall_mem_cons.mpr ⟨lw_p17, List.forall_mem_cons.mpr ⟨lw_p18, List.forall_mem_cons.mpr ⟨lw_p19, List.forall_mem_cons.mpr ⟨lw_p20, List.forall_mem_cons.mpr ⟨lw_p21, List.forall_mem_cons.mpr ⟨lw_p22, List.forall_mem_cons.mpr ⟨lw_p23, List.forall_mem_cons.mpr ⟨lw_p24, List.forall_mem_cons.mpr ⟨lw_p25, List.forall_mem_cons.mpr ⟨lw_p26, List.forall_mem_cons.mpr ⟨lw_p27, List.forall_mem_cons.mpr ⟨lw_p28, List.forall_mem_cons.mpr ⟨lw_p29, List.forall_mem_cons.mpr ⟨lw_p30, List.forall_mem_cons.mpr ⟨lw_p31, fun _ h => absurd h List.not_mem_nil⟩⟩⟩⟩⟩⟩⟩⟩⟩⟩⟩⟩⟩⟩⟩⟩
theorem lw_p32 : lw_okq (⟨"ArcFactoredParserModel", "tagPlaceOf", "(III)I"⟩, 40) := ⟨⟨by decide +kernel, by decide +kernel⟩, List.mem_of_getElem? (i := 743) (by decide +kernel), List.mem_of_getElem? (i := 1003) (by decide +kernel), List.mem_of_getElem? (i := 1004) (by decide +kernel)⟩
theorem lw_p33 : lw_okq (⟨"ArcFactoredParserModel", "tagOf", "(II)I"⟩, 40) := ⟨⟨by decide +kernel, by decide +kernel⟩, List.mem_of_getElem? (i := 743) (by decide +kernel), List.mem_of_getElem? (i := 1007) (by decide +kernel), List.mem_of_getElem? (i := 1008) (by decide +kernel)⟩
theorem lw_p34 : lw_okq (⟨"ArcFactoredParserModel", "looks", "(I)V"⟩, 40) := ⟨⟨by decide +kernel, by decide +kernel⟩, List.mem_of_getElem? (i := 743) (by decide +kernel), List.mem_of_getElem? (i := 1018) (by decide +kernel), List.mem_of_getElem? (i := 1019) (by decide +kernel)⟩
theorem lw_p35 : lw_okq (⟨"ArcFactoredParserModel", "prepares", "(I)V"⟩, 40) := ⟨⟨by decide +kernel, by decide +kernel⟩, List.mem_of_getElem? (i := 743) (by decide +kernel), List.mem_of_getElem? (i := 1022) (by decide +kernel), List.mem_of_getElem? (i := 1023) (by decide +kernel)⟩
theorem lw_p36 : lw_okq (⟨"ArcFactoredParserModel", "begins", "()V"⟩, 40) := ⟨⟨by decide +kernel, by decide +kernel⟩, List.mem_of_getElem? (i := 743) (by decide +kernel), List.mem_of_getElem? (i := 1028) (by decide +kernel), List.mem_of_getElem? (i := 1029) (by decide +kernel)⟩
theorem lw_p37 : lw_okq (⟨"ArcFactoredParserModel", "isAdmissible", "(I)Z"⟩, 40) := ⟨⟨by decide +kernel, by decide +kernel⟩, List.mem_of_getElem? (i := 743) (by decide +kernel), List.mem_of_getElem? (i := 1032) (by decide +kernel), List.mem_of_getElem? (i := 1033) (by decide +kernel)⟩
theorem lw_p38 : lw_okq (⟨"ArcFactoredParserModel", "meets", "(I)V"⟩, 40) := ⟨⟨by decide +kernel, by decide +kernel⟩, List.mem_of_getElem? (i := 743) (by decide +kernel), List.mem_of_getElem? (i := 1042) (by decide +kernel), List.mem_of_getElem? (i := 1043) (by decide +kernel)⟩
theorem lw_p39 : lw_okq (⟨"ArcFactoredParserModel", "sumOf", "(I)I"⟩, 40) := ⟨⟨by decide +kernel, by decide +kernel⟩, List.mem_of_getElem? (i := 743) (by decide +kernel), List.mem_of_getElem? (i := 1046) (by decide +kernel), List.mem_of_getElem? (i := 1047) (by decide +kernel)⟩
theorem lw_p40 : lw_okq (⟨"ArcFactoredParserModel", "isAnnotation", "(I)Z"⟩, 40) := ⟨⟨by decide +kernel, by decide +kernel⟩, List.mem_of_getElem? (i := 743) (by decide +kernel), List.mem_of_getElem? (i := 1050) (by decide +kernel), List.mem_of_getElem? (i := 1051) (by decide +kernel)⟩
theorem lw_p41 : lw_okq (⟨"ArcFactoredParserModel", "ranks", "(II)V"⟩, 40) := ⟨⟨by decide +kernel, by decide +kernel⟩, List.mem_of_getElem? (i := 743) (by decide +kernel), List.mem_of_getElem? (i := 1054) (by decide +kernel), List.mem_of_getElem? (i := 1055) (by decide +kernel)⟩
theorem lw_p42 : lw_okq (⟨"ArcFactoredParserModel", "steps", "(I)Z"⟩, 40) := ⟨⟨by decide +kernel, by decide +kernel⟩, List.mem_of_getElem? (i := 743) (by decide +kernel), List.mem_of_getElem? (i := 1058) (by decide +kernel), List.mem_of_getElem? (i := 1059) (by decide +kernel)⟩
theorem lw_p43 : lw_okq (⟨"ArcFactoredParserModel", "right", "(I)I"⟩, 40) := ⟨⟨by decide +kernel, by decide +kernel⟩, List.mem_of_getElem? (i := 743) (by decide +kernel), List.mem_of_getElem? (i := 1086) (by decide +kernel), List.mem_of_getElem? (i := 1087) (by decide +kernel)⟩
theorem lw_p44 : lw_okq (⟨"ArcFactoredParserModel", "looksForRisk", "(I)V"⟩, 40) := ⟨⟨by decide +kernel, by decide +kernel⟩, List.mem_of_getElem? (i := 743) (by decide +kernel), List.mem_of_getElem? (i := 1112) (by decide +kernel), List.mem_of_getElem? (i := 1113) (by decide +kernel)⟩
theorem lw_p45 : lw_okq (⟨"ArcFactoredParserModel", "risks", "(I)V"⟩, 40) := ⟨⟨by decide +kernel, by decide +kernel⟩, List.mem_of_getElem? (i := 743) (by decide +kernel), List.mem_of_getElem? (i := 1116) (by decide +kernel), List.mem_of_getElem? (i := 1117) (by decide +kernel)⟩
theorem lw_p46 : lw_okq (⟨"ArcFactoredParserModel", "orders", "(I)V"⟩, 40) := ⟨⟨by decide +kernel, by decide +kernel⟩, List.mem_of_getElem? (i := 743) (by decide +kernel), List.mem_of_getElem? (i := 1132) (by decide +kernel), List.mem_of_getElem? (i := 1133) (by decide +kernel)⟩
theorem lw_p47 : lw_okq (⟨"ArcFactoredParserModel", "placeOf", "(II)I"⟩, 40) := ⟨⟨by decide +kernel, by decide +kernel⟩, List.mem_of_getElem? (i := 743) (by decide +kernel), List.mem_of_getElem? (i := 1136) (by decide +kernel), List.mem_of_getElem? (i := 1137) (by decide +kernel)⟩
def lw_privs_3 : List (MethodName × Nat) := [(⟨"ArcFactoredParserModel", "tagPlaceOf", "(III)I"⟩, 40), (⟨"ArcFactoredParserModel", "tagOf", "(II)I"⟩, 40), (⟨"ArcFactoredParserModel", "looks", "(I)V"⟩, 40), (⟨"ArcFactoredParserModel", "prepares", "(I)V"⟩, 40), (⟨"ArcFactoredParserModel", "begins", "()V"⟩, 40), (⟨"ArcFactoredParserModel", "isAdmissible", "(I)Z"⟩, 40), (⟨"ArcFactoredParserModel", "meets", "(I)V"⟩, 40), (⟨"ArcFactoredParserModel", "sumOf", "(I)I"⟩, 40), (⟨"ArcFactoredParserModel", "isAnnotation", "(I)Z"⟩, 40), (⟨"ArcFactoredParserModel", "ranks", "(II)V"⟩, 40), (⟨"ArcFactoredParserModel", "steps", "(I)Z"⟩, 40), (⟨"ArcFactoredParserModel", "right", "(I)I"⟩, 40), (⟨"ArcFactoredParserModel", "looksForRisk", "(I)V"⟩, 40), (⟨"ArcFactoredParserModel", "risks", "(I)V"⟩, 40), (⟨"ArcFactoredParserModel", "orders", "(I)V"⟩, 40), (⟨"ArcFactoredParserModel", "placeOf", "(II)I"⟩, 40)]
theorem lw_r3 : ∀ q ∈ lw_privs_3, lw_okq q := List.forall_mem_cons.mpr ⟨lw_p32, List.forall_mem_cons.mpr ⟨lw_p33, List.forall_mem_cons.mpr ⟨lw_p34, List.forall_mem_cons.mpr ⟨lw_p35, List.forall_mem_cons.mpr ⟨lw_p36, List.forall_mem_cons.mpr ⟨lw_p37, List.forall_mem_cons.mpr ⟨lw_p38, List.forall_mem_cons.mpr ⟨lw_p39, List.forall_mem_cons.mpr ⟨lw_p40, List.forall_mem_cons.mpr ⟨lw_p41, List.forall_mem_cons.mpr ⟨lw_p42, List.forall_mem_cons.mpr ⟨lw_p43, List.forall_mem_cons.mpr ⟨lw_p44, List.forall_mem_cons.mpr ⟨lw_p45, List.forall_mem_cons.mpr ⟨lw_p46, List.forall_mem_cons.mpr ⟨lw_p47, fun _ h => absurd h List.not_mem_nil⟩⟩⟩⟩⟩⟩⟩⟩⟩⟩⟩⟩⟩⟩⟩⟩
theorem lw_p48 : lw_okq (⟨"ArcFactoredParserModel", "inserts", "(III)V"⟩, 40) := ⟨⟨by decide +kernel, by decide +kernel⟩, List.mem_of_getElem? (i := 743) (by decide +kernel), List.mem_of_getElem? (i := 1140) (by decide +kernel), List.mem_of_getElem? (i := 1141) (by decide +kernel)⟩
theorem lw_p49 : lw_okq (⟨"ArcFactoredParserModel", "moves", "(I)V"⟩, 40) := ⟨⟨by decide +kernel, by decide +kernel⟩, List.mem_of_getElem? (i := 743) (by decide +kernel), List.mem_of_getElem? (i := 1148) (by decide +kernel), List.mem_of_getElem? (i := 1149) (by decide +kernel)⟩
theorem lw_p50 : lw_okq (⟨"ArcFactoredParserModel", "next", "(I)I"⟩, 40) := ⟨⟨by decide +kernel, by decide +kernel⟩, List.mem_of_getElem? (i := 743) (by decide +kernel), List.mem_of_getElem? (i := 1152) (by decide +kernel), List.mem_of_getElem? (i := 1153) (by decide +kernel)⟩
theorem lw_p51 : lw_okq (⟨"ArcFactoredParserModel", "isReady", "(II)Z"⟩, 40) := ⟨⟨by decide +kernel, by decide +kernel⟩, List.mem_of_getElem? (i := 743) (by decide +kernel), List.mem_of_getElem? (i := 1156) (by decide +kernel), List.mem_of_getElem? (i := 1157) (by decide +kernel)⟩
theorem lw_p52 : lw_okq (⟨"ArcFactoredParserModel", "trains", "(I)I"⟩, 40) := ⟨⟨by decide +kernel, by decide +kernel⟩, List.mem_of_getElem? (i := 743) (by decide +kernel), List.mem_of_getElem? (i := 1168) (by decide +kernel), List.mem_of_getElem? (i := 1169) (by decide +kernel)⟩
theorem lw_p53 : lw_okq (⟨"ArcFactoredParserModel", "changes", "(II)V"⟩, 40) := ⟨⟨by decide +kernel, by decide +kernel⟩, List.mem_of_getElem? (i := 743) (by decide +kernel), List.mem_of_getElem? (i := 1172) (by decide +kernel), List.mem_of_getElem? (i := 1173) (by decide +kernel)⟩
theorem lw_p54 : lw_okq (⟨"ArcFactoredParserModel", "used", "()I"⟩, 40) := ⟨⟨by decide +kernel, by decide +kernel⟩, List.mem_of_getElem? (i := 743) (by decide +kernel), List.mem_of_getElem? (i := 1184) (by decide +kernel), List.mem_of_getElem? (i := 1185) (by decide +kernel)⟩
def lw_privs_4 : List (MethodName × Nat) := [(⟨"ArcFactoredParserModel", "inserts", "(III)V"⟩, 40), (⟨"ArcFactoredParserModel", "moves", "(I)V"⟩, 40), (⟨"ArcFactoredParserModel", "next", "(I)I"⟩, 40), (⟨"ArcFactoredParserModel", "isReady", "(II)Z"⟩, 40), (⟨"ArcFactoredParserModel", "trains", "(I)I"⟩, 40), (⟨"ArcFactoredParserModel", "changes", "(II)V"⟩, 40), (⟨"ArcFactoredParserModel", "used", "()I"⟩, 40)]
theorem lw_r4 : ∀ q ∈ lw_privs_4, lw_okq q := List.forall_mem_cons.mpr ⟨lw_p48, List.forall_mem_cons.mpr ⟨lw_p49, List.forall_mem_cons.mpr ⟨lw_p50, List.forall_mem_cons.mpr ⟨lw_p51, List.forall_mem_cons.mpr ⟨lw_p52, List.forall_mem_cons.mpr ⟨lw_p53, List.forall_mem_cons.mpr ⟨lw_p54, fun _ h => absurd h List.not_mem_nil⟩⟩⟩⟩⟩⟩⟩
def lw_privs : List (MethodName × Nat) := lw_privs_1 ++ (lw_privs_2 ++ (lw_privs_3 ++ (lw_privs_4)))
def lw_tbl : List Cond := k2_sels lw_privs ++ tables_1
theorem lw_privs_ok : ∀ q ∈ lw_privs, lw_okq q := by
  show ∀ q ∈ lw_privs_1 ++ (lw_privs_2 ++ (lw_privs_3 ++ (lw_privs_4))), lw_okq q
  exact List.forall_mem_append.mpr ⟨lw_r1, List.forall_mem_append.mpr ⟨lw_r2, List.forall_mem_append.mpr ⟨lw_r3, lw_r4⟩⟩⟩

def RX0 : String := "ArcFactoredParser$Sentence"
def TX0 : u_T := fun k => match k with
  | 0 => ("ArcFactoredParser$Sentence", "size", "I", false)
  | 1 => ("ArcFactoredParser$Sentence", "tags", "[I", true)
  | 2 => ("ArcFactoredParser$Sentence", "heads", "[I", true)
  | 3 => ("ArcFactoredParser$Sentence", "biases", "[[I", true)
  | _ => ("ArcFactoredParser$Sentence", "constraints", "[[I", true)
def tyX0 : Nat → FieldType := fun k => match k with
  | 0 => .int
  | 1 => .array .int
  | 2 => .array .int
  | 3 => .array (.array .int)
  | _ => .array (.array .int)
abbrev wsX00 : List Cond := u_ws RX0 TX0 5
theorem nmX0 : ∀ a, a < 5 → ∀ b, b < 5 → a ≠ b → (TX0 a).2.1 ≠ (TX0 b).2.1 := by decide +kernel
theorem tyX0_ok : ∀ k, k < 5 → parseFieldDescriptor (TX0 k).2.2.1 = some (tyX0 k) := by decide +kernel
abbrev cX0_init : ByteArray := prog_2_method_1_code
def yX0_init : MethodName := ⟨RX0, "<init>", "()V"⟩
abbrev cX0_blank : ByteArray := prog_2_method_2_code
def yX0_blank : MethodName := ⟨RX0, "blank", "()V"⟩
abbrev cX0_addWord : ByteArray := prog_2_method_3_code
def yX0_addWord : MethodName := ⟨RX0, "addWord", "(II)V"⟩
abbrev cX0_hasWord : ByteArray := prog_2_method_4_code
def yX0_hasWord : MethodName := ⟨RX0, "hasWord", "(I)Z"⟩
abbrev cX0_hasArc : ByteArray := prog_2_method_5_code
def yX0_hasArc : MethodName := ⟨RX0, "hasArc", "(II)Z"⟩
abbrev cX0_headChoices : ByteArray := prog_2_method_6_code
def yX0_headChoices : MethodName := ⟨RX0, "headChoices", "(I)I"⟩
def RX1 : String := "ArcFactoredParser$Settings"
def TX1 : u_T := fun k => match k with
  | 0 => ("ArcFactoredParser$Settings", "singleRoot", "Z", false)
  | 1 => ("ArcFactoredParser$Settings", "projective", "Z", false)
  | _ => ("ArcFactoredParser$Settings", "shift", "I", false)
def tyX1 : Nat → FieldType := fun k => match k with
  | 0 => .boolean
  | 1 => .boolean
  | _ => .int
abbrev wsX10 : List Cond := u_ws RX1 TX1 3
theorem nmX1 : ∀ a, a < 3 → ∀ b, b < 3 → a ≠ b → (TX1 a).2.1 ≠ (TX1 b).2.1 := by decide +kernel
theorem tyX1_ok : ∀ k, k < 3 → parseFieldDescriptor (TX1 k).2.2.1 = some (tyX1 k) := by decide +kernel
abbrev cX1_init : ByteArray := prog_3_method_1_code
def yX1_init : MethodName := ⟨RX1, "<init>", "()V"⟩
def RX2 : String := "ArcFactoredParser$Text"
def TX2 : u_T := fun k => match k with
  | 0 => ("ArcFactoredParser$Text", "letters", "[I", true)
  | 1 => ("ArcFactoredParser$Text", "length", "I", false)
  | _ => ("ArcFactoredParser$Text", "heads", "[I", true)
def tyX2 : Nat → FieldType := fun k => match k with
  | 0 => .array .int
  | 1 => .int
  | _ => .array .int
abbrev wsX20 : List Cond := u_ws RX2 TX2 3
theorem nmX2 : ∀ a, a < 3 → ∀ b, b < 3 → a ≠ b → (TX2 a).2.1 ≠ (TX2 b).2.1 := by decide +kernel
theorem tyX2_ok : ∀ k, k < 3 → parseFieldDescriptor (TX2 k).2.2.1 = some (tyX2 k) := by decide +kernel
abbrev cX2_init : ByteArray := prog_4_method_1_code
def yX2_init : MethodName := ⟨RX2, "<init>", "()V"⟩
abbrev cX2_add : ByteArray := prog_4_method_2_code
def yX2_add : MethodName := ⟨RX2, "add", "(I)Z"⟩
abbrev cX2_findFault : ByteArray := prog_4_method_3_code
def yX2_findFault : MethodName := ⟨RX2, "findFault", "()I"⟩
abbrev cX2_isHeadOf : ByteArray := prog_4_method_4_code
def yX2_isHeadOf : MethodName := ⟨RX2, "isHeadOf", "(II)Z"⟩
abbrev cX2_isDigit : ByteArray := prog_4_method_5_code
def yX2_isDigit : MethodName := ⟨RX2, "isDigit", "(I)Z"⟩
abbrev cX2_isTagLetter : ByteArray := prog_4_method_6_code
def yX2_isTagLetter : MethodName := ⟨RX2, "isTagLetter", "(I)Z"⟩
abbrev cX2_countSentences : ByteArray := prog_4_method_7_code
def yX2_countSentences : MethodName := ⟨RX2, "countSentences", "()I"⟩
def RX3 : String := "ArcFactoredParser$TransitionRun"
def TX3 : u_T := fun k => match k with
  | 0 => ("ArcFactoredParser$TransitionRun", "size", "I", false)
  | 1 => ("ArcFactoredParser$TransitionRun", "heads", "[I", true)
  | 2 => ("ArcFactoredParser$TransitionRun", "order", "[I", true)
  | 3 => ("ArcFactoredParser$TransitionRun", "ordered", "I", false)
  | 4 => ("ArcFactoredParser$TransitionRun", "places", "[I", true)
  | 5 => ("ArcFactoredParser$TransitionRun", "sequence", "[I", true)
  | 6 => ("ArcFactoredParser$TransitionRun", "length", "I", false)
  | 7 => ("ArcFactoredParser$TransitionRun", "stack", "[I", true)
  | 8 => ("ArcFactoredParser$TransitionRun", "stacked", "I", false)
  | 9 => ("ArcFactoredParser$TransitionRun", "buffer", "[I", true)
  | 10 => ("ArcFactoredParser$TransitionRun", "waiting", "I", false)
  | _ => ("ArcFactoredParser$TransitionRun", "attached", "[Z", true)
def tyX3 : Nat → FieldType := fun k => match k with
  | 0 => .int
  | 1 => .array .int
  | 2 => .array .int
  | 3 => .int
  | 4 => .array .int
  | 5 => .array .int
  | 6 => .int
  | 7 => .array .int
  | 8 => .int
  | 9 => .array .int
  | 10 => .int
  | _ => .array .boolean
abbrev wsX30 : List Cond := u_ws RX3 TX3 12
theorem nmX3 : ∀ a, a < 12 → ∀ b, b < 12 → a ≠ b → (TX3 a).2.1 ≠ (TX3 b).2.1 := by decide +kernel
theorem tyX3_ok : ∀ k, k < 12 → parseFieldDescriptor (TX3 k).2.2.1 = some (tyX3 k) := by decide +kernel
abbrev cX3_init : ByteArray := prog_5_method_1_code
def yX3_init : MethodName := ⟨RX3, "<init>", "()V"⟩
abbrev cX3_arrange : ByteArray := prog_5_method_2_code
def yX3_arrange : MethodName := ⟨RX3, "arrange", "(LArcFactoredParser$Sentence;)V"⟩
abbrev cX3_visit : ByteArray := prog_5_method_3_code
def yX3_visit : MethodName := ⟨RX3, "visit", "(II)V"⟩
abbrev cX3_perform : ByteArray := prog_5_method_4_code
def yX3_perform : MethodName := ⟨RX3, "perform", "()V"⟩
abbrev cX3_choose : ByteArray := prog_5_method_5_code
def yX3_choose : MethodName := ⟨RX3, "choose", "()I"⟩
abbrev cX3_isComplete : ByteArray := prog_5_method_6_code
def yX3_isComplete : MethodName := ⟨RX3, "isComplete", "(I)Z"⟩
abbrev cX3_apply : ByteArray := prog_5_method_7_code
def yX3_apply : MethodName := ⟨RX3, "apply", "(I)V"⟩
def RX4 : String := "ArcFactoredParser$TreeSearch"
def TX4 : u_T := fun k => match k with
  | 0 => ("ArcFactoredParser$TreeSearch", "settings", "LArcFactoredParser$Settings;", true)
  | 1 => ("ArcFactoredParser$TreeSearch", "size", "I", false)
  | 2 => ("ArcFactoredParser$TreeSearch", "values", "[[J", true)
  | 3 => ("ArcFactoredParser$TreeSearch", "offered", "[[I", true)
  | 4 => ("ArcFactoredParser$TreeSearch", "offers", "[I", true)
  | 5 => ("ArcFactoredParser$TreeSearch", "rest", "[J", true)
  | 6 => ("ArcFactoredParser$TreeSearch", "heads", "[I", true)
  | 7 => ("ArcFactoredParser$TreeSearch", "kept", "[J", true)
  | 8 => ("ArcFactoredParser$TreeSearch", "wanted", "I", false)
  | _ => ("ArcFactoredParser$TreeSearch", "found", "I", false)
def tyX4 : Nat → FieldType := fun k => match k with
  | 0 => .object "ArcFactoredParser$Settings"
  | 1 => .int
  | 2 => .array (.array .long)
  | 3 => .array (.array .int)
  | 4 => .array .int
  | 5 => .array .long
  | 6 => .array .int
  | 7 => .array .long
  | 8 => .int
  | _ => .int
abbrev wsX40 : List Cond := u_ws RX4 TX4 10
theorem nmX4 : ∀ a, a < 10 → ∀ b, b < 10 → a ≠ b → (TX4 a).2.1 ≠ (TX4 b).2.1 := by decide +kernel
theorem tyX4_ok : ∀ k, k < 10 → parseFieldDescriptor (TX4 k).2.2.1 = some (tyX4 k) := by decide +kernel
abbrev cX4_init : ByteArray := prog_6_method_1_code
def yX4_init : MethodName := ⟨RX4, "<init>", "(LArcFactoredParser$Settings;)V"⟩
abbrev cX4_begin : ByteArray := prog_6_method_2_code
def yX4_begin : MethodName := ⟨RX4, "begin", "(I)V"⟩
abbrev cX4_offer : ByteArray := prog_6_method_3_code
def yX4_offer : MethodName := ⟨RX4, "offer", "(IIJ)V"⟩
abbrev cX4_keepOnly : ByteArray := prog_6_method_4_code
def yX4_keepOnly : MethodName := ⟨RX4, "keepOnly", "(II)V"⟩
abbrev cX4_seek : ByteArray := prog_6_method_5_code
def yX4_seek : MethodName := ⟨RX4, "seek", "(I)V"⟩
abbrev cX4_descend : ByteArray := prog_6_method_6_code
def yX4_descend : MethodName := ⟨RX4, "descend", "(IJZ)V"⟩
abbrev cX4_closesCycle : ByteArray := prog_6_method_7_code
def yX4_closesCycle : MethodName := ⟨RX4, "closesCycle", "(II)Z"⟩
abbrev cX4_crossesEarlier : ByteArray := prog_6_method_8_code
def yX4_crossesEarlier : MethodName := ⟨RX4, "crossesEarlier", "(II)Z"⟩
abbrev cX4_keep : ByteArray := prog_6_method_9_code
def yX4_keep : MethodName := ⟨RX4, "keep", "(J)V"⟩
abbrev cX4_scoreAt : ByteArray := prog_6_method_10_code
def yX4_scoreAt : MethodName := ⟨RX4, "scoreAt", "(I)I"⟩
abbrev cX4_headAt : ByteArray := prog_6_method_11_code
def yX4_headAt : MethodName := ⟨RX4, "headAt", "(II)I"⟩
def RX5 : String := "ArcFactoredParser$TreeSums"
def TX5 : u_T := fun k => match k with
  | 0 => ("ArcFactoredParser$TreeSums", "settings", "LArcFactoredParser$Settings;", true)
  | 1 => ("ArcFactoredParser$TreeSums", "size", "I", false)
  | 2 => ("ArcFactoredParser$TreeSums", "potentials", "[[J", true)
  | 3 => ("ArcFactoredParser$TreeSums", "branches", "[[J", true)
  | 4 => ("ArcFactoredParser$TreeSums", "forests", "[[J", true)
  | 5 => ("ArcFactoredParser$TreeSums", "branchGains", "[[J", true)
  | 6 => ("ArcFactoredParser$TreeSums", "forestGains", "[[J", true)
  | _ => ("ArcFactoredParser$TreeSums", "arcGains", "[[J", true)
def tyX5 : Nat → FieldType := fun k => match k with
  | 0 => .object "ArcFactoredParser$Settings"
  | 1 => .int
  | 2 => .array (.array .long)
  | 3 => .array (.array .long)
  | 4 => .array (.array .long)
  | 5 => .array (.array .long)
  | 6 => .array (.array .long)
  | _ => .array (.array .long)
abbrev wsX50 : List Cond := u_ws RX5 TX5 8
theorem nmX5 : ∀ a, a < 8 → ∀ b, b < 8 → a ≠ b → (TX5 a).2.1 ≠ (TX5 b).2.1 := by decide +kernel
theorem tyX5_ok : ∀ k, k < 8 → parseFieldDescriptor (TX5 k).2.2.1 = some (tyX5 k) := by decide +kernel
abbrev cX5_init : ByteArray := prog_7_method_1_code
def yX5_init : MethodName := ⟨RX5, "<init>", "(LArcFactoredParser$Settings;)V"⟩
abbrev cX5_begin : ByteArray := prog_7_method_2_code
def yX5_begin : MethodName := ⟨RX5, "begin", "(I)V"⟩
abbrev cX5_setPotential : ByteArray := prog_7_method_3_code
def yX5_setPotential : MethodName := ⟨RX5, "setPotential", "(III)V"⟩
abbrev cX5_addUp : ByteArray := prog_7_method_4_code
def yX5_addUp : MethodName := ⟨RX5, "addUp", "()J"⟩
abbrev cX5_addBranches : ByteArray := prog_7_method_5_code
def yX5_addBranches : MethodName := ⟨RX5, "addBranches", "(II)J"⟩
abbrev cX5_addForests : ByteArray := prog_7_method_6_code
def yX5_addForests : MethodName := ⟨RX5, "addForests", "(II)J"⟩
abbrev cX5_spread : ByteArray := prog_7_method_7_code
def yX5_spread : MethodName := ⟨RX5, "spread", "()V"⟩
abbrev cX5_clearGains : ByteArray := prog_7_method_8_code
def yX5_clearGains : MethodName := ⟨RX5, "clearGains", "()V"⟩
abbrev cX5_spreadForest : ByteArray := prog_7_method_9_code
def yX5_spreadForest : MethodName := ⟨RX5, "spreadForest", "(II)V"⟩
abbrev cX5_spreadBranch : ByteArray := prog_7_method_10_code
def yX5_spreadBranch : MethodName := ⟨RX5, "spreadBranch", "(II)V"⟩
abbrev cX5_arcSum : ByteArray := prog_7_method_11_code
def yX5_arcSum : MethodName := ⟨RX5, "arcSum", "(II)J"⟩
abbrev cX5_mayBranch : ByteArray := prog_7_method_12_code
def yX5_mayBranch : MethodName := ⟨RX5, "mayBranch", "(I)Z"⟩
abbrev cX5_bit : ByteArray := prog_7_method_13_code
def yX5_bit : MethodName := ⟨RX5, "bit", "(I)I"⟩
abbrev cX5_hasNode : ByteArray := prog_7_method_14_code
def yX5_hasNode : MethodName := ⟨RX5, "hasNode", "(II)Z"⟩
def RX6 : String := "ArcFactoredParser$Weights"
def TX6 : u_T := fun k => match k with
  | 0 => ("ArcFactoredParser$Weights", "byTags", "[[I", true)
  | _ => ("ArcFactoredParser$Weights", "byDistance", "[[I", true)
def tyX6 : Nat → FieldType := fun k => match k with
  | 0 => .array (.array .int)
  | _ => .array (.array .int)
abbrev wsX60 : List Cond := u_ws RX6 TX6 2
theorem nmX6 : ∀ a, a < 2 → ∀ b, b < 2 → a ≠ b → (TX6 a).2.1 ≠ (TX6 b).2.1 := by decide +kernel
theorem tyX6_ok : ∀ k, k < 2 → parseFieldDescriptor (TX6 k).2.2.1 = some (tyX6 k) := by decide +kernel
abbrev cX6_init : ByteArray := prog_8_method_1_code
def yX6_init : MethodName := ⟨RX6, "<init>", "()V"⟩
abbrev cX6_ofArc : ByteArray := prog_8_method_2_code
def yX6_ofArc : MethodName := ⟨RX6, "ofArc", "(LArcFactoredParser$Sentence;II)I"⟩
abbrev cX6_nudge : ByteArray := prog_8_method_3_code
def yX6_nudge : MethodName := ⟨RX6, "nudge", "(LArcFactoredParser$Sentence;III)V"⟩
abbrev cX6_direction : ByteArray := prog_8_method_4_code
def yX6_direction : MethodName := ⟨RX6, "direction", "(II)I"⟩
abbrev cX6_clamp : ByteArray := prog_8_method_5_code
def yX6_clamp : MethodName := ⟨RX6, "clamp", "(I)I"⟩
abbrev cX6_copyFrom : ByteArray := prog_8_method_6_code
def yX6_copyFrom : MethodName := ⟨RX6, "copyFrom", "(LArcFactoredParser$Weights;)V"⟩
abbrev cX6_countNonZero : ByteArray := prog_8_method_7_code
def yX6_countNonZero : MethodName := ⟨RX6, "countNonZero", "()I"⟩
abbrev cX6_mixInto : ByteArray := prog_8_method_8_code
def yX6_mixInto : MethodName := ⟨RX6, "mixInto", "(J)J"⟩
def RX7 : String := "ArcFactoredParser"
def TX7 : u_T := fun k => match k with
  | 0 => ("ArcFactoredParser", "text", "LArcFactoredParser$Text;", true)
  | 1 => ("ArcFactoredParser", "stored", "[LArcFactoredParser$Sentence;", true)
  | 2 => ("ArcFactoredParser", "storedCount", "I", false)
  | 3 => ("ArcFactoredParser", "weights", "LArcFactoredParser$Weights;", true)
  | 4 => ("ArcFactoredParser", "slots", "[LArcFactoredParser$Weights;", true)
  | 5 => ("ArcFactoredParser", "slotUsed", "[Z", true)
  | 6 => ("ArcFactoredParser", "settings", "LArcFactoredParser$Settings;", true)
  | 7 => ("ArcFactoredParser", "search", "LArcFactoredParser$TreeSearch;", true)
  | 8 => ("ArcFactoredParser", "sums", "LArcFactoredParser$TreeSums;", true)
  | _ => ("ArcFactoredParser", "transitionRun", "LArcFactoredParser$TransitionRun;", true)
def tyX7 : Nat → FieldType := fun k => match k with
  | 0 => .object "ArcFactoredParser$Text"
  | 1 => .array (.object "ArcFactoredParser$Sentence")
  | 2 => .int
  | 3 => .object "ArcFactoredParser$Weights"
  | 4 => .array (.object "ArcFactoredParser$Weights")
  | 5 => .array .boolean
  | 6 => .object "ArcFactoredParser$Settings"
  | 7 => .object "ArcFactoredParser$TreeSearch"
  | 8 => .object "ArcFactoredParser$TreeSums"
  | _ => .object "ArcFactoredParser$TransitionRun"
abbrev wsX70 : List Cond := u_ws RX7 TX7 10
theorem nmX7 : ∀ a, a < 10 → ∀ b, b < 10 → a ≠ b → (TX7 a).2.1 ≠ (TX7 b).2.1 := by decide +kernel
theorem tyX7_ok : ∀ k, k < 10 → parseFieldDescriptor (TX7 k).2.2.1 = some (tyX7 k) := by decide +kernel
abbrev cX7_init : ByteArray := prog_1_method_1_code
def yX7_init : MethodName := ⟨RX7, "<init>", "()V"⟩
abbrev cX7_append : ByteArray := prog_1_method_2_code
def yX7_append : MethodName := ⟨RX7, "append", "(I)I"⟩
abbrev cX7_clearText : ByteArray := prog_1_method_3_code
def yX7_clearText : MethodName := ⟨RX7, "clearText", "()I"⟩
abbrev cX7_faultPosition : ByteArray := prog_1_method_4_code
def yX7_faultPosition : MethodName := ⟨RX7, "faultPosition", "()I"⟩
abbrev cX7_read : ByteArray := prog_1_method_5_code
def yX7_read : MethodName := ⟨RX7, "read", "()I"⟩
abbrev cX7_remove : ByteArray := prog_1_method_6_code
def yX7_remove : MethodName := ⟨RX7, "remove", "(I)I"⟩
abbrev cX7_sentences : ByteArray := prog_1_method_7_code
def yX7_sentences : MethodName := ⟨RX7, "sentences", "()I"⟩
abbrev cX7_words : ByteArray := prog_1_method_8_code
def yX7_words : MethodName := ⟨RX7, "words", "(I)I"⟩
abbrev cX7_tag : ByteArray := prog_1_method_9_code
def yX7_tag : MethodName := ⟨RX7, "tag", "(II)I"⟩
abbrev cX7_annotatedHead : ByteArray := prog_1_method_10_code
def yX7_annotatedHead : MethodName := ⟨RX7, "annotatedHead", "(II)I"⟩
abbrev cX7_annotate : ByteArray := prog_1_method_11_code
def yX7_annotate : MethodName := ⟨RX7, "annotate", "(III)I"⟩
abbrev cX7_acceptBest : ByteArray := prog_1_method_12_code
def yX7_acceptBest : MethodName := ⟨RX7, "acceptBest", "(I)I"⟩
abbrev cX7_setTagWeight : ByteArray := prog_1_method_13_code
def yX7_setTagWeight : MethodName := ⟨RX7, "setTagWeight", "(III)I"⟩
abbrev cX7_setDistanceWeight : ByteArray := prog_1_method_14_code
def yX7_setDistanceWeight : MethodName := ⟨RX7, "setDistanceWeight", "(III)I"⟩
abbrev cX7_setBias : ByteArray := prog_1_method_15_code
def yX7_setBias : MethodName := ⟨RX7, "setBias", "(IIII)I"⟩
abbrev cX7_constrain : ByteArray := prog_1_method_16_code
def yX7_constrain : MethodName := ⟨RX7, "constrain", "(IIII)I"⟩
abbrev cX7_setSingleRoot : ByteArray := prog_1_method_17_code
def yX7_setSingleRoot : MethodName := ⟨RX7, "setSingleRoot", "(Z)I"⟩
abbrev cX7_setProjective : ByteArray := prog_1_method_18_code
def yX7_setProjective : MethodName := ⟨RX7, "setProjective", "(Z)I"⟩
abbrev cX7_setShift : ByteArray := prog_1_method_19_code
def yX7_setShift : MethodName := ⟨RX7, "setShift", "(I)I"⟩
abbrev cX7_tagWeight : ByteArray := prog_1_method_20_code
def yX7_tagWeight : MethodName := ⟨RX7, "tagWeight", "(II)I"⟩
abbrev cX7_distanceWeight : ByteArray := prog_1_method_21_code
def yX7_distanceWeight : MethodName := ⟨RX7, "distanceWeight", "(II)I"⟩
abbrev cX7_score : ByteArray := prog_1_method_22_code
def yX7_score : MethodName := ⟨RX7, "score", "(III)I"⟩
abbrev cX7_bestScore : ByteArray := prog_1_method_23_code
def yX7_bestScore : MethodName := ⟨RX7, "bestScore", "(I)I"⟩
abbrev cX7_bestHead : ByteArray := prog_1_method_24_code
def yX7_bestHead : MethodName := ⟨RX7, "bestHead", "(II)I"⟩
abbrev cX7_rankedScore : ByteArray := prog_1_method_25_code
def yX7_rankedScore : MethodName := ⟨RX7, "rankedScore", "(II)I"⟩
abbrev cX7_rankedHead : ByteArray := prog_1_method_26_code
def yX7_rankedHead : MethodName := ⟨RX7, "rankedHead", "(III)I"⟩
abbrev cX7_regret : ByteArray := prog_1_method_27_code
def yX7_regret : MethodName := ⟨RX7, "regret", "(III)I"⟩
abbrev cX7_margin : ByteArray := prog_1_method_28_code
def yX7_margin : MethodName := ⟨RX7, "margin", "(I)I"⟩
abbrev cX7_correct : ByteArray := prog_1_method_29_code
def yX7_correct : MethodName := ⟨RX7, "correct", "(I)I"⟩
abbrev cX7_treeCount : ByteArray := prog_1_method_30_code
def yX7_treeCount : MethodName := ⟨RX7, "treeCount", "(I)I"⟩
abbrev cX7_weightSum : ByteArray := prog_1_method_31_code
def yX7_weightSum : MethodName := ⟨RX7, "weightSum", "(I)J"⟩
abbrev cX7_chance : ByteArray := prog_1_method_32_code
def yX7_chance : MethodName := ⟨RX7, "chance", "(IIIZ)J"⟩
abbrev cX7_riskHead : ByteArray := prog_1_method_33_code
def yX7_riskHead : MethodName := ⟨RX7, "riskHead", "(II)I"⟩
abbrev cX7_crossings : ByteArray := prog_1_method_34_code
def yX7_crossings : MethodName := ⟨RX7, "crossings", "(I)I"⟩
abbrev cX7_depth : ByteArray := prog_1_method_35_code
def yX7_depth : MethodName := ⟨RX7, "depth", "(II)I"⟩
abbrev cX7_projectiveOrder : ByteArray := prog_1_method_36_code
def yX7_projectiveOrder : MethodName := ⟨RX7, "projectiveOrder", "(II)I"⟩
abbrev cX7_transitions : ByteArray := prog_1_method_37_code
def yX7_transitions : MethodName := ⟨RX7, "transitions", "(I)I"⟩
abbrev cX7_transition : ByteArray := prog_1_method_38_code
def yX7_transition : MethodName := ⟨RX7, "transition", "(II)I"⟩
abbrev cX7_train : ByteArray := prog_1_method_39_code
def yX7_train : MethodName := ⟨RX7, "train", "(I)I"⟩
abbrev cX7_trainAll : ByteArray := prog_1_method_40_code
def yX7_trainAll : MethodName := ⟨RX7, "trainAll", "(I)I"⟩
abbrev cX7_save : ByteArray := prog_1_method_41_code
def yX7_save : MethodName := ⟨RX7, "save", "(I)I"⟩
abbrev cX7_restore : ByteArray := prog_1_method_42_code
def yX7_restore : MethodName := ⟨RX7, "restore", "(I)I"⟩
abbrev cX7_checksum : ByteArray := prog_1_method_43_code
def yX7_checksum : MethodName := ⟨RX7, "checksum", "()J"⟩
abbrev cX7_find : ByteArray := prog_1_method_44_code
def yX7_find : MethodName := ⟨RX7, "find", "(I)LArcFactoredParser$Sentence;"⟩
abbrev cX7_isWithin : ByteArray := prog_1_method_45_code
def yX7_isWithin : MethodName := ⟨RX7, "isWithin", "(II)Z"⟩
abbrev cX7_isTagPair : ByteArray := prog_1_method_46_code
def yX7_isTagPair : MethodName := ⟨RX7, "isTagPair", "(II)Z"⟩
abbrev cX7_isDistance : ByteArray := prog_1_method_47_code
def yX7_isDistance : MethodName := ⟨RX7, "isDistance", "(II)Z"⟩
abbrev cX7_arcScore : ByteArray := prog_1_method_48_code
def yX7_arcScore : MethodName := ⟨RX7, "arcScore", "(LArcFactoredParser$Sentence;II)I"⟩
abbrev cX7_annotationScore : ByteArray := prog_1_method_49_code
def yX7_annotationScore : MethodName := ⟨RX7, "annotationScore", "(LArcFactoredParser$Sentence;)I"⟩
abbrev cX7_rankTrees : ByteArray := prog_1_method_50_code
def yX7_rankTrees : MethodName := ⟨RX7, "rankTrees", "(LArcFactoredParser$Sentence;I)V"⟩
abbrev cX7_offerArcs : ByteArray := prog_1_method_51_code
def yX7_offerArcs : MethodName := ⟨RX7, "offerArcs", "(LArcFactoredParser$Sentence;Z)V"⟩
abbrev cX7_countAgreeing : ByteArray := prog_1_method_52_code
def yX7_countAgreeing : MethodName := ⟨RX7, "countAgreeing", "(LArcFactoredParser$Sentence;)I"⟩
abbrev cX7_countTrees : ByteArray := prog_1_method_53_code
def yX7_countTrees : MethodName := ⟨RX7, "countTrees", "(LArcFactoredParser$Sentence;)I"⟩
abbrev cX7_sumWeights : ByteArray := prog_1_method_54_code
def yX7_sumWeights : MethodName := ⟨RX7, "sumWeights", "(LArcFactoredParser$Sentence;)J"⟩
abbrev cX7_setPotentials : ByteArray := prog_1_method_55_code
def yX7_setPotentials : MethodName := ⟨RX7, "setPotentials", "(LArcFactoredParser$Sentence;Z)V"⟩
abbrev cX7_limitPotential : ByteArray := prog_1_method_56_code
def yX7_limitPotential : MethodName := ⟨RX7, "limitPotential", "(I)I"⟩
abbrev cX7_greatestCommonDivisor : ByteArray := prog_1_method_57_code
def yX7_greatestCommonDivisor : MethodName := ⟨RX7, "greatestCommonDivisor", "(JJ)J"⟩
abbrev cX7_countCrossings : ByteArray := prog_1_method_58_code
def yX7_countCrossings : MethodName := ⟨RX7, "countCrossings", "(LArcFactoredParser$Sentence;)I"⟩
abbrev cX7_countTransitions : ByteArray := prog_1_method_59_code
def yX7_countTransitions : MethodName := ⟨RX7, "countTransitions", "(LArcFactoredParser$Sentence;)I"⟩
abbrev cX7_learn : ByteArray := prog_1_method_60_code
def yX7_learn : MethodName := ⟨RX7, "learn", "(LArcFactoredParser$Sentence;)I"⟩
abbrev cX7_mix : ByteArray := prog_1_method_61_code
def yX7_mix : MethodName := ⟨RX7, "mix", "(JJ)J"⟩
abbrev cX7_mixSentence : ByteArray := prog_1_method_62_code
def yX7_mixSentence : MethodName := ⟨RX7, "mixSentence", "(JLArcFactoredParser$Sentence;)J"⟩
abbrev cX7_holds : ByteArray := prog_1_method_63_code
def yX7_holds : MethodName := ⟨RX7, "holds", "(II)Z"⟩
abbrev cX7_cross : ByteArray := prog_1_method_64_code
def yX7_cross : MethodName := ⟨RX7, "cross", "(IIII)Z"⟩
abbrev cX7_countStepsToRoot : ByteArray := prog_1_method_65_code
def yX7_countStepsToRoot : MethodName := ⟨RX7, "countStepsToRoot", "([III)I"⟩
abbrev cX7_formTree : ByteArray := prog_1_method_66_code
def yX7_formTree : MethodName := ⟨RX7, "formTree", "([II)Z"⟩
def RX8 : String := "ArcFactoredParserModel"
def TX8 : u_T := fun k => match k with
  | 0 => ("ArcFactoredParserModel", "text", "[I", true)
  | 1 => ("ArcFactoredParserModel", "length", "I", false)
  | 2 => ("ArcFactoredParserModel", "many", "I", false)
  | 3 => ("ArcFactoredParserModel", "words", "[I", true)
  | 4 => ("ArcFactoredParserModel", "tags", "[I", true)
  | 5 => ("ArcFactoredParserModel", "heads", "[I", true)
  | 6 => ("ArcFactoredParserModel", "biases", "[I", true)
  | 7 => ("ArcFactoredParserModel", "constraints", "[I", true)
  | 8 => ("ArcFactoredParserModel", "weights", "[I", true)
  | 9 => ("ArcFactoredParserModel", "kept", "[I", true)
  | 10 => ("ArcFactoredParserModel", "isKept", "[Z", true)
  | 11 => ("ArcFactoredParserModel", "isSingle", "Z", false)
  | 12 => ("ArcFactoredParserModel", "isProjective", "Z", false)
  | 13 => ("ArcFactoredParserModel", "shift", "I", false)
  | 14 => ("ArcFactoredParserModel", "told", "I", false)
  | 15 => ("ArcFactoredParserModel", "toldWords", "[I", true)
  | 16 => ("ArcFactoredParserModel", "begins", "[I", true)
  | 17 => ("ArcFactoredParserModel", "row", "[I", true)
  | 18 => ("ArcFactoredParserModel", "scores", "[I", true)
  | 19 => ("ArcFactoredParserModel", "potentials", "[I", true)
  | 20 => ("ArcFactoredParserModel", "tried", "[I", true)
  | 21 => ("ArcFactoredParserModel", "ranked", "I", false)
  | 22 => ("ArcFactoredParserModel", "rankScores", "[I", true)
  | 23 => ("ArcFactoredParserModel", "rankHeads", "[I", true)
  | 24 => ("ArcFactoredParserModel", "count", "I", false)
  | 25 => ("ArcFactoredParserModel", "weightAll", "J", false)
  | 26 => ("ArcFactoredParserModel", "arcBest", "[I", true)
  | 27 => ("ArcFactoredParserModel", "arcWeight", "[J", true)
  | 28 => ("ArcFactoredParserModel", "bestOther", "I", false)
  | 29 => ("ArcFactoredParserModel", "risk", "J", false)
  | 30 => ("ArcFactoredParserModel", "riskHeads", "[I", true)
  | 31 => ("ArcFactoredParserModel", "order", "[I", true)
  | 32 => ("ArcFactoredParserModel", "places", "[I", true)
  | 33 => ("ArcFactoredParserModel", "moves", "I", false)
  | 34 => ("ArcFactoredParserModel", "moved", "[I", true)
  | 35 => ("ArcFactoredParserModel", "stack", "[I", true)
  | 36 => ("ArcFactoredParserModel", "height", "I", false)
  | 37 => ("ArcFactoredParserModel", "buffer", "[I", true)
  | 38 => ("ArcFactoredParserModel", "left", "I", false)
  | _ => ("ArcFactoredParserModel", "attached", "I", false)
def tyX8 : Nat → FieldType := fun k => match k with
  | 0 => .array .int
  | 1 => .int
  | 2 => .int
  | 3 => .array .int
  | 4 => .array .int
  | 5 => .array .int
  | 6 => .array .int
  | 7 => .array .int
  | 8 => .array .int
  | 9 => .array .int
  | 10 => .array .boolean
  | 11 => .boolean
  | 12 => .boolean
  | 13 => .int
  | 14 => .int
  | 15 => .array .int
  | 16 => .array .int
  | 17 => .array .int
  | 18 => .array .int
  | 19 => .array .int
  | 20 => .array .int
  | 21 => .int
  | 22 => .array .int
  | 23 => .array .int
  | 24 => .int
  | 25 => .long
  | 26 => .array .int
  | 27 => .array .long
  | 28 => .int
  | 29 => .long
  | 30 => .array .int
  | 31 => .array .int
  | 32 => .array .int
  | 33 => .int
  | 34 => .array .int
  | 35 => .array .int
  | 36 => .int
  | 37 => .array .int
  | 38 => .int
  | _ => .int
abbrev wsX80 : List Cond := u_ws RX8 TX8 40
theorem nmX8 : ∀ a, a < 40 → ∀ b, b < 40 → a ≠ b → (TX8 a).2.1 ≠ (TX8 b).2.1 := by decide +kernel
theorem tyX8_ok : ∀ k, k < 40 → parseFieldDescriptor (TX8 k).2.2.1 = some (tyX8 k) := by decide +kernel
abbrev cX8_init : ByteArray := prog_10_method_1_code
def yX8_init : MethodName := ⟨RX8, "<init>", "()V"⟩
abbrev cX8_in : ByteArray := prog_10_method_3_code
def yX8_in : MethodName := ⟨RX8, "in", "(III)Z"⟩
abbrev cX8_isSentence : ByteArray := prog_10_method_4_code
def yX8_isSentence : MethodName := ⟨RX8, "isSentence", "(I)Z"⟩
abbrev cX8_isWord : ByteArray := prog_10_method_5_code
def yX8_isWord : MethodName := ⟨RX8, "isWord", "(II)Z"⟩
abbrev cX8_isArc : ByteArray := prog_10_method_6_code
def yX8_isArc : MethodName := ⟨RX8, "isArc", "(III)Z"⟩
abbrev cX8_word : ByteArray := prog_10_method_7_code
def yX8_word : MethodName := ⟨RX8, "word", "(II)I"⟩
abbrev cX8_arc : ByteArray := prog_10_method_8_code
def yX8_arc : MethodName := ⟨RX8, "arc", "(III)I"⟩
abbrev cX8_append : ByteArray := prog_10_method_9_code
def yX8_append : MethodName := ⟨RX8, "append", "(I)I"⟩
abbrev cX8_clearText : ByteArray := prog_10_method_10_code
def yX8_clearText : MethodName := ⟨RX8, "clearText", "()I"⟩
abbrev cX8_isTree : ByteArray := prog_10_method_11_code
def yX8_isTree : MethodName := ⟨RX8, "isTree", "([III)Z"⟩
abbrev cX8_faultOf : ByteArray := prog_10_method_12_code
def yX8_faultOf : MethodName := ⟨RX8, "faultOf", "()I"⟩
abbrev cX8_faultPosition : ByteArray := prog_10_method_13_code
def yX8_faultPosition : MethodName := ⟨RX8, "faultPosition", "()I"⟩
abbrev cX8_read : ByteArray := prog_10_method_14_code
def yX8_read : MethodName := ⟨RX8, "read", "()I"⟩
abbrev cX8_remove : ByteArray := prog_10_method_15_code
def yX8_remove : MethodName := ⟨RX8, "remove", "(I)I"⟩
abbrev cX8_sentences : ByteArray := prog_10_method_16_code
def yX8_sentences : MethodName := ⟨RX8, "sentences", "()I"⟩
abbrev cX8_words : ByteArray := prog_10_method_17_code
def yX8_words : MethodName := ⟨RX8, "words", "(I)I"⟩
abbrev cX8_tag : ByteArray := prog_10_method_18_code
def yX8_tag : MethodName := ⟨RX8, "tag", "(II)I"⟩
abbrev cX8_annotatedHead : ByteArray := prog_10_method_19_code
def yX8_annotatedHead : MethodName := ⟨RX8, "annotatedHead", "(II)I"⟩
abbrev cX8_annotate : ByteArray := prog_10_method_20_code
def yX8_annotate : MethodName := ⟨RX8, "annotate", "(III)I"⟩
abbrev cX8_tagPlace : ByteArray := prog_10_method_21_code
def yX8_tagPlace : MethodName := ⟨RX8, "tagPlace", "(II)I"⟩
abbrev cX8_distancePlace : ByteArray := prog_10_method_22_code
def yX8_distancePlace : MethodName := ⟨RX8, "distancePlace", "(II)I"⟩
abbrev cX8_areTags : ByteArray := prog_10_method_23_code
def yX8_areTags : MethodName := ⟨RX8, "areTags", "(II)Z"⟩
abbrev cX8_isDistance : ByteArray := prog_10_method_24_code
def yX8_isDistance : MethodName := ⟨RX8, "isDistance", "(II)Z"⟩
abbrev cX8_sets : ByteArray := prog_10_method_25_code
def yX8_sets : MethodName := ⟨RX8, "sets", "(II)I"⟩
abbrev cX8_setTagWeight : ByteArray := prog_10_method_26_code
def yX8_setTagWeight : MethodName := ⟨RX8, "setTagWeight", "(III)I"⟩
abbrev cX8_setDistanceWeight : ByteArray := prog_10_method_27_code
def yX8_setDistanceWeight : MethodName := ⟨RX8, "setDistanceWeight", "(III)I"⟩
abbrev cX8_tagWeight : ByteArray := prog_10_method_28_code
def yX8_tagWeight : MethodName := ⟨RX8, "tagWeight", "(II)I"⟩
abbrev cX8_distanceWeight : ByteArray := prog_10_method_29_code
def yX8_distanceWeight : MethodName := ⟨RX8, "distanceWeight", "(II)I"⟩
abbrev cX8_setBias : ByteArray := prog_10_method_30_code
def yX8_setBias : MethodName := ⟨RX8, "setBias", "(IIII)I"⟩
abbrev cX8_constrain : ByteArray := prog_10_method_31_code
def yX8_constrain : MethodName := ⟨RX8, "constrain", "(IIII)I"⟩
abbrev cX8_setSingleRoot : ByteArray := prog_10_method_32_code
def yX8_setSingleRoot : MethodName := ⟨RX8, "setSingleRoot", "(Z)I"⟩
abbrev cX8_setProjective : ByteArray := prog_10_method_33_code
def yX8_setProjective : MethodName := ⟨RX8, "setProjective", "(Z)I"⟩
abbrev cX8_setShift : ByteArray := prog_10_method_34_code
def yX8_setShift : MethodName := ⟨RX8, "setShift", "(I)I"⟩
abbrev cX8_tagOf : ByteArray := prog_10_method_35_code
def yX8_tagOf : MethodName := ⟨RX8, "tagOf", "(II)I"⟩
abbrev cX8_tagPlaceOf : ByteArray := prog_10_method_36_code
def yX8_tagPlaceOf : MethodName := ⟨RX8, "tagPlaceOf", "(III)I"⟩
abbrev cX8_distancePlaceOf : ByteArray := prog_10_method_37_code
def yX8_distancePlaceOf : MethodName := ⟨RX8, "distancePlaceOf", "(II)I"⟩
abbrev cX8_scoreOf : ByteArray := prog_10_method_38_code
def yX8_scoreOf : MethodName := ⟨RX8, "scoreOf", "(III)I"⟩
abbrev cX8_score : ByteArray := prog_10_method_39_code
def yX8_score : MethodName := ⟨RX8, "score", "(III)I"⟩
abbrev cX8_prepares : ByteArray := prog_10_method_40_code
def yX8_prepares : MethodName := ⟨RX8, "prepares", "(I)V"⟩
abbrev cX8_crosses : ByteArray := prog_10_method_41_code
def yX8_crosses : MethodName := ⟨RX8, "crosses", "(IIII)Z"⟩
abbrev cX8_crossed : ByteArray := prog_10_method_42_code
def yX8_crossed : MethodName := ⟨RX8, "crossed", "([III)I"⟩
abbrev cX8_isAdmissible : ByteArray := prog_10_method_43_code
def yX8_isAdmissible : MethodName := ⟨RX8, "isAdmissible", "(I)Z"⟩
abbrev cX8_sumOf : ByteArray := prog_10_method_44_code
def yX8_sumOf : MethodName := ⟨RX8, "sumOf", "(I)I"⟩
abbrev cX8_ranks : ByteArray := prog_10_method_45_code
def yX8_ranks : MethodName := ⟨RX8, "ranks", "(II)V"⟩
abbrev cX8_isAnnotation : ByteArray := prog_10_method_46_code
def yX8_isAnnotation : MethodName := ⟨RX8, "isAnnotation", "(I)Z"⟩
abbrev cX8_meets : ByteArray := prog_10_method_47_code
def yX8_meets : MethodName := ⟨RX8, "meets", "(I)V"⟩
abbrev cX8_risks : ByteArray := prog_10_method_48_code
def yX8_risks : MethodName := ⟨RX8, "risks", "(I)V"⟩
abbrev cX8_steps : ByteArray := prog_10_method_49_code
def yX8_steps : MethodName := ⟨RX8, "steps", "(I)Z"⟩
abbrev cX8_begins : ByteArray := prog_10_method_50_code
def yX8_begins : MethodName := ⟨RX8, "begins", "()V"⟩
abbrev cX8_looks : ByteArray := prog_10_method_51_code
def yX8_looks : MethodName := ⟨RX8, "looks", "(I)V"⟩
abbrev cX8_looksForRisk : ByteArray := prog_10_method_52_code
def yX8_looksForRisk : MethodName := ⟨RX8, "looksForRisk", "(I)V"⟩
abbrev cX8_bestScore : ByteArray := prog_10_method_53_code
def yX8_bestScore : MethodName := ⟨RX8, "bestScore", "(I)I"⟩
abbrev cX8_bestHead : ByteArray := prog_10_method_54_code
def yX8_bestHead : MethodName := ⟨RX8, "bestHead", "(II)I"⟩
abbrev cX8_rankedScore : ByteArray := prog_10_method_55_code
def yX8_rankedScore : MethodName := ⟨RX8, "rankedScore", "(II)I"⟩
abbrev cX8_rankedHead : ByteArray := prog_10_method_56_code
def yX8_rankedHead : MethodName := ⟨RX8, "rankedHead", "(III)I"⟩
abbrev cX8_regret : ByteArray := prog_10_method_57_code
def yX8_regret : MethodName := ⟨RX8, "regret", "(III)I"⟩
abbrev cX8_margin : ByteArray := prog_10_method_58_code
def yX8_margin : MethodName := ⟨RX8, "margin", "(I)I"⟩
abbrev cX8_right : ByteArray := prog_10_method_59_code
def yX8_right : MethodName := ⟨RX8, "right", "(I)I"⟩
abbrev cX8_correct : ByteArray := prog_10_method_60_code
def yX8_correct : MethodName := ⟨RX8, "correct", "(I)I"⟩
abbrev cX8_treeCount : ByteArray := prog_10_method_61_code
def yX8_treeCount : MethodName := ⟨RX8, "treeCount", "(I)I"⟩
abbrev cX8_acceptBest : ByteArray := prog_10_method_62_code
def yX8_acceptBest : MethodName := ⟨RX8, "acceptBest", "(I)I"⟩
abbrev cX8_weightSum : ByteArray := prog_10_method_63_code
def yX8_weightSum : MethodName := ⟨RX8, "weightSum", "(I)J"⟩
abbrev cX8_chance : ByteArray := prog_10_method_64_code
def yX8_chance : MethodName := ⟨RX8, "chance", "(IIIZ)J"⟩
abbrev cX8_riskHead : ByteArray := prog_10_method_65_code
def yX8_riskHead : MethodName := ⟨RX8, "riskHead", "(II)I"⟩
abbrev cX8_crossings : ByteArray := prog_10_method_66_code
def yX8_crossings : MethodName := ⟨RX8, "crossings", "(I)I"⟩
abbrev cX8_depth : ByteArray := prog_10_method_67_code
def yX8_depth : MethodName := ⟨RX8, "depth", "(II)I"⟩
abbrev cX8_inserts : ByteArray := prog_10_method_68_code
def yX8_inserts : MethodName := ⟨RX8, "inserts", "(III)V"⟩
abbrev cX8_placeOf : ByteArray := prog_10_method_69_code
def yX8_placeOf : MethodName := ⟨RX8, "placeOf", "(II)I"⟩
abbrev cX8_orders : ByteArray := prog_10_method_70_code
def yX8_orders : MethodName := ⟨RX8, "orders", "(I)V"⟩
abbrev cX8_projectiveOrder : ByteArray := prog_10_method_71_code
def yX8_projectiveOrder : MethodName := ⟨RX8, "projectiveOrder", "(II)I"⟩
abbrev cX8_isReady : ByteArray := prog_10_method_72_code
def yX8_isReady : MethodName := ⟨RX8, "isReady", "(II)Z"⟩
abbrev cX8_next : ByteArray := prog_10_method_73_code
def yX8_next : MethodName := ⟨RX8, "next", "(I)I"⟩
abbrev cX8_moves : ByteArray := prog_10_method_74_code
def yX8_moves : MethodName := ⟨RX8, "moves", "(I)V"⟩
abbrev cX8_transitions : ByteArray := prog_10_method_75_code
def yX8_transitions : MethodName := ⟨RX8, "transitions", "(I)I"⟩
abbrev cX8_transition : ByteArray := prog_10_method_76_code
def yX8_transition : MethodName := ⟨RX8, "transition", "(II)I"⟩
abbrev cX8_changes : ByteArray := prog_10_method_77_code
def yX8_changes : MethodName := ⟨RX8, "changes", "(II)V"⟩
abbrev cX8_trains : ByteArray := prog_10_method_78_code
def yX8_trains : MethodName := ⟨RX8, "trains", "(I)I"⟩
abbrev cX8_train : ByteArray := prog_10_method_79_code
def yX8_train : MethodName := ⟨RX8, "train", "(I)I"⟩
abbrev cX8_trainAll : ByteArray := prog_10_method_80_code
def yX8_trainAll : MethodName := ⟨RX8, "trainAll", "(I)I"⟩
abbrev cX8_used : ByteArray := prog_10_method_81_code
def yX8_used : MethodName := ⟨RX8, "used", "()I"⟩
abbrev cX8_save : ByteArray := prog_10_method_82_code
def yX8_save : MethodName := ⟨RX8, "save", "(I)I"⟩
abbrev cX8_restore : ByteArray := prog_10_method_83_code
def yX8_restore : MethodName := ⟨RX8, "restore", "(I)I"⟩
abbrev cX8_checksum : ByteArray := prog_10_method_84_code
def yX8_checksum : MethodName := ⟨RX8, "checksum", "()J"⟩
def RJ6 : String := "java/lang/Integer"
def TJ6 : u_T := fun k => match k with
  | _ => ("", "", "", false)
def tyJ6 : Nat → FieldType := fun k => match k with
  | _ => .int
abbrev wsJ60 : List Cond := u_ws RJ6 TJ6 0
theorem nmJ6 : ∀ a, a < 0 → ∀ b, b < 0 → a ≠ b → (TJ6 a).2.1 ≠ (TJ6 b).2.1 := by decide +kernel
theorem tyJ6_ok : ∀ k, k < 0 → parseFieldDescriptor (TJ6 k).2.2.1 = some (tyJ6 k) := by decide +kernel
abbrev cJ6_bitCount_0f7a4 : ByteArray := prog_11_method_49_code
def yJ6_bitCount_0f7a4 : MethodName := ⟨RJ6, "bitCount", "(I)I"⟩
def RJ9 : String := "java/lang/Math"
def TJ9 : u_T := fun k => match k with
  | _ => ("", "", "", false)
def tyJ9 : Nat → FieldType := fun k => match k with
  | _ => .int
abbrev wsJ90 : List Cond := u_ws RJ9 TJ9 0
theorem nmJ9 : ∀ a, a < 0 → ∀ b, b < 0 → a ≠ b → (TJ9 a).2.1 ≠ (TJ9 b).2.1 := by decide +kernel
theorem tyJ9_ok : ∀ k, k < 0 → parseFieldDescriptor (TJ9 k).2.2.1 = some (tyJ9 k) := by decide +kernel
abbrev cJ9_floorDiv_f86c9 : ByteArray := prog_12_method_49_code
def yJ9_floorDiv_f86c9 : MethodName := ⟨RJ9, "floorDiv", "(JJ)J"⟩
abbrev cJ9_floorMod_f86c9 : ByteArray := prog_12_method_52_code
def yJ9_floorMod_f86c9 : MethodName := ⟨RJ9, "floorMod", "(JJ)J"⟩
abbrev cJ9_abs_0f7a4 : ByteArray := prog_12_method_59_code
def yJ9_abs_0f7a4 : MethodName := ⟨RJ9, "abs", "(I)I"⟩
abbrev cJ9_max_7cf53 : ByteArray := prog_12_method_65_code
def yJ9_max_7cf53 : MethodName := ⟨RJ9, "max", "(II)I"⟩
abbrev cJ9_min_7cf53 : ByteArray := prog_12_method_69_code
def yJ9_min_7cf53 : MethodName := ⟨RJ9, "min", "(II)I"⟩
def RJ10 : String := "java/lang/System"
def TJ10 : u_T := fun k => match k with
  | _ => ("", "", "", false)
def tyJ10 : Nat → FieldType := fun k => match k with
  | _ => .int
abbrev wsJ100 : List Cond := u_ws RJ10 TJ10 0
theorem nmJ10 : ∀ a, a < 0 → ∀ b, b < 0 → a ≠ b → (TJ10 a).2.1 ≠ (TJ10 b).2.1 := by decide +kernel
theorem tyJ10_ok : ∀ k, k < 0 → parseFieldDescriptor (TJ10 k).2.2.1 = some (tyJ10 k) := by decide +kernel
def RL : String := "ArcFactoredParserLaw"
abbrev cL_law : ByteArray := code
def yL_law : MethodName := ⟨RL, "law", "([I)Z"⟩
abbrev vwCl : List vw_C := [(RX0, TX0, 5), (RX1, TX1, 3), (RX2, TX2, 3), (RX3, TX3, 12), (RX4, TX4, 10), (RX5, TX5, 8), (RX6, TX6, 2), (RX7, TX7, 10), (RX8, TX8, 40)]
/-- the words that every state on the way keeps -/
def gtbl : List Cond := lw_tbl.filter goodWord
theorem gt_mem {w : Cond} (i : Nat) (h : tables_1[i]? = some w) (hg : goodWord w = true) : w ∈ gtbl := List.mem_filter.mpr ⟨List.mem_append_right _ (List.mem_of_getElem? h), hg⟩
theorem gt_sel {w : Cond} (i : Nat) (h : (k2_sels lw_privs)[i]? = some w) (hg : goodWord w = true) : w ∈ gtbl := List.mem_filter.mpr ⟨List.mem_append_left _ (List.mem_of_getElem? h), hg⟩
set_option maxRecDepth 20000 in
theorem inX0_a : ∀ i, i < 5 → tables_1[([62, 64, 66, 68, 70] : List Nat).getD i 0]? = wsX00[i]? := by decide +kernel
set_option maxRecDepth 20000 in
theorem inX0_b : ∀ w ∈ wsX00, goodWord w = true := by decide +kernel
theorem inX0 : ∀ w ∈ wsX00, w ∈ gtbl := fun w h => by
  obtain ⟨i, hi⟩ := List.getElem?_of_mem h
  exact gt_mem (([62, 64, 66, 68, 70] : List Nat).getD i 0) ((inX0_a i (List.getElem?_eq_some_iff.mp hi).1).trans hi) (inX0_b w h)
set_option maxRecDepth 20000 in
theorem inX1_a : ∀ i, i < 3 → tables_1[([106, 108, 110] : List Nat).getD i 0]? = wsX10[i]? := by decide +kernel
set_option maxRecDepth 20000 in
theorem inX1_b : ∀ w ∈ wsX10, goodWord w = true := by decide +kernel
theorem inX1 : ∀ w ∈ wsX10, w ∈ gtbl := fun w h => by
  obtain ⟨i, hi⟩ := List.getElem?_of_mem h
  exact gt_mem (([106, 108, 110] : List Nat).getD i 0) ((inX1_a i (List.getElem?_eq_some_iff.mp hi).1).trans hi) (inX1_b w h)
set_option maxRecDepth 20000 in
theorem inX2_a : ∀ i, i < 3 → tables_1[([32, 34, 36] : List Nat).getD i 0]? = wsX20[i]? := by decide +kernel
set_option maxRecDepth 20000 in
theorem inX2_b : ∀ w ∈ wsX20, goodWord w = true := by decide +kernel
theorem inX2 : ∀ w ∈ wsX20, w ∈ gtbl := fun w h => by
  obtain ⟨i, hi⟩ := List.getElem?_of_mem h
  exact gt_mem (([32, 34, 36] : List Nat).getD i 0) ((inX2_a i (List.getElem?_eq_some_iff.mp hi).1).trans hi) (inX2_b w h)
set_option maxRecDepth 20000 in
theorem inX3_a : ∀ i, i < 12 → tables_1[([209, 211, 213, 215, 217, 219, 221, 223, 225, 227, 229, 231] : List Nat).getD i 0]? = wsX30[i]? := by decide +kernel
set_option maxRecDepth 20000 in
theorem inX3_b : ∀ w ∈ wsX30, goodWord w = true := by decide +kernel
theorem inX3 : ∀ w ∈ wsX30, w ∈ gtbl := fun w h => by
  obtain ⟨i, hi⟩ := List.getElem?_of_mem h
  exact gt_mem (([209, 211, 213, 215, 217, 219, 221, 223, 225, 227, 229, 231] : List Nat).getD i 0) ((inX3_a i (List.getElem?_eq_some_iff.mp hi).1).trans hi) (inX3_b w h)
set_option maxRecDepth 20000 in
theorem inX4_a : ∀ i, i < 10 → tables_1[([134, 136, 138, 140, 142, 144, 146, 148, 150, 152] : List Nat).getD i 0]? = wsX40[i]? := by decide +kernel
set_option maxRecDepth 20000 in
theorem inX4_b : ∀ w ∈ wsX40, goodWord w = true := by decide +kernel
theorem inX4 : ∀ w ∈ wsX40, w ∈ gtbl := fun w h => by
  obtain ⟨i, hi⟩ := List.getElem?_of_mem h
  exact gt_mem (([134, 136, 138, 140, 142, 144, 146, 148, 150, 152] : List Nat).getD i 0) ((inX4_a i (List.getElem?_eq_some_iff.mp hi).1).trans hi) (inX4_b w h)
set_option maxRecDepth 20000 in
theorem inX5_a : ∀ i, i < 8 → tables_1[([171, 173, 175, 177, 179, 181, 183, 185] : List Nat).getD i 0]? = wsX50[i]? := by decide +kernel
set_option maxRecDepth 20000 in
theorem inX5_b : ∀ w ∈ wsX50, goodWord w = true := by decide +kernel
theorem inX5 : ∀ w ∈ wsX50, w ∈ gtbl := fun w h => by
  obtain ⟨i, hi⟩ := List.getElem?_of_mem h
  exact gt_mem (([171, 173, 175, 177, 179, 181, 183, 185] : List Nat).getD i 0) ((inX5_a i (List.getElem?_eq_some_iff.mp hi).1).trans hi) (inX5_b w h)
set_option maxRecDepth 20000 in
theorem inX6_a : ∀ i, i < 2 → tables_1[([84, 86] : List Nat).getD i 0]? = wsX60[i]? := by decide +kernel
set_option maxRecDepth 20000 in
theorem inX6_b : ∀ w ∈ wsX60, goodWord w = true := by decide +kernel
theorem inX6 : ∀ w ∈ wsX60, w ∈ gtbl := fun w h => by
  obtain ⟨i, hi⟩ := List.getElem?_of_mem h
  exact gt_mem (([84, 86] : List Nat).getD i 0) ((inX6_a i (List.getElem?_eq_some_iff.mp hi).1).trans hi) (inX6_b w h)
set_option maxRecDepth 20000 in
theorem inX7_a : ∀ i, i < 10 → tables_1[([244, 246, 248, 250, 252, 254, 256, 258, 260, 262] : List Nat).getD i 0]? = wsX70[i]? := by decide +kernel
set_option maxRecDepth 20000 in
theorem inX7_b : ∀ w ∈ wsX70, goodWord w = true := by decide +kernel
theorem inX7 : ∀ w ∈ wsX70, w ∈ gtbl := fun w h => by
  obtain ⟨i, hi⟩ := List.getElem?_of_mem h
  exact gt_mem (([244, 246, 248, 250, 252, 254, 256, 258, 260, 262] : List Nat).getD i 0) ((inX7_a i (List.getElem?_eq_some_iff.mp hi).1).trans hi) (inX7_b w h)
set_option maxRecDepth 20000 in
theorem inX8_a : ∀ i, i < 40 → tables_1[([788, 790, 792, 794, 796, 798, 800, 802, 804, 806, 808, 810, 812, 814, 816, 818, 820, 822, 824, 826, 828, 830, 832, 834, 836, 838, 840, 842, 844, 846, 848, 850, 852, 854, 856, 858, 860, 862, 864, 866] : List Nat).getD i 0]? = wsX80[i]? := by decide +kernel
set_option maxRecDepth 20000 in
theorem inX8_b : ∀ w ∈ wsX80, goodWord w = true := by decide +kernel
theorem inX8 : ∀ w ∈ wsX80, w ∈ gtbl := fun w h => by
  obtain ⟨i, hi⟩ := List.getElem?_of_mem h
  exact gt_mem (([788, 790, 792, 794, 796, 798, 800, 802, 804, 806, 808, 810, 812, 814, 816, 818, 820, 822, 824, 826, 828, 830, 832, 834, 836, 838, 840, 842, 844, 846, 848, 850, 852, 854, 856, 858, 860, 862, 864, 866] : List Nat).getD i 0) ((inX8_a i (List.getElem?_eq_some_iff.mp hi).1).trans hi) (inX8_b w h)
