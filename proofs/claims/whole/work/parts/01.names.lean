-- ===== PART A: goes FIRST, ahead of the names: the tables' words, and 'selects' of the private methods out of them =====
/-- a private method of a class that the tables say can be made, by its rows of tables_1 -/
def lw_okq (q : MethodName × Nat) : Prop := (q.1.cls ≠ "java/lang/invoke/MethodHandle" ∧ q.1.cls ≠ "java/lang/invoke/VarHandle") ∧ Cond.instantiable q.1.cls q.2 ∈ tables_1 ∧ Cond.privateMethod q.1 ∈ tables_1 ∧ Cond.instanceMethod q.1 ∈ tables_1
theorem lw_p0 : lw_okq (⟨"JointedShadows", "figureAt", "(I)LJointedShadows$Figure;"⟩, 9) := ⟨⟨by decide +kernel, by decide +kernel⟩, List.mem_of_getElem? (i := 14) (by decide +kernel), List.mem_of_getElem? (i := 204) (by decide +kernel), List.mem_of_getElem? (i := 205) (by decide +kernel)⟩
theorem lw_p1 : lw_okq (⟨"JointedShadows", "limbsOfAll", "()I"⟩, 9) := ⟨⟨by decide +kernel, by decide +kernel⟩, List.mem_of_getElem? (i := 14) (by decide +kernel), List.mem_of_getElem? (i := 221) (by decide +kernel), List.mem_of_getElem? (i := 222) (by decide +kernel)⟩
theorem lw_p2 : lw_okq (⟨"JointedShadows$Pose", "stand", "(LJointedShadows$Figure;I)V"⟩, 9) := ⟨⟨by decide +kernel, by decide +kernel⟩, List.mem_of_getElem? (i := 59) (by decide +kernel), List.mem_of_getElem? (i := 306) (by decide +kernel), List.mem_of_getElem? (i := 307) (by decide +kernel)⟩
theorem lw_p3 : lw_okq (⟨"JointedShadows$Pose", "follow", "(LJointedShadows$Move;I)V"⟩, 9) := ⟨⟨by decide +kernel, by decide +kernel⟩, List.mem_of_getElem? (i := 59) (by decide +kernel), List.mem_of_getElem? (i := 316) (by decide +kernel), List.mem_of_getElem? (i := 317) (by decide +kernel)⟩
theorem lw_p4 : lw_okq (⟨"JointedShadows$Pose", "layPoints", "(LJointedShadows$Figure;)V"⟩, 9) := ⟨⟨by decide +kernel, by decide +kernel⟩, List.mem_of_getElem? (i := 59) (by decide +kernel), List.mem_of_getElem? (i := 323) (by decide +kernel), List.mem_of_getElem? (i := 324) (by decide +kernel)⟩
theorem lw_p5 : lw_okq (⟨"JointedShadows$Pose", "layBox", "(I)V"⟩, 9) := ⟨⟨by decide +kernel, by decide +kernel⟩, List.mem_of_getElem? (i := 59) (by decide +kernel), List.mem_of_getElem? (i := 338) (by decide +kernel), List.mem_of_getElem? (i := 339) (by decide +kernel)⟩
theorem lw_p6 : lw_okq (⟨"JointedShadows", "takePoses", "(LJointedShadows$Figure;LJointedShadows$Figure;I)V"⟩, 9) := ⟨⟨by decide +kernel, by decide +kernel⟩, List.mem_of_getElem? (i := 14) (by decide +kernel), List.mem_of_getElem? (i := 370) (by decide +kernel), List.mem_of_getElem? (i := 371) (by decide +kernel)⟩
theorem lw_p7 : lw_okq (⟨"JointedShadows", "crossingLimbs", "(LJointedShadows$Figure;LJointedShadows$Figure;I)I"⟩, 9) := ⟨⟨by decide +kernel, by decide +kernel⟩, List.mem_of_getElem? (i := 14) (by decide +kernel), List.mem_of_getElem? (i := 381) (by decide +kernel), List.mem_of_getElem? (i := 382) (by decide +kernel)⟩
theorem lw_p8 : lw_okq (⟨"JointedShadows$Segment", "lineMeets", "(LJointedShadows$Segment;)Z"⟩, 4) := ⟨⟨by decide +kernel, by decide +kernel⟩, List.mem_of_getElem? (i := 103) (by decide +kernel), List.mem_of_getElem? (i := 399) (by decide +kernel), List.mem_of_getElem? (i := 400) (by decide +kernel)⟩
theorem lw_p9 : lw_okq (⟨"JointedShadows$Segment", "side", "(JJ)I"⟩, 4) := ⟨⟨by decide +kernel, by decide +kernel⟩, List.mem_of_getElem? (i := 103) (by decide +kernel), List.mem_of_getElem? (i := 403) (by decide +kernel), List.mem_of_getElem? (i := 404) (by decide +kernel)⟩
theorem lw_p10 : lw_okq (⟨"JointedShadows", "isHigher", "(LJointedShadows$Figure;LJointedShadows$Figure;I)Z"⟩, 9) := ⟨⟨by decide +kernel, by decide +kernel⟩, List.mem_of_getElem? (i := 14) (by decide +kernel), List.mem_of_getElem? (i := 430) (by decide +kernel), List.mem_of_getElem? (i := 431) (by decide +kernel)⟩
theorem lw_p11 : lw_okq (⟨"JointedShadows", "handsOfAll", "(I)I"⟩, 9) := ⟨⟨by decide +kernel, by decide +kernel⟩, List.mem_of_getElem? (i := 14) (by decide +kernel), List.mem_of_getElem? (i := 445) (by decide +kernel), List.mem_of_getElem? (i := 446) (by decide +kernel)⟩
theorem lw_p12 : lw_okq (⟨"JointedShadows$Scenes", "fillLeast", "()V"⟩, 3) := ⟨⟨by decide +kernel, by decide +kernel⟩, List.mem_of_getElem? (i := 41) (by decide +kernel), List.mem_of_getElem? (i := 484) (by decide +kernel), List.mem_of_getElem? (i := 485) (by decide +kernel)⟩
theorem lw_p13 : lw_okq (⟨"JointedShadows$Scenes", "allButFirst", "()I"⟩, 3) := ⟨⟨by decide +kernel, by decide +kernel⟩, List.mem_of_getElem? (i := 41) (by decide +kernel), List.mem_of_getElem? (i := 488) (by decide +kernel), List.mem_of_getElem? (i := 489) (by decide +kernel)⟩
theorem lw_p14 : lw_okq (⟨"JointedShadows$Scenes", "firstBestNext", "(II)I"⟩, 3) := ⟨⟨by decide +kernel, by decide +kernel⟩, List.mem_of_getElem? (i := 41) (by decide +kernel), List.mem_of_getElem? (i := 498) (by decide +kernel), List.mem_of_getElem? (i := 499) (by decide +kernel)⟩
theorem lw_p15 : lw_okq (⟨"JointedShadows$Scenes", "costVia", "(III)I"⟩, 3) := ⟨⟨by decide +kernel, by decide +kernel⟩, List.mem_of_getElem? (i := 41) (by decide +kernel), List.mem_of_getElem? (i := 503) (by decide +kernel), List.mem_of_getElem? (i := 504) (by decide +kernel)⟩
def lw_privs_1 : List (MethodName × Nat) := [(⟨"JointedShadows", "figureAt", "(I)LJointedShadows$Figure;"⟩, 9), (⟨"JointedShadows", "limbsOfAll", "()I"⟩, 9), (⟨"JointedShadows$Pose", "stand", "(LJointedShadows$Figure;I)V"⟩, 9), (⟨"JointedShadows$Pose", "follow", "(LJointedShadows$Move;I)V"⟩, 9), (⟨"JointedShadows$Pose", "layPoints", "(LJointedShadows$Figure;)V"⟩, 9), (⟨"JointedShadows$Pose", "layBox", "(I)V"⟩, 9), (⟨"JointedShadows", "takePoses", "(LJointedShadows$Figure;LJointedShadows$Figure;I)V"⟩, 9), (⟨"JointedShadows", "crossingLimbs", "(LJointedShadows$Figure;LJointedShadows$Figure;I)I"⟩, 9), (⟨"JointedShadows$Segment", "lineMeets", "(LJointedShadows$Segment;)Z"⟩, 4), (⟨"JointedShadows$Segment", "side", "(JJ)I"⟩, 4), (⟨"JointedShadows", "isHigher", "(LJointedShadows$Figure;LJointedShadows$Figure;I)Z"⟩, 9), (⟨"JointedShadows", "handsOfAll", "(I)I"⟩, 9), (⟨"JointedShadows$Scenes", "fillLeast", "()V"⟩, 3), (⟨"JointedShadows$Scenes", "allButFirst", "()I"⟩, 3), (⟨"JointedShadows$Scenes", "firstBestNext", "(II)I"⟩, 3), (⟨"JointedShadows$Scenes", "costVia", "(III)I"⟩, 3)]
theorem lw_r1 : ∀ q ∈ lw_privs_1, lw_okq q := List.forall_mem_cons.mpr ⟨lw_p0, List.forall_mem_cons.mpr ⟨lw_p1, List.forall_mem_cons.mpr ⟨lw_p2, List.forall_mem_cons.mpr ⟨lw_p3, List.forall_mem_cons.mpr ⟨lw_p4, List.forall_mem_cons.mpr ⟨lw_p5, List.forall_mem_cons.mpr ⟨lw_p6, List.forall_mem_cons.mpr ⟨lw_p7, List.forall_mem_cons.mpr ⟨lw_p8, List.forall_mem_cons.mpr ⟨lw_p9, List.forall_mem_cons.mpr ⟨lw_p10, List.forall_mem_cons.mpr ⟨lw_p11, List.forall_mem_cons.mpr ⟨lw_p12, List.forall_mem_cons.mpr ⟨lw_p13, List.forall_mem_cons.mpr ⟨lw_p14, List.forall_mem_cons.mpr ⟨lw_p15, fun _ h => absurd h List.not_mem_nil⟩⟩⟩⟩⟩⟩⟩⟩⟩⟩⟩⟩⟩⟩⟩⟩
theorem lw_p16 : lw_okq (⟨"JointedShadows$Scenes", "least", "(II)I"⟩, 3) := ⟨⟨by decide +kernel, by decide +kernel⟩, List.mem_of_getElem? (i := 41) (by decide +kernel), List.mem_of_getElem? (i := 508) (by decide +kernel), List.mem_of_getElem? (i := 509) (by decide +kernel)⟩
theorem lw_p17 : lw_okq (⟨"JointedShadowsModel", "noFigure", "(I)Z"⟩, 27) := ⟨⟨by decide +kernel, by decide +kernel⟩, List.mem_of_getElem? (i := 536) (by decide +kernel), List.mem_of_getElem? (i := 640) (by decide +kernel), List.mem_of_getElem? (i := 641) (by decide +kernel)⟩
theorem lw_p18 : lw_okq (⟨"JointedShadowsModel", "noLimb", "(II)Z"⟩, 27) := ⟨⟨by decide +kernel, by decide +kernel⟩, List.mem_of_getElem? (i := 536) (by decide +kernel), List.mem_of_getElem? (i := 644) (by decide +kernel), List.mem_of_getElem? (i := 645) (by decide +kernel)⟩
theorem lw_p19 : lw_okq (⟨"JointedShadowsModel", "addMove", "(IIIIII)I"⟩, 27) := ⟨⟨by decide +kernel, by decide +kernel⟩, List.mem_of_getElem? (i := 536) (by decide +kernel), List.mem_of_getElem? (i := 659) (by decide +kernel), List.mem_of_getElem? (i := 660) (by decide +kernel)⟩
theorem lw_p20 : lw_okq (⟨"JointedShadowsModel", "goTo", "(I)V"⟩, 27) := ⟨⟨by decide +kernel, by decide +kernel⟩, List.mem_of_getElem? (i := 536) (by decide +kernel), List.mem_of_getElem? (i := 679) (by decide +kernel), List.mem_of_getElem? (i := 680) (by decide +kernel)⟩
theorem lw_p21 : lw_okq (⟨"JointedShadowsModel", "inStage", "(I)I"⟩, 27) := ⟨⟨by decide +kernel, by decide +kernel⟩, List.mem_of_getElem? (i := 536) (by decide +kernel), List.mem_of_getElem? (i := 683) (by decide +kernel), List.mem_of_getElem? (i := 684) (by decide +kernel)⟩
theorem lw_p22 : lw_okq (⟨"JointedShadowsModel", "doMove", "(I)V"⟩, 27) := ⟨⟨by decide +kernel, by decide +kernel⟩, List.mem_of_getElem? (i := 536) (by decide +kernel), List.mem_of_getElem? (i := 687) (by decide +kernel), List.mem_of_getElem? (i := 688) (by decide +kernel)⟩
theorem lw_p23 : lw_okq (⟨"JointedShadowsModel", "layPoints", "(I)V"⟩, 27) := ⟨⟨by decide +kernel, by decide +kernel⟩, List.mem_of_getElem? (i := 536) (by decide +kernel), List.mem_of_getElem? (i := 691) (by decide +kernel), List.mem_of_getElem? (i := 692) (by decide +kernel)⟩
theorem lw_p24 : lw_okq (⟨"JointedShadowsModel", "measure", "(II)J"⟩, 27) := ⟨⟨by decide +kernel, by decide +kernel⟩, List.mem_of_getElem? (i := 536) (by decide +kernel), List.mem_of_getElem? (i := 705) (by decide +kernel), List.mem_of_getElem? (i := 706) (by decide +kernel)⟩
theorem lw_p25 : lw_okq (⟨"JointedShadowsModel", "reach", "(IZI)J"⟩, 27) := ⟨⟨by decide +kernel, by decide +kernel⟩, List.mem_of_getElem? (i := 536) (by decide +kernel), List.mem_of_getElem? (i := 709) (by decide +kernel), List.mem_of_getElem? (i := 710) (by decide +kernel)⟩
theorem lw_p26 : lw_okq (⟨"JointedShadowsModel", "along", "(IIII)J"⟩, 27) := ⟨⟨by decide +kernel, by decide +kernel⟩, List.mem_of_getElem? (i := 536) (by decide +kernel), List.mem_of_getElem? (i := 726) (by decide +kernel), List.mem_of_getElem? (i := 727) (by decide +kernel)⟩
theorem lw_p27 : lw_okq (⟨"JointedShadowsModel", "twoBarred", "(III)I"⟩, 27) := ⟨⟨by decide +kernel, by decide +kernel⟩, List.mem_of_getElem? (i := 536) (by decide +kernel), List.mem_of_getElem? (i := 737) (by decide +kernel), List.mem_of_getElem? (i := 738) (by decide +kernel)⟩
theorem lw_p28 : lw_okq (⟨"JointedShadowsModel", "crossingsNow", "(II)I"⟩, 27) := ⟨⟨by decide +kernel, by decide +kernel⟩, List.mem_of_getElem? (i := 536) (by decide +kernel), List.mem_of_getElem? (i := 741) (by decide +kernel), List.mem_of_getElem? (i := 742) (by decide +kernel)⟩
theorem lw_p29 : lw_okq (⟨"JointedShadowsModel", "layEnds", "(IIIJ)V"⟩, 27) := ⟨⟨by decide +kernel, by decide +kernel⟩, List.mem_of_getElem? (i := 536) (by decide +kernel), List.mem_of_getElem? (i := 745) (by decide +kernel), List.mem_of_getElem? (i := 746) (by decide +kernel)⟩
theorem lw_p30 : lw_okq (⟨"JointedShadowsModel", "doMeet", "()Z"⟩, 27) := ⟨⟨by decide +kernel, by decide +kernel⟩, List.mem_of_getElem? (i := 536) (by decide +kernel), List.mem_of_getElem? (i := 749) (by decide +kernel), List.mem_of_getElem? (i := 750) (by decide +kernel)⟩
theorem lw_p31 : lw_okq (⟨"JointedShadowsModel", "isOnSegment", "(II)Z"⟩, 27) := ⟨⟨by decide +kernel, by decide +kernel⟩, List.mem_of_getElem? (i := 536) (by decide +kernel), List.mem_of_getElem? (i := 753) (by decide +kernel), List.mem_of_getElem? (i := 754) (by decide +kernel)⟩
def lw_privs_2 : List (MethodName × Nat) := [(⟨"JointedShadows$Scenes", "least", "(II)I"⟩, 3), (⟨"JointedShadowsModel", "noFigure", "(I)Z"⟩, 27), (⟨"JointedShadowsModel", "noLimb", "(II)Z"⟩, 27), (⟨"JointedShadowsModel", "addMove", "(IIIIII)I"⟩, 27), (⟨"JointedShadowsModel", "goTo", "(I)V"⟩, 27), (⟨"JointedShadowsModel", "inStage", "(I)I"⟩, 27), (⟨"JointedShadowsModel", "doMove", "(I)V"⟩, 27), (⟨"JointedShadowsModel", "layPoints", "(I)V"⟩, 27), (⟨"JointedShadowsModel", "measure", "(II)J"⟩, 27), (⟨"JointedShadowsModel", "reach", "(IZI)J"⟩, 27), (⟨"JointedShadowsModel", "along", "(IIII)J"⟩, 27), (⟨"JointedShadowsModel", "twoBarred", "(III)I"⟩, 27), (⟨"JointedShadowsModel", "crossingsNow", "(II)I"⟩, 27), (⟨"JointedShadowsModel", "layEnds", "(IIIJ)V"⟩, 27), (⟨"JointedShadowsModel", "doMeet", "()Z"⟩, 27), (⟨"JointedShadowsModel", "isOnSegment", "(II)Z"⟩, 27)]
theorem lw_r2 : ∀ q ∈ lw_privs_2, lw_okq q := List.forall_mem_cons.mpr ⟨lw_p16, List.forall_mem_cons.mpr ⟨lw_p17, List.forall_mem_cons.mpr ⟨lw_p18, List.forall_mem_cons.mpr ⟨lw_p19, List.forall_mem_cons.mpr ⟨lw_p20, List.forall_mem_cons.mpr ⟨lw_p21, List.forall_mem_cons.mpr ⟨lw_p22, List.forall_mem_cons.mpr ⟨lw_p23, List.forall_mem_cons.mpr ⟨lw_p24, List.forall_mem_cons.mpr ⟨lw_p25, List.forall_mem_cons.mpr ⟨lw_p26, List.forall_mem_cons.mpr ⟨lw_p27, List.forall_mem_cons.mpr ⟨lw_p28, List.forall_mem_cons.mpr ⟨lw_p29, List.forall_mem_cons.mpr ⟨lw_p30, List.forall_mem_cons.mpr ⟨lw_p31, fun _ h => absurd h List.not_mem_nil⟩⟩⟩⟩⟩⟩⟩⟩⟩⟩⟩⟩⟩⟩⟩⟩
theorem lw_p32 : lw_okq (⟨"JointedShadowsModel", "sideOf", "(II)I"⟩, 27) := ⟨⟨by decide +kernel, by decide +kernel⟩, List.mem_of_getElem? (i := 536) (by decide +kernel), List.mem_of_getElem? (i := 766) (by decide +kernel), List.mem_of_getElem? (i := 767) (by decide +kernel)⟩
theorem lw_p33 : lw_okq (⟨"JointedShadowsModel", "isWithin", "(IJJ)Z"⟩, 27) := ⟨⟨by decide +kernel, by decide +kernel⟩, List.mem_of_getElem? (i := 536) (by decide +kernel), List.mem_of_getElem? (i := 778) (by decide +kernel), List.mem_of_getElem? (i := 779) (by decide +kernel)⟩
theorem lw_p34 : lw_okq (⟨"JointedShadowsModel", "handsIn", "(I)I"⟩, 27) := ⟨⟨by decide +kernel, by decide +kernel⟩, List.mem_of_getElem? (i := 536) (by decide +kernel), List.mem_of_getElem? (i := 795) (by decide +kernel), List.mem_of_getElem? (i := 796) (by decide +kernel)⟩
theorem lw_p35 : lw_okq (⟨"JointedShadowsModel", "handsOf", "(II)I"⟩, 27) := ⟨⟨by decide +kernel, by decide +kernel⟩, List.mem_of_getElem? (i := 536) (by decide +kernel), List.mem_of_getElem? (i := 799) (by decide +kernel), List.mem_of_getElem? (i := 800) (by decide +kernel)⟩
theorem lw_p36 : lw_okq (⟨"JointedShadowsModel", "activeOf", "(II)I"⟩, 27) := ⟨⟨by decide +kernel, by decide +kernel⟩, List.mem_of_getElem? (i := 536) (by decide +kernel), List.mem_of_getElem? (i := 803) (by decide +kernel), List.mem_of_getElem? (i := 804) (by decide +kernel)⟩
theorem lw_p37 : lw_okq (⟨"JointedShadowsModel", "findOrder", "()I"⟩, 27) := ⟨⟨by decide +kernel, by decide +kernel⟩, List.mem_of_getElem? (i := 536) (by decide +kernel), List.mem_of_getElem? (i := 830) (by decide +kernel), List.mem_of_getElem? (i := 831) (by decide +kernel)⟩
theorem lw_p38 : lw_okq (⟨"JointedShadowsModel", "costNow", "()I"⟩, 27) := ⟨⟨by decide +kernel, by decide +kernel⟩, List.mem_of_getElem? (i := 536) (by decide +kernel), List.mem_of_getElem? (i := 834) (by decide +kernel), List.mem_of_getElem? (i := 835) (by decide +kernel)⟩
theorem lw_p39 : lw_okq (⟨"JointedShadowsModel", "nextOrder", "()Z"⟩, 27) := ⟨⟨by decide +kernel, by decide +kernel⟩, List.mem_of_getElem? (i := 536) (by decide +kernel), List.mem_of_getElem? (i := 838) (by decide +kernel), List.mem_of_getElem? (i := 839) (by decide +kernel)⟩
theorem lw_p40 : lw_okq (⟨"JointedShadowsModel", "exchange", "(II)V"⟩, 27) := ⟨⟨by decide +kernel, by decide +kernel⟩, List.mem_of_getElem? (i := 536) (by decide +kernel), List.mem_of_getElem? (i := 842) (by decide +kernel), List.mem_of_getElem? (i := 843) (by decide +kernel)⟩
def lw_privs_3 : List (MethodName × Nat) := [(⟨"JointedShadowsModel", "sideOf", "(II)I"⟩, 27), (⟨"JointedShadowsModel", "isWithin", "(IJJ)Z"⟩, 27), (⟨"JointedShadowsModel", "handsIn", "(I)I"⟩, 27), (⟨"JointedShadowsModel", "handsOf", "(II)I"⟩, 27), (⟨"JointedShadowsModel", "activeOf", "(II)I"⟩, 27), (⟨"JointedShadowsModel", "findOrder", "()I"⟩, 27), (⟨"JointedShadowsModel", "costNow", "()I"⟩, 27), (⟨"JointedShadowsModel", "nextOrder", "()Z"⟩, 27), (⟨"JointedShadowsModel", "exchange", "(II)V"⟩, 27)]
theorem lw_r3 : ∀ q ∈ lw_privs_3, lw_okq q := List.forall_mem_cons.mpr ⟨lw_p32, List.forall_mem_cons.mpr ⟨lw_p33, List.forall_mem_cons.mpr ⟨lw_p34, List.forall_mem_cons.mpr ⟨lw_p35, List.forall_mem_cons.mpr ⟨lw_p36, List.forall_mem_cons.mpr ⟨lw_p37, List.forall_mem_cons.mpr ⟨lw_p38, List.forall_mem_cons.mpr ⟨lw_p39, List.forall_mem_cons.mpr ⟨lw_p40, fun _ h => absurd h List.not_mem_nil⟩⟩⟩⟩⟩⟩⟩⟩⟩
def lw_privs : List (MethodName × Nat) := lw_privs_1 ++ (lw_privs_2 ++ (lw_privs_3))
def lw_tbl : List Cond := k2_sels lw_privs ++ tables_1
theorem lw_privs_ok : ∀ q ∈ lw_privs, lw_okq q := by
  show ∀ q ∈ lw_privs_1 ++ (lw_privs_2 ++ (lw_privs_3)), lw_okq q
  exact List.forall_mem_append.mpr ⟨lw_r1, List.forall_mem_append.mpr ⟨lw_r2, lw_r3⟩⟩

-- names
def RX0 : String := "JointedShadows$Figure"
def TX0 : u_T := fun k => match k with
  | 0 => ("JointedShadows$Figure", "number", "I", true)
  | 1 => ("JointedShadows$Figure", "x", "I", true)
  | 2 => ("JointedShadows$Figure", "y", "I", true)
  | 3 => ("JointedShadows$Figure", "plane", "I", true)
  | 4 => ("JointedShadows$Figure", "parent", "[I", true)
  | 5 => ("JointedShadows$Figure", "length", "[I", true)
  | 6 => ("JointedShadows$Figure", "direction", "[I", true)
  | _ => ("JointedShadows$Figure", "limbs", "I", false)
def tyX0 : Nat → FieldType := fun k => match k with
  | 0 => .int
  | 1 => .int
  | 2 => .int
  | 3 => .int
  | 4 => .array .int
  | 5 => .array .int
  | 6 => .array .int
  | _ => .int
theorem nmX0 : ∀ a, a < 8 → ∀ b, b < 8 → a ≠ b → (TX0 a).2.1 ≠ (TX0 b).2.1 := by decide +kernel
theorem tyX0_ok : ∀ k, k < 8 → parseFieldDescriptor (TX0 k).2.2.1 = some (tyX0 k) := by decide +kernel
abbrev cX0_init : ByteArray := prog_2_method_1_code
def yX0_init : MethodName := ⟨RX0, "<init>", "(IIII)V"⟩
abbrev cX0_hasLimb : ByteArray := prog_2_method_2_code
def yX0_hasLimb : MethodName := ⟨RX0, "hasLimb", "(I)Z"⟩
abbrev cX0_grow : ByteArray := prog_2_method_3_code
def yX0_grow : MethodName := ⟨RX0, "grow", "(III)I"⟩
abbrev cX0_start : ByteArray := prog_2_method_4_code
def yX0_start : MethodName := ⟨RX0, "start", "(I)I"⟩
abbrev cX0_handsFor : ByteArray := prog_2_method_5_code
def yX0_handsFor : MethodName := ⟨RX0, "handsFor", "(I)I"⟩
def RX1 : String := "JointedShadows$Move"
def TX1 : u_T := fun k => match k with
  | 0 => ("JointedShadows$Move", "number", "I", true)
  | 1 => ("JointedShadows$Move", "beat", "I", true)
  | 2 => ("JointedShadows$Move", "figure", "I", true)
  | 3 => ("JointedShadows$Move", "limb", "I", true)
  | 4 => ("JointedShadows$Move", "eighths", "I", false)
  | 5 => ("JointedShadows$Move", "dx", "I", false)
  | 6 => ("JointedShadows$Move", "dy", "I", false)
  | _ => ("JointedShadows$Move", "dplane", "I", false)
def tyX1 : Nat → FieldType := fun k => match k with
  | 0 => .int
  | 1 => .int
  | 2 => .int
  | 3 => .int
  | 4 => .int
  | 5 => .int
  | 6 => .int
  | _ => .int
theorem nmX1 : ∀ a, a < 8 → ∀ b, b < 8 → a ≠ b → (TX1 a).2.1 ≠ (TX1 b).2.1 := by decide +kernel
theorem tyX1_ok : ∀ k, k < 8 → parseFieldDescriptor (TX1 k).2.2.1 = some (tyX1 k) := by decide +kernel
abbrev cX1_init : ByteArray := prog_3_method_1_code
def yX1_init : MethodName := ⟨RX1, "<init>", "(IIII)V"⟩
def RX2 : String := "JointedShadows$Pose"
def TX2 : u_T := fun k => match k with
  | 0 => ("JointedShadows$Pose", "direction", "[I", true)
  | 1 => ("JointedShadows$Pose", "x", "[I", true)
  | 2 => ("JointedShadows$Pose", "y", "[I", true)
  | 3 => ("JointedShadows$Pose", "total", "[I", true)
  | 4 => ("JointedShadows$Pose", "plane", "I", false)
  | 5 => ("JointedShadows$Pose", "left", "I", false)
  | 6 => ("JointedShadows$Pose", "right", "I", false)
  | 7 => ("JointedShadows$Pose", "bottom", "I", false)
  | _ => ("JointedShadows$Pose", "top", "I", false)
def tyX2 : Nat → FieldType := fun k => match k with
  | 0 => .array .int
  | 1 => .array .int
  | 2 => .array .int
  | 3 => .array .int
  | 4 => .int
  | 5 => .int
  | 6 => .int
  | 7 => .int
  | _ => .int
theorem nmX2 : ∀ a, a < 9 → ∀ b, b < 9 → a ≠ b → (TX2 a).2.1 ≠ (TX2 b).2.1 := by decide +kernel
theorem tyX2_ok : ∀ k, k < 9 → parseFieldDescriptor (TX2 k).2.2.1 = some (tyX2 k) := by decide +kernel
abbrev cX2_init : ByteArray := prog_4_method_1_code
def yX2_init : MethodName := ⟨RX2, "<init>", "()V"⟩
abbrev cX2_take : ByteArray := prog_4_method_2_code
def yX2_take : MethodName := ⟨RX2, "take", "(LJointedShadows$Figure;LJointedShadows$Script;II)LJointedShadows$Pose;"⟩
abbrev cX2_stand : ByteArray := prog_4_method_3_code
def yX2_stand : MethodName := ⟨RX2, "stand", "(LJointedShadows$Figure;I)V"⟩
abbrev cX2_follow : ByteArray := prog_4_method_4_code
def yX2_follow : MethodName := ⟨RX2, "follow", "(LJointedShadows$Move;I)V"⟩
abbrev cX2_layPoints : ByteArray := prog_4_method_5_code
def yX2_layPoints : MethodName := ⟨RX2, "layPoints", "(LJointedShadows$Figure;)V"⟩
abbrev cX2_layBox : ByteArray := prog_4_method_6_code
def yX2_layBox : MethodName := ⟨RX2, "layBox", "(I)V"⟩
abbrev cX2_height : ByteArray := prog_4_method_7_code
def yX2_height : MethodName := ⟨RX2, "height", "()I"⟩
abbrev cX2_measure : ByteArray := prog_4_method_8_code
def yX2_measure : MethodName := ⟨RX2, "measure", "(I)I"⟩
abbrev cX2_isWithin : ByteArray := prog_4_method_9_code
def yX2_isWithin : MethodName := ⟨RX2, "isWithin", "(III)Z"⟩
def RX3 : String := "JointedShadows$Scenes"
def TX3 : u_T := fun k => match k with
  | 0 => ("JointedShadows$Scenes", "cast", "[I", true)
  | 1 => ("JointedShadows$Scenes", "size", "I", false)
  | _ => ("JointedShadows$Scenes", "leastAfter", "[I", true)
def tyX3 : Nat → FieldType := fun k => match k with
  | 0 => .array .int
  | 1 => .int
  | _ => .array .int
theorem nmX3 : ∀ a, a < 3 → ∀ b, b < 3 → a ≠ b → (TX3 a).2.1 ≠ (TX3 b).2.1 := by decide +kernel
theorem tyX3_ok : ∀ k, k < 3 → parseFieldDescriptor (TX3 k).2.2.1 = some (tyX3 k) := by decide +kernel
abbrev cX3_init : ByteArray := prog_5_method_1_code
def yX3_init : MethodName := ⟨RX3, "<init>", "()V"⟩
abbrev cX3_append : ByteArray := prog_5_method_2_code
def yX3_append : MethodName := ⟨RX3, "append", "(I)I"⟩
abbrev cX3_clear : ByteArray := prog_5_method_3_code
def yX3_clear : MethodName := ⟨RX3, "clear", "()V"⟩
abbrev cX3_leastCost : ByteArray := prog_5_method_4_code
def yX3_leastCost : MethodName := ⟨RX3, "leastCost", "()I"⟩
abbrev cX3_sceneAt : ByteArray := prog_5_method_5_code
def yX3_sceneAt : MethodName := ⟨RX3, "sceneAt", "(I)I"⟩
abbrev cX3_fillLeast : ByteArray := prog_5_method_6_code
def yX3_fillLeast : MethodName := ⟨RX3, "fillLeast", "()V"⟩
abbrev cX3_firstBestNext : ByteArray := prog_5_method_7_code
def yX3_firstBestNext : MethodName := ⟨RX3, "firstBestNext", "(II)I"⟩
abbrev cX3_costVia : ByteArray := prog_5_method_8_code
def yX3_costVia : MethodName := ⟨RX3, "costVia", "(III)I"⟩
abbrev cX3_least : ByteArray := prog_5_method_9_code
def yX3_least : MethodName := ⟨RX3, "least", "(II)I"⟩
abbrev cX3_allButFirst : ByteArray := prog_5_method_10_code
def yX3_allButFirst : MethodName := ⟨RX3, "allButFirst", "()I"⟩
abbrev cX3_isIn : ByteArray := prog_5_method_11_code
def yX3_isIn : MethodName := ⟨RX3, "isIn", "(II)Z"⟩
abbrev cX3_sceneBit : ByteArray := prog_5_method_12_code
def yX3_sceneBit : MethodName := ⟨RX3, "sceneBit", "(I)I"⟩
def RX4 : String := "JointedShadows$Script"
def TX4 : u_T := fun k => match k with
  | 0 => ("JointedShadows$Script", "moves", "[LJointedShadows$Move;", true)
  | _ => ("JointedShadows$Script", "size", "I", false)
def tyX4 : Nat → FieldType := fun k => match k with
  | 0 => .array (.object "JointedShadows$Move")
  | _ => .int
theorem nmX4 : ∀ a, a < 2 → ∀ b, b < 2 → a ≠ b → (TX4 a).2.1 ≠ (TX4 b).2.1 := by decide +kernel
theorem tyX4_ok : ∀ k, k < 2 → parseFieldDescriptor (TX4 k).2.2.1 = some (tyX4 k) := by decide +kernel
abbrev cX4_init : ByteArray := prog_6_method_1_code
def yX4_init : MethodName := ⟨RX4, "<init>", "()V"⟩
abbrev cX4_newMove : ByteArray := prog_6_method_2_code
def yX4_newMove : MethodName := ⟨RX4, "newMove", "(III)LJointedShadows$Move;"⟩
abbrev cX4_isAfter : ByteArray := prog_6_method_3_code
def yX4_isAfter : MethodName := ⟨RX4, "isAfter", "(LJointedShadows$Move;I)Z"⟩
abbrev cX4_keepFirst : ByteArray := prog_6_method_4_code
def yX4_keepFirst : MethodName := ⟨RX4, "keepFirst", "(I)V"⟩
abbrev cX4_hasMoveIn : ByteArray := prog_6_method_5_code
def yX4_hasMoveIn : MethodName := ⟨RX4, "hasMoveIn", "(I)Z"⟩
abbrev cX4_rodsMoved : ByteArray := prog_6_method_6_code
def yX4_rodsMoved : MethodName := ⟨RX4, "rodsMoved", "(II)I"⟩
abbrev cX4_rodBit : ByteArray := prog_6_method_7_code
def yX4_rodBit : MethodName := ⟨RX4, "rodBit", "(I)I"⟩
def RX5 : String := "JointedShadows$Segment"
def TX5 : u_T := fun k => match k with
  | 0 => ("JointedShadows$Segment", "startX", "J", false)
  | 1 => ("JointedShadows$Segment", "startY", "J", false)
  | 2 => ("JointedShadows$Segment", "endX", "J", false)
  | _ => ("JointedShadows$Segment", "endY", "J", false)
def tyX5 : Nat → FieldType := fun k => match k with
  | 0 => .long
  | 1 => .long
  | 2 => .long
  | _ => .long
theorem nmX5 : ∀ a, a < 4 → ∀ b, b < 4 → a ≠ b → (TX5 a).2.1 ≠ (TX5 b).2.1 := by decide +kernel
theorem tyX5_ok : ∀ k, k < 4 → parseFieldDescriptor (TX5 k).2.2.1 = some (tyX5 k) := by decide +kernel
abbrev cX5_init : ByteArray := prog_7_method_1_code
def yX5_init : MethodName := ⟨RX5, "<init>", "()V"⟩
abbrev cX5_lay : ByteArray := prog_7_method_2_code
def yX5_lay : MethodName := ⟨RX5, "lay", "(LJointedShadows$Pose;III)V"⟩
abbrev cX5_meets : ByteArray := prog_7_method_3_code
def yX5_meets : MethodName := ⟨RX5, "meets", "(LJointedShadows$Segment;)Z"⟩
abbrev cX5_rangesMeet : ByteArray := prog_7_method_4_code
def yX5_rangesMeet : MethodName := ⟨RX5, "rangesMeet", "(JJJJ)Z"⟩
abbrev cX5_lineMeets : ByteArray := prog_7_method_5_code
def yX5_lineMeets : MethodName := ⟨RX5, "lineMeets", "(LJointedShadows$Segment;)Z"⟩
abbrev cX5_side : ByteArray := prog_7_method_6_code
def yX5_side : MethodName := ⟨RX5, "side", "(JJ)I"⟩
def RX6 : String := "JointedShadows"
def TX6 : u_T := fun k => match k with
  | 0 => ("JointedShadows", "screenDistance", "I", false)
  | 1 => ("JointedShadows", "figureCount", "I", false)
  | 2 => ("JointedShadows", "figures", "[LJointedShadows$Figure;", true)
  | 3 => ("JointedShadows", "script", "LJointedShadows$Script;", true)
  | 4 => ("JointedShadows", "scenes", "LJointedShadows$Scenes;", true)
  | 5 => ("JointedShadows", "firstPose", "LJointedShadows$Pose;", true)
  | 6 => ("JointedShadows", "secondPose", "LJointedShadows$Pose;", true)
  | 7 => ("JointedShadows", "firstSegment", "LJointedShadows$Segment;", true)
  | _ => ("JointedShadows", "secondSegment", "LJointedShadows$Segment;", true)
def tyX6 : Nat → FieldType := fun k => match k with
  | 0 => .int
  | 1 => .int
  | 2 => .array (.object "JointedShadows$Figure")
  | 3 => .object "JointedShadows$Script"
  | 4 => .object "JointedShadows$Scenes"
  | 5 => .object "JointedShadows$Pose"
  | 6 => .object "JointedShadows$Pose"
  | 7 => .object "JointedShadows$Segment"
  | _ => .object "JointedShadows$Segment"
theorem nmX6 : ∀ a, a < 9 → ∀ b, b < 9 → a ≠ b → (TX6 a).2.1 ≠ (TX6 b).2.1 := by decide +kernel
theorem tyX6_ok : ∀ k, k < 9 → parseFieldDescriptor (TX6 k).2.2.1 = some (tyX6 k) := by decide +kernel
abbrev cX6_init : ByteArray := prog_1_method_1_code
def yX6_init : MethodName := ⟨RX6, "<init>", "()V"⟩
abbrev cX6_setDistance : ByteArray := prog_1_method_2_code
def yX6_setDistance : MethodName := ⟨RX6, "setDistance", "(I)I"⟩
abbrev cX6_addFigure : ByteArray := prog_1_method_3_code
def yX6_addFigure : MethodName := ⟨RX6, "addFigure", "(III)I"⟩
abbrev cX6_addLimb : ByteArray := prog_1_method_4_code
def yX6_addLimb : MethodName := ⟨RX6, "addLimb", "(IIII)I"⟩
abbrev cX6_count : ByteArray := prog_1_method_5_code
def yX6_count : MethodName := ⟨RX6, "count", "(I)I"⟩
abbrev cX6_addTurn : ByteArray := prog_1_method_6_code
def yX6_addTurn : MethodName := ⟨RX6, "addTurn", "(IIII)I"⟩
abbrev cX6_addShift : ByteArray := prog_1_method_7_code
def yX6_addShift : MethodName := ⟨RX6, "addShift", "(IIIII)I"⟩
abbrev cX6_removeMoves : ByteArray := prog_1_method_8_code
def yX6_removeMoves : MethodName := ⟨RX6, "removeMoves", "(I)I"⟩
abbrev cX6_position : ByteArray := prog_1_method_9_code
def yX6_position : MethodName := ⟨RX6, "position", "(IIII)J"⟩
abbrev cX6_box : ByteArray := prog_1_method_10_code
def yX6_box : MethodName := ⟨RX6, "box", "(IIII)J"⟩
abbrev cX6_overlap : ByteArray := prog_1_method_11_code
def yX6_overlap : MethodName := ⟨RX6, "overlap", "(IIII)J"⟩
abbrev cX6_crossings : ByteArray := prog_1_method_12_code
def yX6_crossings : MethodName := ⟨RX6, "crossings", "(III)I"⟩
abbrev cX6_nextCrossing : ByteArray := prog_1_method_13_code
def yX6_nextCrossing : MethodName := ⟨RX6, "nextCrossing", "(III)I"⟩
abbrev cX6_within : ByteArray := prog_1_method_14_code
def yX6_within : MethodName := ⟨RX6, "within", "(III)I"⟩
abbrev cX6_highest : ByteArray := prog_1_method_15_code
def yX6_highest : MethodName := ⟨RX6, "highest", "(I)I"⟩
abbrev cX6_planeFor : ByteArray := prog_1_method_16_code
def yX6_planeFor : MethodName := ⟨RX6, "planeFor", "(III)I"⟩
abbrev cX6_hands : ByteArray := prog_1_method_17_code
def yX6_hands : MethodName := ⟨RX6, "hands", "(I)I"⟩
abbrev cX6_busiestBeat : ByteArray := prog_1_method_18_code
def yX6_busiestBeat : MethodName := ⟨RX6, "busiestBeat", "()I"⟩
abbrev cX6_activeRods : ByteArray := prog_1_method_19_code
def yX6_activeRods : MethodName := ⟨RX6, "activeRods", "(II)I"⟩
abbrev cX6_addScene : ByteArray := prog_1_method_20_code
def yX6_addScene : MethodName := ⟨RX6, "addScene", "(I)I"⟩
abbrev cX6_clearScenes : ByteArray := prog_1_method_21_code
def yX6_clearScenes : MethodName := ⟨RX6, "clearScenes", "()I"⟩
abbrev cX6_bestScene : ByteArray := prog_1_method_22_code
def yX6_bestScene : MethodName := ⟨RX6, "bestScene", "(I)I"⟩
abbrev cX6_bestCost : ByteArray := prog_1_method_23_code
def yX6_bestCost : MethodName := ⟨RX6, "bestCost", "()I"⟩
abbrev cX6_inRange : ByteArray := prog_1_method_24_code
def yX6_inRange : MethodName := ⟨RX6, "inRange", "(III)Z"⟩
abbrev cX6_isBeat : ByteArray := prog_1_method_25_code
def yX6_isBeat : MethodName := ⟨RX6, "isBeat", "(I)Z"⟩
abbrev cX6_figureAt : ByteArray := prog_1_method_26_code
def yX6_figureAt : MethodName := ⟨RX6, "figureAt", "(I)LJointedShadows$Figure;"⟩
abbrev cX6_limbsOfAll : ByteArray := prog_1_method_27_code
def yX6_limbsOfAll : MethodName := ⟨RX6, "limbsOfAll", "()I"⟩
abbrev cX6_handsOfAll : ByteArray := prog_1_method_28_code
def yX6_handsOfAll : MethodName := ⟨RX6, "handsOfAll", "(I)I"⟩
abbrev cX6_isHigher : ByteArray := prog_1_method_29_code
def yX6_isHigher : MethodName := ⟨RX6, "isHigher", "(LJointedShadows$Figure;LJointedShadows$Figure;I)Z"⟩
abbrev cX6_takePoses : ByteArray := prog_1_method_30_code
def yX6_takePoses : MethodName := ⟨RX6, "takePoses", "(LJointedShadows$Figure;LJointedShadows$Figure;I)V"⟩
abbrev cX6_crossingLimbs : ByteArray := prog_1_method_31_code
def yX6_crossingLimbs : MethodName := ⟨RX6, "crossingLimbs", "(LJointedShadows$Figure;LJointedShadows$Figure;I)I"⟩
abbrev cX6_partOfFraction : ByteArray := prog_1_method_32_code
def yX6_partOfFraction : MethodName := ⟨RX6, "partOfFraction", "(JJI)J"⟩
abbrev cX6_commonDivisor : ByteArray := prog_1_method_33_code
def yX6_commonDivisor : MethodName := ⟨RX6, "commonDivisor", "(JJ)J"⟩
def RX7 : String := "JointedShadowsModel"
def TX7 : u_T := fun k => match k with
  | 0 => ("JointedShadowsModel", "screen", "I", false)
  | 1 => ("JointedShadowsModel", "figures", "I", false)
  | 2 => ("JointedShadowsModel", "baseX", "[I", true)
  | 3 => ("JointedShadowsModel", "baseY", "[I", true)
  | 4 => ("JointedShadowsModel", "baseIn", "[I", true)
  | 5 => ("JointedShadowsModel", "limbs", "[I", true)
  | 6 => ("JointedShadowsModel", "parentOf", "[I", true)
  | 7 => ("JointedShadowsModel", "lengthOf", "[I", true)
  | 8 => ("JointedShadowsModel", "directionOf", "[I", true)
  | 9 => ("JointedShadowsModel", "moves", "I", false)
  | 10 => ("JointedShadowsModel", "beatOf", "[I", true)
  | 11 => ("JointedShadowsModel", "figureOf", "[I", true)
  | 12 => ("JointedShadowsModel", "limbOf", "[I", true)
  | 13 => ("JointedShadowsModel", "addX", "[I", true)
  | 14 => ("JointedShadowsModel", "addY", "[I", true)
  | 15 => ("JointedShadowsModel", "addIn", "[I", true)
  | 16 => ("JointedShadowsModel", "planeOf", "[I", true)
  | 17 => ("JointedShadowsModel", "turnOf", "[I", true)
  | 18 => ("JointedShadowsModel", "pointX", "[J", true)
  | 19 => ("JointedShadowsModel", "pointY", "[J", true)
  | 20 => ("JointedShadowsModel", "pointTurn", "[I", true)
  | 21 => ("JointedShadowsModel", "endX", "[J", true)
  | 22 => ("JointedShadowsModel", "endY", "[J", true)
  | 23 => ("JointedShadowsModel", "scenes", "I", false)
  | 24 => ("JointedShadowsModel", "sceneOf", "[I", true)
  | 25 => ("JointedShadowsModel", "orderNow", "[I", true)
  | _ => ("JointedShadowsModel", "orderBest", "[I", true)
def tyX7 : Nat → FieldType := fun k => match k with
  | 0 => .int
  | 1 => .int
  | 2 => .array .int
  | 3 => .array .int
  | 4 => .array .int
  | 5 => .array .int
  | 6 => .array .int
  | 7 => .array .int
  | 8 => .array .int
  | 9 => .int
  | 10 => .array .int
  | 11 => .array .int
  | 12 => .array .int
  | 13 => .array .int
  | 14 => .array .int
  | 15 => .array .int
  | 16 => .array .int
  | 17 => .array .int
  | 18 => .array .long
  | 19 => .array .long
  | 20 => .array .int
  | 21 => .array .long
  | 22 => .array .long
  | 23 => .int
  | 24 => .array .int
  | 25 => .array .int
  | _ => .array .int
theorem nmX7 : ∀ a, a < 27 → ∀ b, b < 27 → a ≠ b → (TX7 a).2.1 ≠ (TX7 b).2.1 := by decide +kernel
theorem tyX7_ok : ∀ k, k < 27 → parseFieldDescriptor (TX7 k).2.2.1 = some (tyX7 k) := by decide +kernel
abbrev cX7_init : ByteArray := prog_9_method_1_code
def yX7_init : MethodName := ⟨RX7, "<init>", "()V"⟩
abbrev cX7_in : ByteArray := prog_9_method_2_code
def yX7_in : MethodName := ⟨RX7, "in", "(III)Z"⟩
abbrev cX7_lost : ByteArray := prog_9_method_3_code
def yX7_lost : MethodName := ⟨RX7, "lost", "()J"⟩
abbrev cX7_least : ByteArray := prog_9_method_4_code
def yX7_least : MethodName := ⟨RX7, "least", "(JJ)J"⟩
abbrev cX7_most : ByteArray := prog_9_method_5_code
def yX7_most : MethodName := ⟨RX7, "most", "(JJ)J"⟩
abbrev cX7_noFigure : ByteArray := prog_9_method_6_code
def yX7_noFigure : MethodName := ⟨RX7, "noFigure", "(I)Z"⟩
abbrev cX7_noLimb : ByteArray := prog_9_method_7_code
def yX7_noLimb : MethodName := ⟨RX7, "noLimb", "(II)Z"⟩
abbrev cX7_isBeat : ByteArray := prog_9_method_8_code
def yX7_isBeat : MethodName := ⟨RX7, "isBeat", "(I)Z"⟩
abbrev cX7_setDistance : ByteArray := prog_9_method_9_code
def yX7_setDistance : MethodName := ⟨RX7, "setDistance", "(I)I"⟩
abbrev cX7_addFigure : ByteArray := prog_9_method_10_code
def yX7_addFigure : MethodName := ⟨RX7, "addFigure", "(III)I"⟩
abbrev cX7_addLimb : ByteArray := prog_9_method_11_code
def yX7_addLimb : MethodName := ⟨RX7, "addLimb", "(IIII)I"⟩
abbrev cX7_count : ByteArray := prog_9_method_12_code
def yX7_count : MethodName := ⟨RX7, "count", "(I)I"⟩
abbrev cX7_addMove : ByteArray := prog_9_method_13_code
def yX7_addMove : MethodName := ⟨RX7, "addMove", "(IIIIII)I"⟩
abbrev cX7_addTurn : ByteArray := prog_9_method_14_code
def yX7_addTurn : MethodName := ⟨RX7, "addTurn", "(IIII)I"⟩
abbrev cX7_addShift : ByteArray := prog_9_method_15_code
def yX7_addShift : MethodName := ⟨RX7, "addShift", "(IIIII)I"⟩
abbrev cX7_removeMoves : ByteArray := prog_9_method_16_code
def yX7_removeMoves : MethodName := ⟨RX7, "removeMoves", "(I)I"⟩
abbrev cX7_inStage : ByteArray := prog_9_method_17_code
def yX7_inStage : MethodName := ⟨RX7, "inStage", "(I)I"⟩
abbrev cX7_doMove : ByteArray := prog_9_method_18_code
def yX7_doMove : MethodName := ⟨RX7, "doMove", "(I)V"⟩
abbrev cX7_stepX : ByteArray := prog_9_method_19_code
def yX7_stepX : MethodName := ⟨RX7, "stepX", "(I)I"⟩
abbrev cX7_stepY : ByteArray := prog_9_method_20_code
def yX7_stepY : MethodName := ⟨RX7, "stepY", "(I)I"⟩
abbrev cX7_layPoints : ByteArray := prog_9_method_21_code
def yX7_layPoints : MethodName := ⟨RX7, "layPoints", "(I)V"⟩
abbrev cX7_goTo : ByteArray := prog_9_method_22_code
def yX7_goTo : MethodName := ⟨RX7, "goTo", "(I)V"⟩
abbrev cX7_position : ByteArray := prog_9_method_23_code
def yX7_position : MethodName := ⟨RX7, "position", "(IIII)J"⟩
abbrev cX7_common : ByteArray := prog_9_method_24_code
def yX7_common : MethodName := ⟨RX7, "common", "(JJ)J"⟩
abbrev cX7_partOf : ByteArray := prog_9_method_25_code
def yX7_partOf : MethodName := ⟨RX7, "partOf", "(JJI)J"⟩
abbrev cX7_reach : ByteArray := prog_9_method_26_code
def yX7_reach : MethodName := ⟨RX7, "reach", "(IZI)J"⟩
abbrev cX7_measure : ByteArray := prog_9_method_27_code
def yX7_measure : MethodName := ⟨RX7, "measure", "(II)J"⟩
abbrev cX7_box : ByteArray := prog_9_method_28_code
def yX7_box : MethodName := ⟨RX7, "box", "(IIII)J"⟩
abbrev cX7_along : ByteArray := prog_9_method_29_code
def yX7_along : MethodName := ⟨RX7, "along", "(IIII)J"⟩
abbrev cX7_overlap : ByteArray := prog_9_method_30_code
def yX7_overlap : MethodName := ⟨RX7, "overlap", "(IIII)J"⟩
abbrev cX7_side : ByteArray := prog_9_method_31_code
def yX7_side : MethodName := ⟨RX7, "side", "(JJJJJJ)I"⟩
abbrev cX7_isBetween : ByteArray := prog_9_method_32_code
def yX7_isBetween : MethodName := ⟨RX7, "isBetween", "(JJJ)Z"⟩
abbrev cX7_isOn : ByteArray := prog_9_method_33_code
def yX7_isOn : MethodName := ⟨RX7, "isOn", "(JJJJJJ)Z"⟩
abbrev cX7_layEnds : ByteArray := prog_9_method_34_code
def yX7_layEnds : MethodName := ⟨RX7, "layEnds", "(IIIJ)V"⟩
abbrev cX7_sideOf : ByteArray := prog_9_method_35_code
def yX7_sideOf : MethodName := ⟨RX7, "sideOf", "(II)I"⟩
abbrev cX7_isOnSegment : ByteArray := prog_9_method_36_code
def yX7_isOnSegment : MethodName := ⟨RX7, "isOnSegment", "(II)Z"⟩
abbrev cX7_doMeet : ByteArray := prog_9_method_37_code
def yX7_doMeet : MethodName := ⟨RX7, "doMeet", "()Z"⟩
abbrev cX7_crossingsNow : ByteArray := prog_9_method_38_code
def yX7_crossingsNow : MethodName := ⟨RX7, "crossingsNow", "(II)I"⟩
abbrev cX7_twoBarred : ByteArray := prog_9_method_39_code
def yX7_twoBarred : MethodName := ⟨RX7, "twoBarred", "(III)I"⟩
abbrev cX7_crossings : ByteArray := prog_9_method_40_code
def yX7_crossings : MethodName := ⟨RX7, "crossings", "(III)I"⟩
abbrev cX7_nextCrossing : ByteArray := prog_9_method_41_code
def yX7_nextCrossing : MethodName := ⟨RX7, "nextCrossing", "(III)I"⟩
abbrev cX7_isWithin : ByteArray := prog_9_method_42_code
def yX7_isWithin : MethodName := ⟨RX7, "isWithin", "(IJJ)Z"⟩
abbrev cX7_within : ByteArray := prog_9_method_43_code
def yX7_within : MethodName := ⟨RX7, "within", "(III)I"⟩
abbrev cX7_highest : ByteArray := prog_9_method_44_code
def yX7_highest : MethodName := ⟨RX7, "highest", "(I)I"⟩
abbrev cX7_planeFor : ByteArray := prog_9_method_45_code
def yX7_planeFor : MethodName := ⟨RX7, "planeFor", "(III)I"⟩
abbrev cX7_activeOf : ByteArray := prog_9_method_46_code
def yX7_activeOf : MethodName := ⟨RX7, "activeOf", "(II)I"⟩
abbrev cX7_bits : ByteArray := prog_9_method_47_code
def yX7_bits : MethodName := ⟨RX7, "bits", "(I)I"⟩
abbrev cX7_handsOf : ByteArray := prog_9_method_48_code
def yX7_handsOf : MethodName := ⟨RX7, "handsOf", "(II)I"⟩
abbrev cX7_handsIn : ByteArray := prog_9_method_49_code
def yX7_handsIn : MethodName := ⟨RX7, "handsIn", "(I)I"⟩
abbrev cX7_hands : ByteArray := prog_9_method_50_code
def yX7_hands : MethodName := ⟨RX7, "hands", "(I)I"⟩
abbrev cX7_busiestBeat : ByteArray := prog_9_method_51_code
def yX7_busiestBeat : MethodName := ⟨RX7, "busiestBeat", "()I"⟩
abbrev cX7_activeRods : ByteArray := prog_9_method_52_code
def yX7_activeRods : MethodName := ⟨RX7, "activeRods", "(II)I"⟩
abbrev cX7_addScene : ByteArray := prog_9_method_53_code
def yX7_addScene : MethodName := ⟨RX7, "addScene", "(I)I"⟩
abbrev cX7_clearScenes : ByteArray := prog_9_method_54_code
def yX7_clearScenes : MethodName := ⟨RX7, "clearScenes", "()I"⟩
abbrev cX7_costNow : ByteArray := prog_9_method_55_code
def yX7_costNow : MethodName := ⟨RX7, "costNow", "()I"⟩
abbrev cX7_exchange : ByteArray := prog_9_method_56_code
def yX7_exchange : MethodName := ⟨RX7, "exchange", "(II)V"⟩
abbrev cX7_nextOrder : ByteArray := prog_9_method_57_code
def yX7_nextOrder : MethodName := ⟨RX7, "nextOrder", "()Z"⟩
abbrev cX7_findOrder : ByteArray := prog_9_method_58_code
def yX7_findOrder : MethodName := ⟨RX7, "findOrder", "()I"⟩
abbrev cX7_bestScene : ByteArray := prog_9_method_59_code
def yX7_bestScene : MethodName := ⟨RX7, "bestScene", "(I)I"⟩
abbrev cX7_bestCost : ByteArray := prog_9_method_60_code
def yX7_bestCost : MethodName := ⟨RX7, "bestCost", "()I"⟩
def RJ6 : String := "java/lang/Integer"
def TJ6 : u_T := fun k => match k with
  | _ => ("", "", "", false)
def tyJ6 : Nat → FieldType := fun k => match k with
  | _ => .int
theorem nmJ6 : ∀ a, a < 0 → ∀ b, b < 0 → a ≠ b → (TJ6 a).2.1 ≠ (TJ6 b).2.1 := by decide +kernel
theorem tyJ6_ok : ∀ k, k < 0 → parseFieldDescriptor (TJ6 k).2.2.1 = some (tyJ6 k) := by decide +kernel
abbrev cJ6_bitCount_0f7a4 : ByteArray := prog_10_method_49_code
def yJ6_bitCount_0f7a4 : MethodName := ⟨RJ6, "bitCount", "(I)I"⟩
def RJ13 : String := "java/lang/Long"
def TJ13 : u_T := fun k => match k with
  | _ => ("", "", "", false)
def tyJ13 : Nat → FieldType := fun k => match k with
  | _ => .int
theorem nmJ13 : ∀ a, a < 0 → ∀ b, b < 0 → a ≠ b → (TJ13 a).2.1 ≠ (TJ13 b).2.1 := by decide +kernel
theorem tyJ13_ok : ∀ k, k < 0 → parseFieldDescriptor (TJ13 k).2.2.1 = some (tyJ13 k) := by decide +kernel
abbrev cJ13_compare_74951 : ByteArray := prog_11_method_42_code
def yJ13_compare_74951 : MethodName := ⟨RJ13, "compare", "(JJ)I"⟩
def RJ9 : String := "java/lang/Math"
def TJ9 : u_T := fun k => match k with
  | _ => ("", "", "", false)
def tyJ9 : Nat → FieldType := fun k => match k with
  | _ => .int
theorem nmJ9 : ∀ a, a < 0 → ∀ b, b < 0 → a ≠ b → (TJ9 a).2.1 ≠ (TJ9 b).2.1 := by decide +kernel
theorem tyJ9_ok : ∀ k, k < 0 → parseFieldDescriptor (TJ9 k).2.2.1 = some (tyJ9 k) := by decide +kernel
abbrev cJ9_floorMod_7cf53 : ByteArray := prog_12_method_50_code
def yJ9_floorMod_7cf53 : MethodName := ⟨RJ9, "floorMod", "(II)I"⟩
abbrev cJ9_abs_067f4 : ByteArray := prog_12_method_61_code
def yJ9_abs_067f4 : MethodName := ⟨RJ9, "abs", "(J)J"⟩
abbrev cJ9_max_7cf53 : ByteArray := prog_12_method_65_code
def yJ9_max_7cf53 : MethodName := ⟨RJ9, "max", "(II)I"⟩
abbrev cJ9_max_f86c9 : ByteArray := prog_12_method_66_code
def yJ9_max_f86c9 : MethodName := ⟨RJ9, "max", "(JJ)J"⟩
abbrev cJ9_min_7cf53 : ByteArray := prog_12_method_69_code
def yJ9_min_7cf53 : MethodName := ⟨RJ9, "min", "(II)I"⟩
abbrev cJ9_min_f86c9 : ByteArray := prog_12_method_70_code
def yJ9_min_f86c9 : MethodName := ⟨RJ9, "min", "(JJ)J"⟩
def RJ10 : String := "java/lang/System"
def TJ10 : u_T := fun k => match k with
  | _ => ("", "", "", false)
def tyJ10 : Nat → FieldType := fun k => match k with
  | _ => .int
theorem nmJ10 : ∀ a, a < 0 → ∀ b, b < 0 → a ≠ b → (TJ10 a).2.1 ≠ (TJ10 b).2.1 := by decide +kernel
theorem tyJ10_ok : ∀ k, k < 0 → parseFieldDescriptor (TJ10 k).2.2.1 = some (tyJ10 k) := by decide +kernel
def RL : String := "JointedShadowsLaw"
abbrev cL_law : ByteArray := code
def yL_law : MethodName := ⟨RL, "law", "([I)Z"⟩
abbrev vwCl : List vw_C := [(RX0, TX0, 8), (RX1, TX1, 8), (RX2, TX2, 9), (RX3, TX3, 3), (RX4, TX4, 2), (RX5, TX5, 4), (RX6, TX6, 9), (RX7, TX7, 27)]

def GT : List Cond := lw_tbl.filter goodWord
theorem gmem0 {c : Cond} (h : c ∈ k2_sels lw_privs) (hg : goodWord c = true) : c ∈ GT := List.mem_filter.mpr ⟨List.mem_append_left _ h, hg⟩
theorem gmem1 {c : Cond} (h : c ∈ tables_1_1) (hg : goodWord c = true) : c ∈ GT := List.mem_filter.mpr ⟨List.mem_append_right _ (List.mem_append_left _ h), hg⟩
theorem gmem2 {c : Cond} (h : c ∈ tables_1_2) (hg : goodWord c = true) : c ∈ GT := List.mem_filter.mpr ⟨List.mem_append_right _ (List.mem_append_right _ (List.mem_append_left _ h)), hg⟩
theorem gmem3 {c : Cond} (h : c ∈ tables_1_3) (hg : goodWord c = true) : c ∈ GT := List.mem_filter.mpr ⟨List.mem_append_right _ (List.mem_append_right _ (List.mem_append_right _ (List.mem_append_left _ h))), hg⟩
theorem gmem4 {c : Cond} (h : c ∈ tables_1_4) (hg : goodWord c = true) : c ∈ GT := List.mem_filter.mpr ⟨List.mem_append_right _ (List.mem_append_right _ (List.mem_append_right _ (List.mem_append_right _ h))), hg⟩
theorem gt_good {w : Cond} (h : w ∈ GT) : goodWord w = true := (List.mem_filter.mp h).2
theorem gt_tbl {w : Cond} (h : w ∈ GT) : w ∈ lw_tbl := (List.mem_filter.mp h).1
theorem gt_in : GoodIn GT GT := fun w h => ⟨h, good_of_word (gt_good h)⟩

theorem gs_0 : Cond.selects "JointedShadows" (⟨"JointedShadows", "figureAt", "(I)LJointedShadows$Figure;"⟩ : MethodName) (⟨"JointedShadows", "figureAt", "(I)LJointedShadows$Figure;"⟩ : MethodName) ∈ GT := gmem0 (List.mem_of_getElem? (i := 0) rfl) rfl
theorem gs_1 : Cond.selects "JointedShadows" (⟨"JointedShadows", "limbsOfAll", "()I"⟩ : MethodName) (⟨"JointedShadows", "limbsOfAll", "()I"⟩ : MethodName) ∈ GT := gmem0 (List.mem_of_getElem? (i := 1) rfl) rfl
theorem gs_2 : Cond.selects "JointedShadows$Pose" (⟨"JointedShadows$Pose", "stand", "(LJointedShadows$Figure;I)V"⟩ : MethodName) (⟨"JointedShadows$Pose", "stand", "(LJointedShadows$Figure;I)V"⟩ : MethodName) ∈ GT := gmem0 (List.mem_of_getElem? (i := 2) rfl) rfl
theorem gs_3 : Cond.selects "JointedShadows$Pose" (⟨"JointedShadows$Pose", "follow", "(LJointedShadows$Move;I)V"⟩ : MethodName) (⟨"JointedShadows$Pose", "follow", "(LJointedShadows$Move;I)V"⟩ : MethodName) ∈ GT := gmem0 (List.mem_of_getElem? (i := 3) rfl) rfl
theorem gs_4 : Cond.selects "JointedShadows$Pose" (⟨"JointedShadows$Pose", "layPoints", "(LJointedShadows$Figure;)V"⟩ : MethodName) (⟨"JointedShadows$Pose", "layPoints", "(LJointedShadows$Figure;)V"⟩ : MethodName) ∈ GT := gmem0 (List.mem_of_getElem? (i := 4) rfl) rfl
theorem gs_5 : Cond.selects "JointedShadows$Pose" (⟨"JointedShadows$Pose", "layBox", "(I)V"⟩ : MethodName) (⟨"JointedShadows$Pose", "layBox", "(I)V"⟩ : MethodName) ∈ GT := gmem0 (List.mem_of_getElem? (i := 5) rfl) rfl
theorem gs_6 : Cond.selects "JointedShadows" (⟨"JointedShadows", "takePoses", "(LJointedShadows$Figure;LJointedShadows$Figure;I)V"⟩ : MethodName) (⟨"JointedShadows", "takePoses", "(LJointedShadows$Figure;LJointedShadows$Figure;I)V"⟩ : MethodName) ∈ GT := gmem0 (List.mem_of_getElem? (i := 6) rfl) rfl
theorem gs_7 : Cond.selects "JointedShadows" (⟨"JointedShadows", "crossingLimbs", "(LJointedShadows$Figure;LJointedShadows$Figure;I)I"⟩ : MethodName) (⟨"JointedShadows", "crossingLimbs", "(LJointedShadows$Figure;LJointedShadows$Figure;I)I"⟩ : MethodName) ∈ GT := gmem0 (List.mem_of_getElem? (i := 7) rfl) rfl
theorem gs_8 : Cond.selects "JointedShadows$Segment" (⟨"JointedShadows$Segment", "lineMeets", "(LJointedShadows$Segment;)Z"⟩ : MethodName) (⟨"JointedShadows$Segment", "lineMeets", "(LJointedShadows$Segment;)Z"⟩ : MethodName) ∈ GT := gmem0 (List.mem_of_getElem? (i := 8) rfl) rfl
theorem gs_9 : Cond.selects "JointedShadows$Segment" (⟨"JointedShadows$Segment", "side", "(JJ)I"⟩ : MethodName) (⟨"JointedShadows$Segment", "side", "(JJ)I"⟩ : MethodName) ∈ GT := gmem0 (List.mem_of_getElem? (i := 9) rfl) rfl
theorem gs_10 : Cond.selects "JointedShadows" (⟨"JointedShadows", "isHigher", "(LJointedShadows$Figure;LJointedShadows$Figure;I)Z"⟩ : MethodName) (⟨"JointedShadows", "isHigher", "(LJointedShadows$Figure;LJointedShadows$Figure;I)Z"⟩ : MethodName) ∈ GT := gmem0 (List.mem_of_getElem? (i := 10) rfl) rfl
theorem gs_11 : Cond.selects "JointedShadows" (⟨"JointedShadows", "handsOfAll", "(I)I"⟩ : MethodName) (⟨"JointedShadows", "handsOfAll", "(I)I"⟩ : MethodName) ∈ GT := gmem0 (List.mem_of_getElem? (i := 11) rfl) rfl
theorem gs_12 : Cond.selects "JointedShadows$Scenes" (⟨"JointedShadows$Scenes", "fillLeast", "()V"⟩ : MethodName) (⟨"JointedShadows$Scenes", "fillLeast", "()V"⟩ : MethodName) ∈ GT := gmem0 (List.mem_of_getElem? (i := 12) rfl) rfl
theorem gs_13 : Cond.selects "JointedShadows$Scenes" (⟨"JointedShadows$Scenes", "allButFirst", "()I"⟩ : MethodName) (⟨"JointedShadows$Scenes", "allButFirst", "()I"⟩ : MethodName) ∈ GT := gmem0 (List.mem_of_getElem? (i := 13) rfl) rfl
theorem gs_14 : Cond.selects "JointedShadows$Scenes" (⟨"JointedShadows$Scenes", "firstBestNext", "(II)I"⟩ : MethodName) (⟨"JointedShadows$Scenes", "firstBestNext", "(II)I"⟩ : MethodName) ∈ GT := gmem0 (List.mem_of_getElem? (i := 14) rfl) rfl
theorem gs_15 : Cond.selects "JointedShadows$Scenes" (⟨"JointedShadows$Scenes", "costVia", "(III)I"⟩ : MethodName) (⟨"JointedShadows$Scenes", "costVia", "(III)I"⟩ : MethodName) ∈ GT := gmem0 (List.mem_of_getElem? (i := 15) rfl) rfl
theorem gs_16 : Cond.selects "JointedShadows$Scenes" (⟨"JointedShadows$Scenes", "least", "(II)I"⟩ : MethodName) (⟨"JointedShadows$Scenes", "least", "(II)I"⟩ : MethodName) ∈ GT := gmem0 (List.mem_of_getElem? (i := 16) rfl) rfl
theorem gs_17 : Cond.selects "JointedShadowsModel" (⟨"JointedShadowsModel", "noFigure", "(I)Z"⟩ : MethodName) (⟨"JointedShadowsModel", "noFigure", "(I)Z"⟩ : MethodName) ∈ GT := gmem0 (List.mem_of_getElem? (i := 17) rfl) rfl
theorem gs_18 : Cond.selects "JointedShadowsModel" (⟨"JointedShadowsModel", "noLimb", "(II)Z"⟩ : MethodName) (⟨"JointedShadowsModel", "noLimb", "(II)Z"⟩ : MethodName) ∈ GT := gmem0 (List.mem_of_getElem? (i := 18) rfl) rfl
theorem gs_19 : Cond.selects "JointedShadowsModel" (⟨"JointedShadowsModel", "addMove", "(IIIIII)I"⟩ : MethodName) (⟨"JointedShadowsModel", "addMove", "(IIIIII)I"⟩ : MethodName) ∈ GT := gmem0 (List.mem_of_getElem? (i := 19) rfl) rfl
theorem gs_20 : Cond.selects "JointedShadowsModel" (⟨"JointedShadowsModel", "goTo", "(I)V"⟩ : MethodName) (⟨"JointedShadowsModel", "goTo", "(I)V"⟩ : MethodName) ∈ GT := gmem0 (List.mem_of_getElem? (i := 20) rfl) rfl
theorem gs_21 : Cond.selects "JointedShadowsModel" (⟨"JointedShadowsModel", "inStage", "(I)I"⟩ : MethodName) (⟨"JointedShadowsModel", "inStage", "(I)I"⟩ : MethodName) ∈ GT := gmem0 (List.mem_of_getElem? (i := 21) rfl) rfl
theorem gs_22 : Cond.selects "JointedShadowsModel" (⟨"JointedShadowsModel", "doMove", "(I)V"⟩ : MethodName) (⟨"JointedShadowsModel", "doMove", "(I)V"⟩ : MethodName) ∈ GT := gmem0 (List.mem_of_getElem? (i := 22) rfl) rfl
theorem gs_23 : Cond.selects "JointedShadowsModel" (⟨"JointedShadowsModel", "layPoints", "(I)V"⟩ : MethodName) (⟨"JointedShadowsModel", "layPoints", "(I)V"⟩ : MethodName) ∈ GT := gmem0 (List.mem_of_getElem? (i := 23) rfl) rfl
theorem gs_24 : Cond.selects "JointedShadowsModel" (⟨"JointedShadowsModel", "measure", "(II)J"⟩ : MethodName) (⟨"JointedShadowsModel", "measure", "(II)J"⟩ : MethodName) ∈ GT := gmem0 (List.mem_of_getElem? (i := 24) rfl) rfl
theorem gs_25 : Cond.selects "JointedShadowsModel" (⟨"JointedShadowsModel", "reach", "(IZI)J"⟩ : MethodName) (⟨"JointedShadowsModel", "reach", "(IZI)J"⟩ : MethodName) ∈ GT := gmem0 (List.mem_of_getElem? (i := 25) rfl) rfl
theorem gs_26 : Cond.selects "JointedShadowsModel" (⟨"JointedShadowsModel", "along", "(IIII)J"⟩ : MethodName) (⟨"JointedShadowsModel", "along", "(IIII)J"⟩ : MethodName) ∈ GT := gmem0 (List.mem_of_getElem? (i := 26) rfl) rfl
theorem gs_27 : Cond.selects "JointedShadowsModel" (⟨"JointedShadowsModel", "twoBarred", "(III)I"⟩ : MethodName) (⟨"JointedShadowsModel", "twoBarred", "(III)I"⟩ : MethodName) ∈ GT := gmem0 (List.mem_of_getElem? (i := 27) rfl) rfl
theorem gs_28 : Cond.selects "JointedShadowsModel" (⟨"JointedShadowsModel", "crossingsNow", "(II)I"⟩ : MethodName) (⟨"JointedShadowsModel", "crossingsNow", "(II)I"⟩ : MethodName) ∈ GT := gmem0 (List.mem_of_getElem? (i := 28) rfl) rfl
theorem gs_29 : Cond.selects "JointedShadowsModel" (⟨"JointedShadowsModel", "layEnds", "(IIIJ)V"⟩ : MethodName) (⟨"JointedShadowsModel", "layEnds", "(IIIJ)V"⟩ : MethodName) ∈ GT := gmem0 (List.mem_of_getElem? (i := 29) rfl) rfl
theorem gs_30 : Cond.selects "JointedShadowsModel" (⟨"JointedShadowsModel", "doMeet", "()Z"⟩ : MethodName) (⟨"JointedShadowsModel", "doMeet", "()Z"⟩ : MethodName) ∈ GT := gmem0 (List.mem_of_getElem? (i := 30) rfl) rfl
theorem gs_31 : Cond.selects "JointedShadowsModel" (⟨"JointedShadowsModel", "isOnSegment", "(II)Z"⟩ : MethodName) (⟨"JointedShadowsModel", "isOnSegment", "(II)Z"⟩ : MethodName) ∈ GT := gmem0 (List.mem_of_getElem? (i := 31) rfl) rfl
theorem gs_32 : Cond.selects "JointedShadowsModel" (⟨"JointedShadowsModel", "sideOf", "(II)I"⟩ : MethodName) (⟨"JointedShadowsModel", "sideOf", "(II)I"⟩ : MethodName) ∈ GT := gmem0 (List.mem_of_getElem? (i := 32) rfl) rfl
theorem gs_33 : Cond.selects "JointedShadowsModel" (⟨"JointedShadowsModel", "isWithin", "(IJJ)Z"⟩ : MethodName) (⟨"JointedShadowsModel", "isWithin", "(IJJ)Z"⟩ : MethodName) ∈ GT := gmem0 (List.mem_of_getElem? (i := 33) rfl) rfl
theorem gs_34 : Cond.selects "JointedShadowsModel" (⟨"JointedShadowsModel", "handsIn", "(I)I"⟩ : MethodName) (⟨"JointedShadowsModel", "handsIn", "(I)I"⟩ : MethodName) ∈ GT := gmem0 (List.mem_of_getElem? (i := 34) rfl) rfl
theorem gs_35 : Cond.selects "JointedShadowsModel" (⟨"JointedShadowsModel", "handsOf", "(II)I"⟩ : MethodName) (⟨"JointedShadowsModel", "handsOf", "(II)I"⟩ : MethodName) ∈ GT := gmem0 (List.mem_of_getElem? (i := 35) rfl) rfl
theorem gs_36 : Cond.selects "JointedShadowsModel" (⟨"JointedShadowsModel", "activeOf", "(II)I"⟩ : MethodName) (⟨"JointedShadowsModel", "activeOf", "(II)I"⟩ : MethodName) ∈ GT := gmem0 (List.mem_of_getElem? (i := 36) rfl) rfl
theorem gs_37 : Cond.selects "JointedShadowsModel" (⟨"JointedShadowsModel", "findOrder", "()I"⟩ : MethodName) (⟨"JointedShadowsModel", "findOrder", "()I"⟩ : MethodName) ∈ GT := gmem0 (List.mem_of_getElem? (i := 37) rfl) rfl
theorem gs_38 : Cond.selects "JointedShadowsModel" (⟨"JointedShadowsModel", "costNow", "()I"⟩ : MethodName) (⟨"JointedShadowsModel", "costNow", "()I"⟩ : MethodName) ∈ GT := gmem0 (List.mem_of_getElem? (i := 38) rfl) rfl
theorem gs_39 : Cond.selects "JointedShadowsModel" (⟨"JointedShadowsModel", "nextOrder", "()Z"⟩ : MethodName) (⟨"JointedShadowsModel", "nextOrder", "()Z"⟩ : MethodName) ∈ GT := gmem0 (List.mem_of_getElem? (i := 39) rfl) rfl
theorem gs_40 : Cond.selects "JointedShadowsModel" (⟨"JointedShadowsModel", "exchange", "(II)V"⟩ : MethodName) (⟨"JointedShadowsModel", "exchange", "(II)V"⟩ : MethodName) ∈ GT := gmem0 (List.mem_of_getElem? (i := 40) rfl) rfl
theorem g1_0 : (Jvm.Cond.initialized "JointedShadowsLaw") ∈ GT := gmem1 (List.mem_of_getElem? (i := 0) rfl) rfl
theorem g1_1 : (Jvm.Cond.initialized "JointedShadows") ∈ GT := gmem1 (List.mem_of_getElem? (i := 1) rfl) rfl
theorem g1_2 : (Jvm.Cond.initialized "JointedShadows$Script") ∈ GT := gmem1 (List.mem_of_getElem? (i := 2) rfl) rfl
theorem g1_3 : (Jvm.Cond.initialized "JointedShadows$Scenes") ∈ GT := gmem1 (List.mem_of_getElem? (i := 3) rfl) rfl
theorem g1_4 : (Jvm.Cond.initialized "JointedShadows$Pose") ∈ GT := gmem1 (List.mem_of_getElem? (i := 4) rfl) rfl
theorem g1_5 : (Jvm.Cond.initialized "JointedShadows$Segment") ∈ GT := gmem1 (List.mem_of_getElem? (i := 5) rfl) rfl
theorem g1_6 : (Jvm.Cond.initialized "JointedShadowsModel") ∈ GT := gmem1 (List.mem_of_getElem? (i := 6) rfl) rfl
theorem g1_7 : (Jvm.Cond.initialized "JointedShadows$Figure") ∈ GT := gmem1 (List.mem_of_getElem? (i := 7) rfl) rfl
theorem g1_8 : (Jvm.Cond.initialized "JointedShadows$Move") ∈ GT := gmem1 (List.mem_of_getElem? (i := 8) rfl) rfl
theorem g1_9 : (Jvm.Cond.initialized "java/lang/Math") ∈ GT := gmem1 (List.mem_of_getElem? (i := 9) rfl) rfl
theorem g1_10 : (Jvm.Cond.initialized "java/lang/System") ∈ GT := gmem1 (List.mem_of_getElem? (i := 10) rfl) rfl
theorem g1_11 : (Jvm.Cond.initialized "java/lang/Long") ∈ GT := gmem1 (List.mem_of_getElem? (i := 11) rfl) rfl
theorem g1_12 : (Jvm.Cond.initialized "java/lang/Integer") ∈ GT := gmem1 (List.mem_of_getElem? (i := 12) rfl) rfl
theorem g1_13 : (Jvm.Cond.classLink "JointedShadowsLaw" (7 : Nat) "JointedShadows") ∈ GT := gmem1 (List.mem_of_getElem? (i := 13) rfl) rfl
theorem g1_14 : (Jvm.Cond.instantiable "JointedShadows" (9 : Nat)) ∈ GT := gmem1 (List.mem_of_getElem? (i := 14) rfl) rfl
theorem g1_15 : (Jvm.Cond.methodLink "JointedShadowsLaw" (9 : Nat) ({ cls := "JointedShadows", name := "<init>", desc := "()V" } : Jvm.MethodName)) ∈ GT := gmem1 (List.mem_of_getElem? (i := 15) rfl) rfl
theorem g1_16 : (Jvm.Cond.instanceMethod ({ cls := "JointedShadows", name := "<init>", desc := "()V" } : Jvm.MethodName)) ∈ GT := gmem1 (List.mem_of_getElem? (i := 16) rfl) rfl
theorem g1_17 : (Jvm.Cond.code ({ cls := "JointedShadows", name := "<init>", desc := "()V" } : Jvm.MethodName) prog_1_method_1_code (1 : Nat) (Option.none : Option Jvm.ClassFile.FieldType)) ∈ GT := gmem1 (List.mem_of_getElem? (i := 17) rfl) rfl
theorem g1_18 : (Jvm.Cond.methodLink "JointedShadows" (3 : Nat) ({ cls := "java/lang/Object", name := "<init>", desc := "()V" } : Jvm.MethodName)) ∈ GT := gmem1 (List.mem_of_getElem? (i := 18) rfl) rfl
theorem g1_19 : (Jvm.Cond.instanceMethod ({ cls := "java/lang/Object", name := "<init>", desc := "()V" } : Jvm.MethodName)) ∈ GT := gmem1 (List.mem_of_getElem? (i := 19) rfl) rfl
theorem g1_20 : (Jvm.Cond.code ({ cls := "java/lang/Object", name := "<init>", desc := "()V" } : Jvm.MethodName) object_method_1_code (1 : Nat) (Option.none : Option Jvm.ClassFile.FieldType)) ∈ GT := gmem1 (List.mem_of_getElem? (i := 20) rfl) rfl
theorem g1_21 : (Jvm.Cond.classLink "JointedShadows" (18 : Nat) "JointedShadows$Figure") ∈ GT := gmem1 (List.mem_of_getElem? (i := 21) rfl) rfl
theorem g1_23 : (Jvm.Cond.classLink "JointedShadows" (24 : Nat) "JointedShadows$Script") ∈ GT := gmem1 (List.mem_of_getElem? (i := 23) rfl) rfl
theorem g1_24 : (Jvm.Cond.instantiable "JointedShadows$Script" (2 : Nat)) ∈ GT := gmem1 (List.mem_of_getElem? (i := 24) rfl) rfl
theorem g1_26 : (Jvm.Cond.instanceMethod ({ cls := "JointedShadows$Script", name := "<init>", desc := "()V" } : Jvm.MethodName)) ∈ GT := gmem1 (List.mem_of_getElem? (i := 26) rfl) rfl
theorem g1_27 : (Jvm.Cond.code ({ cls := "JointedShadows$Script", name := "<init>", desc := "()V" } : Jvm.MethodName) prog_6_method_1_code (1 : Nat) (Option.none : Option Jvm.ClassFile.FieldType)) ∈ GT := gmem1 (List.mem_of_getElem? (i := 27) rfl) rfl
theorem g1_28 : (Jvm.Cond.methodLink "JointedShadows$Script" (3 : Nat) ({ cls := "java/lang/Object", name := "<init>", desc := "()V" } : Jvm.MethodName)) ∈ GT := gmem1 (List.mem_of_getElem? (i := 28) rfl) rfl
theorem g1_29 : (Jvm.Cond.classLink "JointedShadows$Script" (9 : Nat) "JointedShadows$Move") ∈ GT := gmem1 (List.mem_of_getElem? (i := 29) rfl) rfl
theorem g1_31 : (Jvm.Cond.fieldLink "JointedShadows$Script" (11 : Nat) "JointedShadows$Script" "moves" "[LJointedShadows$Move;") ∈ GT := gmem1 (List.mem_of_getElem? (i := 31) rfl) rfl
theorem g1_32 : (Jvm.Cond.fieldLink "JointedShadows$Pose" (44 : Nat) "JointedShadows$Script" "moves" "[LJointedShadows$Move;") ∈ GT := gmem1 (List.mem_of_getElem? (i := 32) rfl) rfl
theorem g1_33 : (Jvm.Cond.fieldLink "JointedShadows$Script" (17 : Nat) "JointedShadows$Script" "size" "I") ∈ GT := gmem1 (List.mem_of_getElem? (i := 33) rfl) rfl
theorem g1_34 : (Jvm.Cond.fieldLink "JointedShadows" (77 : Nat) "JointedShadows$Script" "size" "I") ∈ GT := gmem1 (List.mem_of_getElem? (i := 34) rfl) rfl
theorem g1_35 : (Jvm.Cond.laysFinal "JointedShadows$Script" "JointedShadows$Script" "moves" "[LJointedShadows$Move;") ∈ GT := gmem1 (List.mem_of_getElem? (i := 35) rfl) rfl
theorem g1_36 : (Jvm.Cond.soleField "JointedShadows$Script" "moves") ∈ GT := gmem1 (List.mem_of_getElem? (i := 36) rfl) rfl
theorem g1_37 : (Jvm.Cond.lays "JointedShadows$Script" "JointedShadows$Script" "size" "I") ∈ GT := gmem1 (List.mem_of_getElem? (i := 37) rfl) rfl
theorem g1_38 : (Jvm.Cond.soleField "JointedShadows$Script" "size") ∈ GT := gmem1 (List.mem_of_getElem? (i := 38) rfl) rfl
theorem g1_39 : (Jvm.Cond.superclass "JointedShadows$Script" "java/lang/Object") ∈ GT := gmem1 (List.mem_of_getElem? (i := 39) rfl) rfl
theorem g1_40 : (Jvm.Cond.classLink "JointedShadows" (31 : Nat) "JointedShadows$Scenes") ∈ GT := gmem1 (List.mem_of_getElem? (i := 40) rfl) rfl
theorem g1_41 : (Jvm.Cond.instantiable "JointedShadows$Scenes" (3 : Nat)) ∈ GT := gmem1 (List.mem_of_getElem? (i := 41) rfl) rfl
theorem g1_43 : (Jvm.Cond.instanceMethod ({ cls := "JointedShadows$Scenes", name := "<init>", desc := "()V" } : Jvm.MethodName)) ∈ GT := gmem1 (List.mem_of_getElem? (i := 43) rfl) rfl
theorem g1_44 : (Jvm.Cond.code ({ cls := "JointedShadows$Scenes", name := "<init>", desc := "()V" } : Jvm.MethodName) prog_5_method_1_code (1 : Nat) (Option.none : Option Jvm.ClassFile.FieldType)) ∈ GT := gmem1 (List.mem_of_getElem? (i := 44) rfl) rfl
theorem g1_45 : (Jvm.Cond.methodLink "JointedShadows$Scenes" (3 : Nat) ({ cls := "java/lang/Object", name := "<init>", desc := "()V" } : Jvm.MethodName)) ∈ GT := gmem1 (List.mem_of_getElem? (i := 45) rfl) rfl
theorem g1_46 : (Jvm.Cond.fieldLink "JointedShadows$Scenes" (9 : Nat) "JointedShadows$Scenes" "cast" "[I") ∈ GT := gmem1 (List.mem_of_getElem? (i := 46) rfl) rfl
theorem g1_47 : (Jvm.Cond.fieldLink "JointedShadows$Scenes" (15 : Nat) "JointedShadows$Scenes" "size" "I") ∈ GT := gmem1 (List.mem_of_getElem? (i := 47) rfl) rfl
theorem g1_48 : (Jvm.Cond.fieldLink "JointedShadows" (80 : Nat) "JointedShadows$Scenes" "size" "I") ∈ GT := gmem1 (List.mem_of_getElem? (i := 48) rfl) rfl
theorem g1_49 : (Jvm.Cond.fieldLink "JointedShadows$Scenes" (19 : Nat) "JointedShadows$Scenes" "leastAfter" "[I") ∈ GT := gmem1 (List.mem_of_getElem? (i := 49) rfl) rfl
theorem g1_50 : (Jvm.Cond.laysFinal "JointedShadows$Scenes" "JointedShadows$Scenes" "cast" "[I") ∈ GT := gmem1 (List.mem_of_getElem? (i := 50) rfl) rfl
theorem g1_51 : (Jvm.Cond.soleField "JointedShadows$Scenes" "cast") ∈ GT := gmem1 (List.mem_of_getElem? (i := 51) rfl) rfl
theorem g1_52 : (Jvm.Cond.lays "JointedShadows$Scenes" "JointedShadows$Scenes" "size" "I") ∈ GT := gmem1 (List.mem_of_getElem? (i := 52) rfl) rfl
theorem g1_53 : (Jvm.Cond.soleField "JointedShadows$Scenes" "size") ∈ GT := gmem1 (List.mem_of_getElem? (i := 53) rfl) rfl
theorem g1_54 : (Jvm.Cond.laysFinal "JointedShadows$Scenes" "JointedShadows$Scenes" "leastAfter" "[I") ∈ GT := gmem1 (List.mem_of_getElem? (i := 54) rfl) rfl
theorem g1_55 : (Jvm.Cond.soleField "JointedShadows$Scenes" "leastAfter") ∈ GT := gmem1 (List.mem_of_getElem? (i := 55) rfl) rfl
theorem g1_56 : (Jvm.Cond.superclass "JointedShadows$Scenes" "java/lang/Object") ∈ GT := gmem1 (List.mem_of_getElem? (i := 56) rfl) rfl
theorem g1_57 : (Jvm.Cond.arrayClass Jvm.ClassFile.FieldType.int) ∈ GT := gmem1 (List.mem_of_getElem? (i := 57) rfl) rfl
theorem g1_58 : (Jvm.Cond.classLink "JointedShadows" (38 : Nat) "JointedShadows$Pose") ∈ GT := gmem1 (List.mem_of_getElem? (i := 58) rfl) rfl
theorem g1_59 : (Jvm.Cond.instantiable "JointedShadows$Pose" (9 : Nat)) ∈ GT := gmem1 (List.mem_of_getElem? (i := 59) rfl) rfl
theorem g1_61 : (Jvm.Cond.instanceMethod ({ cls := "JointedShadows$Pose", name := "<init>", desc := "()V" } : Jvm.MethodName)) ∈ GT := gmem1 (List.mem_of_getElem? (i := 61) rfl) rfl
theorem g1_62 : (Jvm.Cond.code ({ cls := "JointedShadows$Pose", name := "<init>", desc := "()V" } : Jvm.MethodName) prog_4_method_1_code (1 : Nat) (Option.none : Option Jvm.ClassFile.FieldType)) ∈ GT := gmem1 (List.mem_of_getElem? (i := 62) rfl) rfl
theorem g1_63 : (Jvm.Cond.methodLink "JointedShadows$Pose" (3 : Nat) ({ cls := "java/lang/Object", name := "<init>", desc := "()V" } : Jvm.MethodName)) ∈ GT := gmem1 (List.mem_of_getElem? (i := 63) rfl) rfl
theorem g1_64 : (Jvm.Cond.fieldLink "JointedShadows$Pose" (9 : Nat) "JointedShadows$Pose" "direction" "[I") ∈ GT := gmem1 (List.mem_of_getElem? (i := 64) rfl) rfl
theorem g1_65 : (Jvm.Cond.fieldLink "JointedShadows$Pose" (15 : Nat) "JointedShadows$Pose" "x" "[I") ∈ GT := gmem1 (List.mem_of_getElem? (i := 65) rfl) rfl
theorem g1_66 : (Jvm.Cond.fieldLink "JointedShadows$Segment" (22 : Nat) "JointedShadows$Pose" "x" "[I") ∈ GT := gmem1 (List.mem_of_getElem? (i := 66) rfl) rfl
theorem g1_67 : (Jvm.Cond.fieldLink "JointedShadows" (122 : Nat) "JointedShadows$Pose" "x" "[I") ∈ GT := gmem1 (List.mem_of_getElem? (i := 67) rfl) rfl
theorem g1_68 : (Jvm.Cond.fieldLink "JointedShadows$Pose" (18 : Nat) "JointedShadows$Pose" "y" "[I") ∈ GT := gmem1 (List.mem_of_getElem? (i := 68) rfl) rfl
theorem g1_69 : (Jvm.Cond.fieldLink "JointedShadows$Segment" (28 : Nat) "JointedShadows$Pose" "y" "[I") ∈ GT := gmem1 (List.mem_of_getElem? (i := 69) rfl) rfl
theorem g1_70 : (Jvm.Cond.fieldLink "JointedShadows" (126 : Nat) "JointedShadows$Pose" "y" "[I") ∈ GT := gmem1 (List.mem_of_getElem? (i := 70) rfl) rfl
theorem g1_71 : (Jvm.Cond.fieldLink "JointedShadows$Pose" (21 : Nat) "JointedShadows$Pose" "total" "[I") ∈ GT := gmem1 (List.mem_of_getElem? (i := 71) rfl) rfl
theorem g1_72 : (Jvm.Cond.fieldLink "JointedShadows" (129 : Nat) "JointedShadows$Pose" "total" "[I") ∈ GT := gmem1 (List.mem_of_getElem? (i := 72) rfl) rfl
theorem g1_73 : (Jvm.Cond.fieldLink "JointedShadows$Pose" (24 : Nat) "JointedShadows$Pose" "plane" "I") ∈ GT := gmem1 (List.mem_of_getElem? (i := 73) rfl) rfl
theorem g1_74 : (Jvm.Cond.fieldLink "JointedShadows" (132 : Nat) "JointedShadows$Pose" "plane" "I") ∈ GT := gmem1 (List.mem_of_getElem? (i := 74) rfl) rfl
theorem g1_75 : (Jvm.Cond.fieldLink "JointedShadows$Pose" (28 : Nat) "JointedShadows$Pose" "left" "I") ∈ GT := gmem1 (List.mem_of_getElem? (i := 75) rfl) rfl
theorem g1_76 : (Jvm.Cond.fieldLink "JointedShadows" (156 : Nat) "JointedShadows$Pose" "left" "I") ∈ GT := gmem1 (List.mem_of_getElem? (i := 76) rfl) rfl
theorem g1_77 : (Jvm.Cond.fieldLink "JointedShadows$Pose" (31 : Nat) "JointedShadows$Pose" "right" "I") ∈ GT := gmem1 (List.mem_of_getElem? (i := 77) rfl) rfl
theorem g1_78 : (Jvm.Cond.fieldLink "JointedShadows" (147 : Nat) "JointedShadows$Pose" "right" "I") ∈ GT := gmem1 (List.mem_of_getElem? (i := 78) rfl) rfl
theorem g1_79 : (Jvm.Cond.fieldLink "JointedShadows$Pose" (34 : Nat) "JointedShadows$Pose" "bottom" "I") ∈ GT := gmem1 (List.mem_of_getElem? (i := 79) rfl) rfl
theorem g1_80 : (Jvm.Cond.fieldLink "JointedShadows" (165 : Nat) "JointedShadows$Pose" "bottom" "I") ∈ GT := gmem1 (List.mem_of_getElem? (i := 80) rfl) rfl
theorem g1_81 : (Jvm.Cond.fieldLink "JointedShadows$Pose" (37 : Nat) "JointedShadows$Pose" "top" "I") ∈ GT := gmem1 (List.mem_of_getElem? (i := 81) rfl) rfl
theorem g1_82 : (Jvm.Cond.fieldLink "JointedShadows" (162 : Nat) "JointedShadows$Pose" "top" "I") ∈ GT := gmem1 (List.mem_of_getElem? (i := 82) rfl) rfl
theorem g1_83 : (Jvm.Cond.laysFinal "JointedShadows$Pose" "JointedShadows$Pose" "direction" "[I") ∈ GT := gmem1 (List.mem_of_getElem? (i := 83) rfl) rfl
theorem g1_84 : (Jvm.Cond.soleField "JointedShadows$Pose" "direction") ∈ GT := gmem1 (List.mem_of_getElem? (i := 84) rfl) rfl
theorem g1_85 : (Jvm.Cond.laysFinal "JointedShadows$Pose" "JointedShadows$Pose" "x" "[I") ∈ GT := gmem1 (List.mem_of_getElem? (i := 85) rfl) rfl
theorem g1_86 : (Jvm.Cond.soleField "JointedShadows$Pose" "x") ∈ GT := gmem1 (List.mem_of_getElem? (i := 86) rfl) rfl
theorem g1_87 : (Jvm.Cond.laysFinal "JointedShadows$Pose" "JointedShadows$Pose" "y" "[I") ∈ GT := gmem1 (List.mem_of_getElem? (i := 87) rfl) rfl
theorem g1_88 : (Jvm.Cond.soleField "JointedShadows$Pose" "y") ∈ GT := gmem1 (List.mem_of_getElem? (i := 88) rfl) rfl
theorem g1_89 : (Jvm.Cond.laysFinal "JointedShadows$Pose" "JointedShadows$Pose" "total" "[I") ∈ GT := gmem1 (List.mem_of_getElem? (i := 89) rfl) rfl
theorem g1_90 : (Jvm.Cond.soleField "JointedShadows$Pose" "total") ∈ GT := gmem1 (List.mem_of_getElem? (i := 90) rfl) rfl
theorem g1_91 : (Jvm.Cond.lays "JointedShadows$Pose" "JointedShadows$Pose" "plane" "I") ∈ GT := gmem1 (List.mem_of_getElem? (i := 91) rfl) rfl
theorem g1_92 : (Jvm.Cond.soleField "JointedShadows$Pose" "plane") ∈ GT := gmem1 (List.mem_of_getElem? (i := 92) rfl) rfl
theorem g1_93 : (Jvm.Cond.lays "JointedShadows$Pose" "JointedShadows$Pose" "left" "I") ∈ GT := gmem1 (List.mem_of_getElem? (i := 93) rfl) rfl
theorem g1_94 : (Jvm.Cond.soleField "JointedShadows$Pose" "left") ∈ GT := gmem1 (List.mem_of_getElem? (i := 94) rfl) rfl
theorem g1_95 : (Jvm.Cond.lays "JointedShadows$Pose" "JointedShadows$Pose" "right" "I") ∈ GT := gmem1 (List.mem_of_getElem? (i := 95) rfl) rfl
theorem g1_96 : (Jvm.Cond.soleField "JointedShadows$Pose" "right") ∈ GT := gmem1 (List.mem_of_getElem? (i := 96) rfl) rfl
theorem g1_97 : (Jvm.Cond.lays "JointedShadows$Pose" "JointedShadows$Pose" "bottom" "I") ∈ GT := gmem1 (List.mem_of_getElem? (i := 97) rfl) rfl
theorem g1_98 : (Jvm.Cond.soleField "JointedShadows$Pose" "bottom") ∈ GT := gmem1 (List.mem_of_getElem? (i := 98) rfl) rfl
theorem g1_99 : (Jvm.Cond.lays "JointedShadows$Pose" "JointedShadows$Pose" "top" "I") ∈ GT := gmem1 (List.mem_of_getElem? (i := 99) rfl) rfl
theorem g1_100 : (Jvm.Cond.soleField "JointedShadows$Pose" "top") ∈ GT := gmem1 (List.mem_of_getElem? (i := 100) rfl) rfl
theorem g1_101 : (Jvm.Cond.superclass "JointedShadows$Pose" "java/lang/Object") ∈ GT := gmem1 (List.mem_of_getElem? (i := 101) rfl) rfl
theorem g1_102 : (Jvm.Cond.classLink "JointedShadows" (48 : Nat) "JointedShadows$Segment") ∈ GT := gmem1 (List.mem_of_getElem? (i := 102) rfl) rfl
theorem g1_103 : (Jvm.Cond.instantiable "JointedShadows$Segment" (4 : Nat)) ∈ GT := gmem1 (List.mem_of_getElem? (i := 103) rfl) rfl
theorem g1_105 : (Jvm.Cond.instanceMethod ({ cls := "JointedShadows$Segment", name := "<init>", desc := "()V" } : Jvm.MethodName)) ∈ GT := gmem1 (List.mem_of_getElem? (i := 105) rfl) rfl
theorem g1_106 : (Jvm.Cond.code ({ cls := "JointedShadows$Segment", name := "<init>", desc := "()V" } : Jvm.MethodName) prog_7_method_1_code (1 : Nat) (Option.none : Option Jvm.ClassFile.FieldType)) ∈ GT := gmem1 (List.mem_of_getElem? (i := 106) rfl) rfl
theorem g1_107 : (Jvm.Cond.methodLink "JointedShadows$Segment" (1 : Nat) ({ cls := "java/lang/Object", name := "<init>", desc := "()V" } : Jvm.MethodName)) ∈ GT := gmem1 (List.mem_of_getElem? (i := 107) rfl) rfl
theorem g1_108 : (Jvm.Cond.fieldLink "JointedShadows$Segment" (7 : Nat) "JointedShadows$Segment" "startX" "J") ∈ GT := gmem1 (List.mem_of_getElem? (i := 108) rfl) rfl
theorem g1_109 : (Jvm.Cond.fieldLink "JointedShadows$Segment" (13 : Nat) "JointedShadows$Segment" "startY" "J") ∈ GT := gmem1 (List.mem_of_getElem? (i := 109) rfl) rfl
theorem g1_110 : (Jvm.Cond.fieldLink "JointedShadows$Segment" (16 : Nat) "JointedShadows$Segment" "endX" "J") ∈ GT := gmem1 (List.mem_of_getElem? (i := 110) rfl) rfl
theorem g1_111 : (Jvm.Cond.fieldLink "JointedShadows$Segment" (19 : Nat) "JointedShadows$Segment" "endY" "J") ∈ GT := gmem1 (List.mem_of_getElem? (i := 111) rfl) rfl
theorem g1_112 : (Jvm.Cond.lays "JointedShadows$Segment" "JointedShadows$Segment" "startX" "J") ∈ GT := gmem1 (List.mem_of_getElem? (i := 112) rfl) rfl
theorem g1_113 : (Jvm.Cond.soleField "JointedShadows$Segment" "startX") ∈ GT := gmem1 (List.mem_of_getElem? (i := 113) rfl) rfl
theorem g1_114 : (Jvm.Cond.lays "JointedShadows$Segment" "JointedShadows$Segment" "startY" "J") ∈ GT := gmem1 (List.mem_of_getElem? (i := 114) rfl) rfl
theorem g1_115 : (Jvm.Cond.soleField "JointedShadows$Segment" "startY") ∈ GT := gmem1 (List.mem_of_getElem? (i := 115) rfl) rfl
theorem g1_116 : (Jvm.Cond.lays "JointedShadows$Segment" "JointedShadows$Segment" "endX" "J") ∈ GT := gmem1 (List.mem_of_getElem? (i := 116) rfl) rfl
theorem g1_117 : (Jvm.Cond.soleField "JointedShadows$Segment" "endX") ∈ GT := gmem1 (List.mem_of_getElem? (i := 117) rfl) rfl
theorem g1_118 : (Jvm.Cond.lays "JointedShadows$Segment" "JointedShadows$Segment" "endY" "J") ∈ GT := gmem1 (List.mem_of_getElem? (i := 118) rfl) rfl
theorem g1_119 : (Jvm.Cond.soleField "JointedShadows$Segment" "endY") ∈ GT := gmem1 (List.mem_of_getElem? (i := 119) rfl) rfl
theorem g1_120 : (Jvm.Cond.superclass "JointedShadows$Segment" "java/lang/Object") ∈ GT := gmem1 (List.mem_of_getElem? (i := 120) rfl) rfl
theorem g1_121 : (Jvm.Cond.fieldLink "JointedShadows" (9 : Nat) "JointedShadows" "screenDistance" "I") ∈ GT := gmem1 (List.mem_of_getElem? (i := 121) rfl) rfl
theorem g1_122 : (Jvm.Cond.fieldLink "JointedShadows" (15 : Nat) "JointedShadows" "figureCount" "I") ∈ GT := gmem1 (List.mem_of_getElem? (i := 122) rfl) rfl
theorem g1_123 : (Jvm.Cond.fieldLink "JointedShadows" (20 : Nat) "JointedShadows" "figures" "[LJointedShadows$Figure;") ∈ GT := gmem1 (List.mem_of_getElem? (i := 123) rfl) rfl
theorem g1_124 : (Jvm.Cond.fieldLink "JointedShadows" (27 : Nat) "JointedShadows" "script" "LJointedShadows$Script;") ∈ GT := gmem1 (List.mem_of_getElem? (i := 124) rfl) rfl
theorem g1_125 : (Jvm.Cond.fieldLink "JointedShadows" (34 : Nat) "JointedShadows" "scenes" "LJointedShadows$Scenes;") ∈ GT := gmem1 (List.mem_of_getElem? (i := 125) rfl) rfl
theorem g1_126 : (Jvm.Cond.fieldLink "JointedShadows" (41 : Nat) "JointedShadows" "firstPose" "LJointedShadows$Pose;") ∈ GT := gmem1 (List.mem_of_getElem? (i := 126) rfl) rfl
theorem g1_127 : (Jvm.Cond.fieldLink "JointedShadows" (45 : Nat) "JointedShadows" "secondPose" "LJointedShadows$Pose;") ∈ GT := gmem1 (List.mem_of_getElem? (i := 127) rfl) rfl
theorem g1_128 : (Jvm.Cond.fieldLink "JointedShadows" (51 : Nat) "JointedShadows" "firstSegment" "LJointedShadows$Segment;") ∈ GT := gmem1 (List.mem_of_getElem? (i := 128) rfl) rfl
theorem g1_129 : (Jvm.Cond.fieldLink "JointedShadows" (55 : Nat) "JointedShadows" "secondSegment" "LJointedShadows$Segment;") ∈ GT := gmem1 (List.mem_of_getElem? (i := 129) rfl) rfl
theorem g1_130 : (Jvm.Cond.lays "JointedShadows" "JointedShadows" "screenDistance" "I") ∈ GT := gmem1 (List.mem_of_getElem? (i := 130) rfl) rfl
theorem g1_131 : (Jvm.Cond.soleField "JointedShadows" "screenDistance") ∈ GT := gmem1 (List.mem_of_getElem? (i := 131) rfl) rfl
theorem g1_132 : (Jvm.Cond.lays "JointedShadows" "JointedShadows" "figureCount" "I") ∈ GT := gmem1 (List.mem_of_getElem? (i := 132) rfl) rfl
theorem g1_133 : (Jvm.Cond.soleField "JointedShadows" "figureCount") ∈ GT := gmem1 (List.mem_of_getElem? (i := 133) rfl) rfl
theorem g1_134 : (Jvm.Cond.laysFinal "JointedShadows" "JointedShadows" "figures" "[LJointedShadows$Figure;") ∈ GT := gmem1 (List.mem_of_getElem? (i := 134) rfl) rfl
theorem g1_135 : (Jvm.Cond.soleField "JointedShadows" "figures") ∈ GT := gmem1 (List.mem_of_getElem? (i := 135) rfl) rfl
theorem g1_136 : (Jvm.Cond.laysFinal "JointedShadows" "JointedShadows" "script" "LJointedShadows$Script;") ∈ GT := gmem1 (List.mem_of_getElem? (i := 136) rfl) rfl
theorem g1_137 : (Jvm.Cond.soleField "JointedShadows" "script") ∈ GT := gmem1 (List.mem_of_getElem? (i := 137) rfl) rfl
theorem g1_138 : (Jvm.Cond.laysFinal "JointedShadows" "JointedShadows" "scenes" "LJointedShadows$Scenes;") ∈ GT := gmem1 (List.mem_of_getElem? (i := 138) rfl) rfl
theorem g1_139 : (Jvm.Cond.soleField "JointedShadows" "scenes") ∈ GT := gmem1 (List.mem_of_getElem? (i := 139) rfl) rfl
theorem g1_140 : (Jvm.Cond.laysFinal "JointedShadows" "JointedShadows" "firstPose" "LJointedShadows$Pose;") ∈ GT := gmem1 (List.mem_of_getElem? (i := 140) rfl) rfl
theorem g1_141 : (Jvm.Cond.soleField "JointedShadows" "firstPose") ∈ GT := gmem1 (List.mem_of_getElem? (i := 141) rfl) rfl
theorem g1_142 : (Jvm.Cond.laysFinal "JointedShadows" "JointedShadows" "secondPose" "LJointedShadows$Pose;") ∈ GT := gmem1 (List.mem_of_getElem? (i := 142) rfl) rfl
theorem g1_143 : (Jvm.Cond.soleField "JointedShadows" "secondPose") ∈ GT := gmem1 (List.mem_of_getElem? (i := 143) rfl) rfl
theorem g1_144 : (Jvm.Cond.laysFinal "JointedShadows" "JointedShadows" "firstSegment" "LJointedShadows$Segment;") ∈ GT := gmem1 (List.mem_of_getElem? (i := 144) rfl) rfl
theorem g1_145 : (Jvm.Cond.soleField "JointedShadows" "firstSegment") ∈ GT := gmem1 (List.mem_of_getElem? (i := 145) rfl) rfl
theorem g1_146 : (Jvm.Cond.laysFinal "JointedShadows" "JointedShadows" "secondSegment" "LJointedShadows$Segment;") ∈ GT := gmem1 (List.mem_of_getElem? (i := 146) rfl) rfl
theorem g1_147 : (Jvm.Cond.soleField "JointedShadows" "secondSegment") ∈ GT := gmem1 (List.mem_of_getElem? (i := 147) rfl) rfl
theorem g1_148 : (Jvm.Cond.superclass "JointedShadows" "java/lang/Object") ∈ GT := gmem1 (List.mem_of_getElem? (i := 148) rfl) rfl
theorem g1_149 : (Jvm.Cond.methodLink "JointedShadowsLaw" (13 : Nat) ({ cls := "JointedShadows", name := "setDistance", desc := "(I)I" } : Jvm.MethodName)) ∈ GT := gmem1 (List.mem_of_getElem? (i := 149) rfl) rfl
theorem g1_150 : (Jvm.Cond.instanceMethod ({ cls := "JointedShadows", name := "setDistance", desc := "(I)I" } : Jvm.MethodName)) ∈ GT := gmem1 (List.mem_of_getElem? (i := 150) rfl) rfl
theorem g1_151 : (Jvm.Cond.selects "JointedShadows" ({ cls := "JointedShadows", name := "setDistance", desc := "(I)I" } : Jvm.MethodName) ({ cls := "JointedShadows", name := "setDistance", desc := "(I)I" } : Jvm.MethodName)) ∈ GT := gmem1 (List.mem_of_getElem? (i := 151) rfl) rfl
theorem g1_152 : (Jvm.Cond.code ({ cls := "JointedShadows", name := "setDistance", desc := "(I)I" } : Jvm.MethodName) prog_1_method_2_code (3 : Nat) (Option.some Jvm.ClassFile.FieldType.int)) ∈ GT := gmem1 (List.mem_of_getElem? (i := 152) rfl) rfl
theorem g1_153 : (Jvm.Cond.methodLink "JointedShadows" (58 : Nat) ({ cls := "JointedShadows", name := "inRange", desc := "(III)Z" } : Jvm.MethodName)) ∈ GT := gmem1 (List.mem_of_getElem? (i := 153) rfl) rfl
theorem g1_154 : (Jvm.Cond.static ({ cls := "JointedShadows", name := "inRange", desc := "(III)Z" } : Jvm.MethodName)) ∈ GT := gmem1 (List.mem_of_getElem? (i := 154) rfl) rfl
theorem g1_155 : (Jvm.Cond.code ({ cls := "JointedShadows", name := "inRange", desc := "(III)Z" } : Jvm.MethodName) prog_1_method_24_code (3 : Nat) (Option.some Jvm.ClassFile.FieldType.boolean)) ∈ GT := gmem1 (List.mem_of_getElem? (i := 155) rfl) rfl
theorem g1_156 : (Jvm.Cond.methodLink "JointedShadowsLaw" (18 : Nat) ({ cls := "JointedShadows", name := "addFigure", desc := "(III)I" } : Jvm.MethodName)) ∈ GT := gmem1 (List.mem_of_getElem? (i := 156) rfl) rfl
theorem g1_157 : (Jvm.Cond.instanceMethod ({ cls := "JointedShadows", name := "addFigure", desc := "(III)I" } : Jvm.MethodName)) ∈ GT := gmem1 (List.mem_of_getElem? (i := 157) rfl) rfl
theorem g1_158 : (Jvm.Cond.selects "JointedShadows" ({ cls := "JointedShadows", name := "addFigure", desc := "(III)I" } : Jvm.MethodName) ({ cls := "JointedShadows", name := "addFigure", desc := "(III)I" } : Jvm.MethodName)) ∈ GT := gmem1 (List.mem_of_getElem? (i := 158) rfl) rfl
theorem g1_159 : (Jvm.Cond.code ({ cls := "JointedShadows", name := "addFigure", desc := "(III)I" } : Jvm.MethodName) prog_1_method_3_code (5 : Nat) (Option.some Jvm.ClassFile.FieldType.int)) ∈ GT := gmem1 (List.mem_of_getElem? (i := 159) rfl) rfl
theorem g1_160 : (Jvm.Cond.instantiable "JointedShadows$Figure" (8 : Nat)) ∈ GT := gmem1 (List.mem_of_getElem? (i := 160) rfl) rfl
theorem g1_161 : (Jvm.Cond.methodLink "JointedShadows" (62 : Nat) ({ cls := "JointedShadows$Figure", name := "<init>", desc := "(IIII)V" } : Jvm.MethodName)) ∈ GT := gmem1 (List.mem_of_getElem? (i := 161) rfl) rfl
theorem g1_162 : (Jvm.Cond.instanceMethod ({ cls := "JointedShadows$Figure", name := "<init>", desc := "(IIII)V" } : Jvm.MethodName)) ∈ GT := gmem1 (List.mem_of_getElem? (i := 162) rfl) rfl
theorem g1_163 : (Jvm.Cond.code ({ cls := "JointedShadows$Figure", name := "<init>", desc := "(IIII)V" } : Jvm.MethodName) prog_2_method_1_code (5 : Nat) (Option.none : Option Jvm.ClassFile.FieldType)) ∈ GT := gmem1 (List.mem_of_getElem? (i := 163) rfl) rfl
theorem g1_164 : (Jvm.Cond.methodLink "JointedShadows$Figure" (3 : Nat) ({ cls := "java/lang/Object", name := "<init>", desc := "()V" } : Jvm.MethodName)) ∈ GT := gmem1 (List.mem_of_getElem? (i := 164) rfl) rfl
theorem g1_165 : (Jvm.Cond.fieldLink "JointedShadows$Figure" (25 : Nat) "JointedShadows$Figure" "number" "I") ∈ GT := gmem1 (List.mem_of_getElem? (i := 165) rfl) rfl
theorem g1_166 : (Jvm.Cond.fieldLink "JointedShadows$Pose" (58 : Nat) "JointedShadows$Figure" "number" "I") ∈ GT := gmem1 (List.mem_of_getElem? (i := 166) rfl) rfl
theorem g1_167 : (Jvm.Cond.fieldLink "JointedShadows" (178 : Nat) "JointedShadows$Figure" "number" "I") ∈ GT := gmem1 (List.mem_of_getElem? (i := 167) rfl) rfl
theorem g1_168 : (Jvm.Cond.fieldLink "JointedShadows$Figure" (28 : Nat) "JointedShadows$Figure" "x" "I") ∈ GT := gmem1 (List.mem_of_getElem? (i := 168) rfl) rfl
theorem g1_169 : (Jvm.Cond.fieldLink "JointedShadows$Pose" (78 : Nat) "JointedShadows$Figure" "x" "I") ∈ GT := gmem1 (List.mem_of_getElem? (i := 169) rfl) rfl
theorem g1_170 : (Jvm.Cond.fieldLink "JointedShadows$Figure" (31 : Nat) "JointedShadows$Figure" "y" "I") ∈ GT := gmem1 (List.mem_of_getElem? (i := 170) rfl) rfl
theorem g1_171 : (Jvm.Cond.fieldLink "JointedShadows$Pose" (80 : Nat) "JointedShadows$Figure" "y" "I") ∈ GT := gmem1 (List.mem_of_getElem? (i := 171) rfl) rfl
theorem g1_172 : (Jvm.Cond.fieldLink "JointedShadows$Figure" (34 : Nat) "JointedShadows$Figure" "plane" "I") ∈ GT := gmem1 (List.mem_of_getElem? (i := 172) rfl) rfl
theorem g1_173 : (Jvm.Cond.fieldLink "JointedShadows$Pose" (82 : Nat) "JointedShadows$Figure" "plane" "I") ∈ GT := gmem1 (List.mem_of_getElem? (i := 173) rfl) rfl
theorem g1_174 : (Jvm.Cond.fieldLink "JointedShadows$Figure" (9 : Nat) "JointedShadows$Figure" "parent" "[I") ∈ GT := gmem1 (List.mem_of_getElem? (i := 174) rfl) rfl
theorem g1_175 : (Jvm.Cond.fieldLink "JointedShadows$Figure" (15 : Nat) "JointedShadows$Figure" "length" "[I") ∈ GT := gmem1 (List.mem_of_getElem? (i := 175) rfl) rfl
theorem g1_176 : (Jvm.Cond.fieldLink "JointedShadows$Pose" (121 : Nat) "JointedShadows$Figure" "length" "[I") ∈ GT := gmem1 (List.mem_of_getElem? (i := 176) rfl) rfl
theorem g1_177 : (Jvm.Cond.fieldLink "JointedShadows$Figure" (18 : Nat) "JointedShadows$Figure" "direction" "[I") ∈ GT := gmem1 (List.mem_of_getElem? (i := 177) rfl) rfl
theorem g1_178 : (Jvm.Cond.fieldLink "JointedShadows$Pose" (89 : Nat) "JointedShadows$Figure" "direction" "[I") ∈ GT := gmem1 (List.mem_of_getElem? (i := 178) rfl) rfl
theorem g1_179 : (Jvm.Cond.fieldLink "JointedShadows$Figure" (21 : Nat) "JointedShadows$Figure" "limbs" "I") ∈ GT := gmem1 (List.mem_of_getElem? (i := 179) rfl) rfl
theorem g1_180 : (Jvm.Cond.fieldLink "JointedShadows$Pose" (71 : Nat) "JointedShadows$Figure" "limbs" "I") ∈ GT := gmem1 (List.mem_of_getElem? (i := 180) rfl) rfl
theorem g1_181 : (Jvm.Cond.fieldLink "JointedShadows" (113 : Nat) "JointedShadows$Figure" "limbs" "I") ∈ GT := gmem1 (List.mem_of_getElem? (i := 181) rfl) rfl
theorem g1_182 : (Jvm.Cond.laysFinal "JointedShadows$Figure" "JointedShadows$Figure" "number" "I") ∈ GT := gmem1 (List.mem_of_getElem? (i := 182) rfl) rfl
theorem g1_183 : (Jvm.Cond.soleField "JointedShadows$Figure" "number") ∈ GT := gmem1 (List.mem_of_getElem? (i := 183) rfl) rfl
theorem g1_184 : (Jvm.Cond.laysFinal "JointedShadows$Figure" "JointedShadows$Figure" "x" "I") ∈ GT := gmem1 (List.mem_of_getElem? (i := 184) rfl) rfl
theorem g1_185 : (Jvm.Cond.soleField "JointedShadows$Figure" "x") ∈ GT := gmem1 (List.mem_of_getElem? (i := 185) rfl) rfl
theorem g1_186 : (Jvm.Cond.laysFinal "JointedShadows$Figure" "JointedShadows$Figure" "y" "I") ∈ GT := gmem1 (List.mem_of_getElem? (i := 186) rfl) rfl
theorem g1_187 : (Jvm.Cond.soleField "JointedShadows$Figure" "y") ∈ GT := gmem1 (List.mem_of_getElem? (i := 187) rfl) rfl
theorem g1_188 : (Jvm.Cond.laysFinal "JointedShadows$Figure" "JointedShadows$Figure" "plane" "I") ∈ GT := gmem1 (List.mem_of_getElem? (i := 188) rfl) rfl
theorem g1_189 : (Jvm.Cond.soleField "JointedShadows$Figure" "plane") ∈ GT := gmem1 (List.mem_of_getElem? (i := 189) rfl) rfl
theorem g1_190 : (Jvm.Cond.laysFinal "JointedShadows$Figure" "JointedShadows$Figure" "parent" "[I") ∈ GT := gmem1 (List.mem_of_getElem? (i := 190) rfl) rfl
theorem g1_191 : (Jvm.Cond.soleField "JointedShadows$Figure" "parent") ∈ GT := gmem1 (List.mem_of_getElem? (i := 191) rfl) rfl
theorem g1_192 : (Jvm.Cond.laysFinal "JointedShadows$Figure" "JointedShadows$Figure" "length" "[I") ∈ GT := gmem1 (List.mem_of_getElem? (i := 192) rfl) rfl
theorem g1_193 : (Jvm.Cond.soleField "JointedShadows$Figure" "length") ∈ GT := gmem1 (List.mem_of_getElem? (i := 193) rfl) rfl
theorem g1_194 : (Jvm.Cond.laysFinal "JointedShadows$Figure" "JointedShadows$Figure" "direction" "[I") ∈ GT := gmem1 (List.mem_of_getElem? (i := 194) rfl) rfl
theorem g1_195 : (Jvm.Cond.soleField "JointedShadows$Figure" "direction") ∈ GT := gmem1 (List.mem_of_getElem? (i := 195) rfl) rfl
theorem g1_196 : (Jvm.Cond.lays "JointedShadows$Figure" "JointedShadows$Figure" "limbs" "I") ∈ GT := gmem1 (List.mem_of_getElem? (i := 196) rfl) rfl
theorem g1_197 : (Jvm.Cond.soleField "JointedShadows$Figure" "limbs") ∈ GT := gmem1 (List.mem_of_getElem? (i := 197) rfl) rfl
theorem g1_198 : (Jvm.Cond.superclass "JointedShadows$Figure" "java/lang/Object") ∈ GT := gmem1 (List.mem_of_getElem? (i := 198) rfl) rfl
theorem g1_199 : (Jvm.Cond.methodLink "JointedShadowsLaw" (23 : Nat) ({ cls := "JointedShadows", name := "addLimb", desc := "(IIII)I" } : Jvm.MethodName)) ∈ GT := gmem1 (List.mem_of_getElem? (i := 199) rfl) rfl
theorem g1_200 : (Jvm.Cond.instanceMethod ({ cls := "JointedShadows", name := "addLimb", desc := "(IIII)I" } : Jvm.MethodName)) ∈ GT := gmem1 (List.mem_of_getElem? (i := 200) rfl) rfl
theorem g1_201 : (Jvm.Cond.selects "JointedShadows" ({ cls := "JointedShadows", name := "addLimb", desc := "(IIII)I" } : Jvm.MethodName) ({ cls := "JointedShadows", name := "addLimb", desc := "(IIII)I" } : Jvm.MethodName)) ∈ GT := gmem1 (List.mem_of_getElem? (i := 201) rfl) rfl
theorem g1_202 : (Jvm.Cond.code ({ cls := "JointedShadows", name := "addLimb", desc := "(IIII)I" } : Jvm.MethodName) prog_1_method_4_code (6 : Nat) (Option.some Jvm.ClassFile.FieldType.int)) ∈ GT := gmem1 (List.mem_of_getElem? (i := 202) rfl) rfl
theorem g1_203 : (Jvm.Cond.methodLink "JointedShadows" (65 : Nat) ({ cls := "JointedShadows", name := "figureAt", desc := "(I)LJointedShadows$Figure;" } : Jvm.MethodName)) ∈ GT := gmem1 (List.mem_of_getElem? (i := 203) rfl) rfl
theorem g1_205 : (Jvm.Cond.instanceMethod ({ cls := "JointedShadows", name := "figureAt", desc := "(I)LJointedShadows$Figure;" } : Jvm.MethodName)) ∈ GT := gmem1 (List.mem_of_getElem? (i := 205) rfl) rfl
theorem g1_206 : (Jvm.Cond.code ({ cls := "JointedShadows", name := "figureAt", desc := "(I)LJointedShadows$Figure;" } : Jvm.MethodName) prog_1_method_26_code (2 : Nat) (Option.some (Jvm.ClassFile.FieldType.object "JointedShadows$Figure"))) ∈ GT := gmem1 (List.mem_of_getElem? (i := 206) rfl) rfl
theorem g1_207 : (Jvm.Cond.methodLink "JointedShadows" (69 : Nat) ({ cls := "JointedShadows$Figure", name := "hasLimb", desc := "(I)Z" } : Jvm.MethodName)) ∈ GT := gmem1 (List.mem_of_getElem? (i := 207) rfl) rfl
theorem g1_208 : (Jvm.Cond.instanceMethod ({ cls := "JointedShadows$Figure", name := "hasLimb", desc := "(I)Z" } : Jvm.MethodName)) ∈ GT := gmem1 (List.mem_of_getElem? (i := 208) rfl) rfl
theorem g1_209 : (Jvm.Cond.selects "JointedShadows$Figure" ({ cls := "JointedShadows$Figure", name := "hasLimb", desc := "(I)Z" } : Jvm.MethodName) ({ cls := "JointedShadows$Figure", name := "hasLimb", desc := "(I)Z" } : Jvm.MethodName)) ∈ GT := gmem1 (List.mem_of_getElem? (i := 209) rfl) rfl
theorem g1_210 : (Jvm.Cond.code ({ cls := "JointedShadows$Figure", name := "hasLimb", desc := "(I)Z" } : Jvm.MethodName) prog_2_method_2_code (2 : Nat) (Option.some Jvm.ClassFile.FieldType.boolean)) ∈ GT := gmem1 (List.mem_of_getElem? (i := 210) rfl) rfl
theorem g1_212 : (Jvm.Cond.methodLink "JointedShadows" (73 : Nat) ({ cls := "JointedShadows$Figure", name := "grow", desc := "(III)I" } : Jvm.MethodName)) ∈ GT := gmem1 (List.mem_of_getElem? (i := 212) rfl) rfl
theorem g1_213 : (Jvm.Cond.instanceMethod ({ cls := "JointedShadows$Figure", name := "grow", desc := "(III)I" } : Jvm.MethodName)) ∈ GT := gmem1 (List.mem_of_getElem? (i := 213) rfl) rfl
theorem g1_214 : (Jvm.Cond.selects "JointedShadows$Figure" ({ cls := "JointedShadows$Figure", name := "grow", desc := "(III)I" } : Jvm.MethodName) ({ cls := "JointedShadows$Figure", name := "grow", desc := "(III)I" } : Jvm.MethodName)) ∈ GT := gmem1 (List.mem_of_getElem? (i := 214) rfl) rfl
theorem g1_215 : (Jvm.Cond.code ({ cls := "JointedShadows$Figure", name := "grow", desc := "(III)I" } : Jvm.MethodName) prog_2_method_3_code (5 : Nat) (Option.some Jvm.ClassFile.FieldType.int)) ∈ GT := gmem1 (List.mem_of_getElem? (i := 215) rfl) rfl
theorem g1_216 : (Jvm.Cond.methodLink "JointedShadowsLaw" (28 : Nat) ({ cls := "JointedShadows", name := "count", desc := "(I)I" } : Jvm.MethodName)) ∈ GT := gmem1 (List.mem_of_getElem? (i := 216) rfl) rfl
theorem g1_217 : (Jvm.Cond.instanceMethod ({ cls := "JointedShadows", name := "count", desc := "(I)I" } : Jvm.MethodName)) ∈ GT := gmem1 (List.mem_of_getElem? (i := 217) rfl) rfl
theorem g1_218 : (Jvm.Cond.selects "JointedShadows" ({ cls := "JointedShadows", name := "count", desc := "(I)I" } : Jvm.MethodName) ({ cls := "JointedShadows", name := "count", desc := "(I)I" } : Jvm.MethodName)) ∈ GT := gmem1 (List.mem_of_getElem? (i := 218) rfl) rfl
theorem g1_219 : (Jvm.Cond.code ({ cls := "JointedShadows", name := "count", desc := "(I)I" } : Jvm.MethodName) prog_1_method_5_code (2 : Nat) (Option.some Jvm.ClassFile.FieldType.int)) ∈ GT := gmem1 (List.mem_of_getElem? (i := 219) rfl) rfl
theorem g1_220 : (Jvm.Cond.methodLink "JointedShadows" (81 : Nat) ({ cls := "JointedShadows", name := "limbsOfAll", desc := "()I" } : Jvm.MethodName)) ∈ GT := gmem1 (List.mem_of_getElem? (i := 220) rfl) rfl
theorem g1_222 : (Jvm.Cond.instanceMethod ({ cls := "JointedShadows", name := "limbsOfAll", desc := "()I" } : Jvm.MethodName)) ∈ GT := gmem1 (List.mem_of_getElem? (i := 222) rfl) rfl
theorem g1_223 : (Jvm.Cond.code ({ cls := "JointedShadows", name := "limbsOfAll", desc := "()I" } : Jvm.MethodName) prog_1_method_27_code (6 : Nat) (Option.some Jvm.ClassFile.FieldType.int)) ∈ GT := gmem1 (List.mem_of_getElem? (i := 223) rfl) rfl
theorem g1_224 : (Jvm.Cond.methodLink "JointedShadowsLaw" (32 : Nat) ({ cls := "JointedShadows", name := "addTurn", desc := "(IIII)I" } : Jvm.MethodName)) ∈ GT := gmem1 (List.mem_of_getElem? (i := 224) rfl) rfl
theorem g1_225 : (Jvm.Cond.instanceMethod ({ cls := "JointedShadows", name := "addTurn", desc := "(IIII)I" } : Jvm.MethodName)) ∈ GT := gmem1 (List.mem_of_getElem? (i := 225) rfl) rfl
theorem g1_226 : (Jvm.Cond.selects "JointedShadows" ({ cls := "JointedShadows", name := "addTurn", desc := "(IIII)I" } : Jvm.MethodName) ({ cls := "JointedShadows", name := "addTurn", desc := "(IIII)I" } : Jvm.MethodName)) ∈ GT := gmem1 (List.mem_of_getElem? (i := 226) rfl) rfl
theorem g1_227 : (Jvm.Cond.code ({ cls := "JointedShadows", name := "addTurn", desc := "(IIII)I" } : Jvm.MethodName) prog_1_method_6_code (7 : Nat) (Option.some Jvm.ClassFile.FieldType.int)) ∈ GT := gmem1 (List.mem_of_getElem? (i := 227) rfl) rfl
theorem g1_228 : (Jvm.Cond.methodLink "JointedShadows" (85 : Nat) ({ cls := "JointedShadows", name := "isBeat", desc := "(I)Z" } : Jvm.MethodName)) ∈ GT := gmem1 (List.mem_of_getElem? (i := 228) rfl) rfl
theorem g1_229 : (Jvm.Cond.static ({ cls := "JointedShadows", name := "isBeat", desc := "(I)Z" } : Jvm.MethodName)) ∈ GT := gmem1 (List.mem_of_getElem? (i := 229) rfl) rfl
theorem g1_230 : (Jvm.Cond.code ({ cls := "JointedShadows", name := "isBeat", desc := "(I)Z" } : Jvm.MethodName) prog_1_method_25_code (1 : Nat) (Option.some Jvm.ClassFile.FieldType.boolean)) ∈ GT := gmem1 (List.mem_of_getElem? (i := 230) rfl) rfl
theorem g1_231 : (Jvm.Cond.methodLink "JointedShadows" (88 : Nat) ({ cls := "JointedShadows$Script", name := "newMove", desc := "(III)LJointedShadows$Move;" } : Jvm.MethodName)) ∈ GT := gmem1 (List.mem_of_getElem? (i := 231) rfl) rfl
theorem g1_232 : (Jvm.Cond.instanceMethod ({ cls := "JointedShadows$Script", name := "newMove", desc := "(III)LJointedShadows$Move;" } : Jvm.MethodName)) ∈ GT := gmem1 (List.mem_of_getElem? (i := 232) rfl) rfl
theorem g1_233 : (Jvm.Cond.selects "JointedShadows$Script" ({ cls := "JointedShadows$Script", name := "newMove", desc := "(III)LJointedShadows$Move;" } : Jvm.MethodName) ({ cls := "JointedShadows$Script", name := "newMove", desc := "(III)LJointedShadows$Move;" } : Jvm.MethodName)) ∈ GT := gmem1 (List.mem_of_getElem? (i := 233) rfl) rfl
theorem g1_234 : (Jvm.Cond.code ({ cls := "JointedShadows$Script", name := "newMove", desc := "(III)LJointedShadows$Move;" } : Jvm.MethodName) prog_6_method_2_code (6 : Nat) (Option.some (Jvm.ClassFile.FieldType.object "JointedShadows$Move"))) ∈ GT := gmem1 (List.mem_of_getElem? (i := 234) rfl) rfl
theorem g1_235 : (Jvm.Cond.instantiable "JointedShadows$Move" (8 : Nat)) ∈ GT := gmem1 (List.mem_of_getElem? (i := 235) rfl) rfl
theorem g1_236 : (Jvm.Cond.methodLink "JointedShadows$Script" (21 : Nat) ({ cls := "JointedShadows$Move", name := "<init>", desc := "(IIII)V" } : Jvm.MethodName)) ∈ GT := gmem1 (List.mem_of_getElem? (i := 236) rfl) rfl
theorem g1_237 : (Jvm.Cond.instanceMethod ({ cls := "JointedShadows$Move", name := "<init>", desc := "(IIII)V" } : Jvm.MethodName)) ∈ GT := gmem1 (List.mem_of_getElem? (i := 237) rfl) rfl
theorem g1_238 : (Jvm.Cond.code ({ cls := "JointedShadows$Move", name := "<init>", desc := "(IIII)V" } : Jvm.MethodName) prog_3_method_1_code (5 : Nat) (Option.none : Option Jvm.ClassFile.FieldType)) ∈ GT := gmem1 (List.mem_of_getElem? (i := 238) rfl) rfl
theorem g1_239 : (Jvm.Cond.methodLink "JointedShadows$Move" (1 : Nat) ({ cls := "java/lang/Object", name := "<init>", desc := "()V" } : Jvm.MethodName)) ∈ GT := gmem1 (List.mem_of_getElem? (i := 239) rfl) rfl
theorem g2_0 : (Jvm.Cond.fieldLink "JointedShadows$Move" (22 : Nat) "JointedShadows$Move" "number" "I") ∈ GT := gmem2 (List.mem_of_getElem? (i := 0) rfl) rfl
theorem g2_1 : (Jvm.Cond.fieldLink "JointedShadows$Script" (31 : Nat) "JointedShadows$Move" "number" "I") ∈ GT := gmem2 (List.mem_of_getElem? (i := 1) rfl) rfl
theorem g2_2 : (Jvm.Cond.fieldLink "JointedShadows" (97 : Nat) "JointedShadows$Move" "number" "I") ∈ GT := gmem2 (List.mem_of_getElem? (i := 2) rfl) rfl
theorem g2_3 : (Jvm.Cond.fieldLink "JointedShadows$Move" (25 : Nat) "JointedShadows$Move" "beat" "I") ∈ GT := gmem2 (List.mem_of_getElem? (i := 3) rfl) rfl
theorem g2_4 : (Jvm.Cond.fieldLink "JointedShadows$Pose" (50 : Nat) "JointedShadows$Move" "beat" "I") ∈ GT := gmem2 (List.mem_of_getElem? (i := 4) rfl) rfl
theorem g2_5 : (Jvm.Cond.fieldLink "JointedShadows$Script" (28 : Nat) "JointedShadows$Move" "beat" "I") ∈ GT := gmem2 (List.mem_of_getElem? (i := 5) rfl) rfl
theorem g2_6 : (Jvm.Cond.fieldLink "JointedShadows$Move" (28 : Nat) "JointedShadows$Move" "figure" "I") ∈ GT := gmem2 (List.mem_of_getElem? (i := 6) rfl) rfl
theorem g2_7 : (Jvm.Cond.fieldLink "JointedShadows$Pose" (55 : Nat) "JointedShadows$Move" "figure" "I") ∈ GT := gmem2 (List.mem_of_getElem? (i := 7) rfl) rfl
theorem g2_8 : (Jvm.Cond.fieldLink "JointedShadows$Script" (34 : Nat) "JointedShadows$Move" "figure" "I") ∈ GT := gmem2 (List.mem_of_getElem? (i := 8) rfl) rfl
theorem g2_9 : (Jvm.Cond.fieldLink "JointedShadows$Move" (31 : Nat) "JointedShadows$Move" "limb" "I") ∈ GT := gmem2 (List.mem_of_getElem? (i := 9) rfl) rfl
theorem g2_10 : (Jvm.Cond.fieldLink "JointedShadows$Pose" (96 : Nat) "JointedShadows$Move" "limb" "I") ∈ GT := gmem2 (List.mem_of_getElem? (i := 10) rfl) rfl
theorem g2_11 : (Jvm.Cond.fieldLink "JointedShadows$Script" (37 : Nat) "JointedShadows$Move" "limb" "I") ∈ GT := gmem2 (List.mem_of_getElem? (i := 11) rfl) rfl
theorem g2_12 : (Jvm.Cond.fieldLink "JointedShadows$Move" (7 : Nat) "JointedShadows$Move" "eighths" "I") ∈ GT := gmem2 (List.mem_of_getElem? (i := 12) rfl) rfl
theorem g2_13 : (Jvm.Cond.fieldLink "JointedShadows$Pose" (111 : Nat) "JointedShadows$Move" "eighths" "I") ∈ GT := gmem2 (List.mem_of_getElem? (i := 13) rfl) rfl
theorem g2_14 : (Jvm.Cond.fieldLink "JointedShadows" (92 : Nat) "JointedShadows$Move" "eighths" "I") ∈ GT := gmem2 (List.mem_of_getElem? (i := 14) rfl) rfl
theorem g2_15 : (Jvm.Cond.fieldLink "JointedShadows$Move" (13 : Nat) "JointedShadows$Move" "dx" "I") ∈ GT := gmem2 (List.mem_of_getElem? (i := 15) rfl) rfl
theorem g2_16 : (Jvm.Cond.fieldLink "JointedShadows$Pose" (99 : Nat) "JointedShadows$Move" "dx" "I") ∈ GT := gmem2 (List.mem_of_getElem? (i := 16) rfl) rfl
theorem g2_17 : (Jvm.Cond.fieldLink "JointedShadows" (100 : Nat) "JointedShadows$Move" "dx" "I") ∈ GT := gmem2 (List.mem_of_getElem? (i := 17) rfl) rfl
theorem g2_18 : (Jvm.Cond.fieldLink "JointedShadows$Move" (16 : Nat) "JointedShadows$Move" "dy" "I") ∈ GT := gmem2 (List.mem_of_getElem? (i := 18) rfl) rfl
theorem g2_19 : (Jvm.Cond.fieldLink "JointedShadows$Pose" (102 : Nat) "JointedShadows$Move" "dy" "I") ∈ GT := gmem2 (List.mem_of_getElem? (i := 19) rfl) rfl
theorem g2_20 : (Jvm.Cond.fieldLink "JointedShadows" (103 : Nat) "JointedShadows$Move" "dy" "I") ∈ GT := gmem2 (List.mem_of_getElem? (i := 20) rfl) rfl
theorem g2_21 : (Jvm.Cond.fieldLink "JointedShadows$Move" (19 : Nat) "JointedShadows$Move" "dplane" "I") ∈ GT := gmem2 (List.mem_of_getElem? (i := 21) rfl) rfl
theorem g2_22 : (Jvm.Cond.fieldLink "JointedShadows$Pose" (105 : Nat) "JointedShadows$Move" "dplane" "I") ∈ GT := gmem2 (List.mem_of_getElem? (i := 22) rfl) rfl
theorem g2_23 : (Jvm.Cond.fieldLink "JointedShadows" (106 : Nat) "JointedShadows$Move" "dplane" "I") ∈ GT := gmem2 (List.mem_of_getElem? (i := 23) rfl) rfl
theorem g2_24 : (Jvm.Cond.laysFinal "JointedShadows$Move" "JointedShadows$Move" "number" "I") ∈ GT := gmem2 (List.mem_of_getElem? (i := 24) rfl) rfl
theorem g2_25 : (Jvm.Cond.soleField "JointedShadows$Move" "number") ∈ GT := gmem2 (List.mem_of_getElem? (i := 25) rfl) rfl
theorem g2_26 : (Jvm.Cond.laysFinal "JointedShadows$Move" "JointedShadows$Move" "beat" "I") ∈ GT := gmem2 (List.mem_of_getElem? (i := 26) rfl) rfl
theorem g2_27 : (Jvm.Cond.soleField "JointedShadows$Move" "beat") ∈ GT := gmem2 (List.mem_of_getElem? (i := 27) rfl) rfl
theorem g2_28 : (Jvm.Cond.laysFinal "JointedShadows$Move" "JointedShadows$Move" "figure" "I") ∈ GT := gmem2 (List.mem_of_getElem? (i := 28) rfl) rfl
theorem g2_29 : (Jvm.Cond.soleField "JointedShadows$Move" "figure") ∈ GT := gmem2 (List.mem_of_getElem? (i := 29) rfl) rfl
theorem g2_30 : (Jvm.Cond.laysFinal "JointedShadows$Move" "JointedShadows$Move" "limb" "I") ∈ GT := gmem2 (List.mem_of_getElem? (i := 30) rfl) rfl
theorem g2_31 : (Jvm.Cond.soleField "JointedShadows$Move" "limb") ∈ GT := gmem2 (List.mem_of_getElem? (i := 31) rfl) rfl
theorem g2_32 : (Jvm.Cond.lays "JointedShadows$Move" "JointedShadows$Move" "eighths" "I") ∈ GT := gmem2 (List.mem_of_getElem? (i := 32) rfl) rfl
theorem g2_33 : (Jvm.Cond.soleField "JointedShadows$Move" "eighths") ∈ GT := gmem2 (List.mem_of_getElem? (i := 33) rfl) rfl
theorem g2_34 : (Jvm.Cond.lays "JointedShadows$Move" "JointedShadows$Move" "dx" "I") ∈ GT := gmem2 (List.mem_of_getElem? (i := 34) rfl) rfl
theorem g2_35 : (Jvm.Cond.soleField "JointedShadows$Move" "dx") ∈ GT := gmem2 (List.mem_of_getElem? (i := 35) rfl) rfl
theorem g2_36 : (Jvm.Cond.lays "JointedShadows$Move" "JointedShadows$Move" "dy" "I") ∈ GT := gmem2 (List.mem_of_getElem? (i := 36) rfl) rfl
theorem g2_37 : (Jvm.Cond.soleField "JointedShadows$Move" "dy") ∈ GT := gmem2 (List.mem_of_getElem? (i := 37) rfl) rfl
theorem g2_38 : (Jvm.Cond.lays "JointedShadows$Move" "JointedShadows$Move" "dplane" "I") ∈ GT := gmem2 (List.mem_of_getElem? (i := 38) rfl) rfl
theorem g2_39 : (Jvm.Cond.soleField "JointedShadows$Move" "dplane") ∈ GT := gmem2 (List.mem_of_getElem? (i := 39) rfl) rfl
theorem g2_40 : (Jvm.Cond.superclass "JointedShadows$Move" "java/lang/Object") ∈ GT := gmem2 (List.mem_of_getElem? (i := 40) rfl) rfl
theorem g2_41 : (Jvm.Cond.methodLink "JointedShadows$Script" (24 : Nat) ({ cls := "JointedShadows$Script", name := "isAfter", desc := "(LJointedShadows$Move;I)Z" } : Jvm.MethodName)) ∈ GT := gmem2 (List.mem_of_getElem? (i := 41) rfl) rfl
theorem g2_42 : (Jvm.Cond.static ({ cls := "JointedShadows$Script", name := "isAfter", desc := "(LJointedShadows$Move;I)Z" } : Jvm.MethodName)) ∈ GT := gmem2 (List.mem_of_getElem? (i := 42) rfl) rfl
theorem g2_43 : (Jvm.Cond.code ({ cls := "JointedShadows$Script", name := "isAfter", desc := "(LJointedShadows$Move;I)Z" } : Jvm.MethodName) prog_6_method_3_code (2 : Nat) (Option.some Jvm.ClassFile.FieldType.boolean)) ∈ GT := gmem2 (List.mem_of_getElem? (i := 43) rfl) rfl
theorem g2_44 : (Jvm.Cond.methodLink "JointedShadowsLaw" (36 : Nat) ({ cls := "JointedShadows", name := "addShift", desc := "(IIIII)I" } : Jvm.MethodName)) ∈ GT := gmem2 (List.mem_of_getElem? (i := 44) rfl) rfl
theorem g2_45 : (Jvm.Cond.instanceMethod ({ cls := "JointedShadows", name := "addShift", desc := "(IIIII)I" } : Jvm.MethodName)) ∈ GT := gmem2 (List.mem_of_getElem? (i := 45) rfl) rfl
theorem g2_46 : (Jvm.Cond.selects "JointedShadows" ({ cls := "JointedShadows", name := "addShift", desc := "(IIIII)I" } : Jvm.MethodName) ({ cls := "JointedShadows", name := "addShift", desc := "(IIIII)I" } : Jvm.MethodName)) ∈ GT := gmem2 (List.mem_of_getElem? (i := 46) rfl) rfl
theorem g2_47 : (Jvm.Cond.code ({ cls := "JointedShadows", name := "addShift", desc := "(IIIII)I" } : Jvm.MethodName) prog_1_method_7_code (7 : Nat) (Option.some Jvm.ClassFile.FieldType.int)) ∈ GT := gmem2 (List.mem_of_getElem? (i := 47) rfl) rfl
theorem g2_48 : (Jvm.Cond.methodLink "JointedShadowsLaw" (41 : Nat) ({ cls := "JointedShadows", name := "removeMoves", desc := "(I)I" } : Jvm.MethodName)) ∈ GT := gmem2 (List.mem_of_getElem? (i := 48) rfl) rfl
theorem g2_49 : (Jvm.Cond.instanceMethod ({ cls := "JointedShadows", name := "removeMoves", desc := "(I)I" } : Jvm.MethodName)) ∈ GT := gmem2 (List.mem_of_getElem? (i := 49) rfl) rfl
theorem g2_50 : (Jvm.Cond.selects "JointedShadows" ({ cls := "JointedShadows", name := "removeMoves", desc := "(I)I" } : Jvm.MethodName) ({ cls := "JointedShadows", name := "removeMoves", desc := "(I)I" } : Jvm.MethodName)) ∈ GT := gmem2 (List.mem_of_getElem? (i := 50) rfl) rfl
theorem g2_51 : (Jvm.Cond.code ({ cls := "JointedShadows", name := "removeMoves", desc := "(I)I" } : Jvm.MethodName) prog_1_method_8_code (2 : Nat) (Option.some Jvm.ClassFile.FieldType.int)) ∈ GT := gmem2 (List.mem_of_getElem? (i := 51) rfl) rfl
theorem g2_52 : (Jvm.Cond.methodLink "JointedShadows" (109 : Nat) ({ cls := "JointedShadows$Script", name := "keepFirst", desc := "(I)V" } : Jvm.MethodName)) ∈ GT := gmem2 (List.mem_of_getElem? (i := 52) rfl) rfl
theorem g2_53 : (Jvm.Cond.instanceMethod ({ cls := "JointedShadows$Script", name := "keepFirst", desc := "(I)V" } : Jvm.MethodName)) ∈ GT := gmem2 (List.mem_of_getElem? (i := 53) rfl) rfl
theorem g2_54 : (Jvm.Cond.selects "JointedShadows$Script" ({ cls := "JointedShadows$Script", name := "keepFirst", desc := "(I)V" } : Jvm.MethodName) ({ cls := "JointedShadows$Script", name := "keepFirst", desc := "(I)V" } : Jvm.MethodName)) ∈ GT := gmem2 (List.mem_of_getElem? (i := 54) rfl) rfl
theorem g2_55 : (Jvm.Cond.code ({ cls := "JointedShadows$Script", name := "keepFirst", desc := "(I)V" } : Jvm.MethodName) prog_6_method_4_code (5 : Nat) (Option.none : Option Jvm.ClassFile.FieldType)) ∈ GT := gmem2 (List.mem_of_getElem? (i := 55) rfl) rfl
theorem g2_56 : (Jvm.Cond.methodLink "JointedShadowsLaw" (45 : Nat) ({ cls := "JointedShadows", name := "position", desc := "(IIII)J" } : Jvm.MethodName)) ∈ GT := gmem2 (List.mem_of_getElem? (i := 56) rfl) rfl
theorem g2_57 : (Jvm.Cond.instanceMethod ({ cls := "JointedShadows", name := "position", desc := "(IIII)J" } : Jvm.MethodName)) ∈ GT := gmem2 (List.mem_of_getElem? (i := 57) rfl) rfl
theorem g2_58 : (Jvm.Cond.selects "JointedShadows" ({ cls := "JointedShadows", name := "position", desc := "(IIII)J" } : Jvm.MethodName) ({ cls := "JointedShadows", name := "position", desc := "(IIII)J" } : Jvm.MethodName)) ∈ GT := gmem2 (List.mem_of_getElem? (i := 58) rfl) rfl
theorem g2_59 : (Jvm.Cond.code ({ cls := "JointedShadows", name := "position", desc := "(IIII)J" } : Jvm.MethodName) prog_1_method_9_code (6 : Nat) (Option.some Jvm.ClassFile.FieldType.long)) ∈ GT := gmem2 (List.mem_of_getElem? (i := 59) rfl) rfl
theorem g2_60 : (Jvm.Cond.constantLong "JointedShadows" (116 : Nat) (-9223372036854775808 : Int64)) ∈ GT := gmem2 (List.mem_of_getElem? (i := 60) rfl) rfl
theorem g2_61 : (Jvm.Cond.methodLink "JointedShadows" (118 : Nat) ({ cls := "JointedShadows$Pose", name := "take", desc := "(LJointedShadows$Figure;LJointedShadows$Script;II)LJointedShadows$Pose;" } : Jvm.MethodName)) ∈ GT := gmem2 (List.mem_of_getElem? (i := 61) rfl) rfl
theorem g2_62 : (Jvm.Cond.instanceMethod ({ cls := "JointedShadows$Pose", name := "take", desc := "(LJointedShadows$Figure;LJointedShadows$Script;II)LJointedShadows$Pose;" } : Jvm.MethodName)) ∈ GT := gmem2 (List.mem_of_getElem? (i := 62) rfl) rfl
theorem g2_63 : (Jvm.Cond.selects "JointedShadows$Pose" ({ cls := "JointedShadows$Pose", name := "take", desc := "(LJointedShadows$Figure;LJointedShadows$Script;II)LJointedShadows$Pose;" } : Jvm.MethodName) ({ cls := "JointedShadows$Pose", name := "take", desc := "(LJointedShadows$Figure;LJointedShadows$Script;II)LJointedShadows$Pose;" } : Jvm.MethodName)) ∈ GT := gmem2 (List.mem_of_getElem? (i := 63) rfl) rfl
theorem g2_64 : (Jvm.Cond.code ({ cls := "JointedShadows$Pose", name := "take", desc := "(LJointedShadows$Figure;LJointedShadows$Script;II)LJointedShadows$Pose;" } : Jvm.MethodName) prog_4_method_2_code (9 : Nat) (Option.some (Jvm.ClassFile.FieldType.object "JointedShadows$Pose"))) ∈ GT := gmem2 (List.mem_of_getElem? (i := 64) rfl) rfl
theorem g2_65 : (Jvm.Cond.methodLink "JointedShadows$Pose" (40 : Nat) ({ cls := "JointedShadows$Pose", name := "stand", desc := "(LJointedShadows$Figure;I)V" } : Jvm.MethodName)) ∈ GT := gmem2 (List.mem_of_getElem? (i := 65) rfl) rfl
theorem g2_67 : (Jvm.Cond.instanceMethod ({ cls := "JointedShadows$Pose", name := "stand", desc := "(LJointedShadows$Figure;I)V" } : Jvm.MethodName)) ∈ GT := gmem2 (List.mem_of_getElem? (i := 67) rfl) rfl
theorem g2_68 : (Jvm.Cond.code ({ cls := "JointedShadows$Pose", name := "stand", desc := "(LJointedShadows$Figure;I)V" } : Jvm.MethodName) prog_4_method_3_code (3 : Nat) (Option.none : Option Jvm.ClassFile.FieldType)) ∈ GT := gmem2 (List.mem_of_getElem? (i := 68) rfl) rfl
theorem g2_69 : (Jvm.Cond.methodLink "JointedShadows$Pose" (83 : Nat) ({ cls := "java/lang/Math", name := "min", desc := "(II)I" } : Jvm.MethodName)) ∈ GT := gmem2 (List.mem_of_getElem? (i := 69) rfl) rfl
theorem g2_70 : (Jvm.Cond.static ({ cls := "java/lang/Math", name := "min", desc := "(II)I" } : Jvm.MethodName)) ∈ GT := gmem2 (List.mem_of_getElem? (i := 70) rfl) rfl
theorem g2_71 : (Jvm.Cond.code ({ cls := "java/lang/Math", name := "min", desc := "(II)I" } : Jvm.MethodName) prog_12_method_69_code (2 : Nat) (Option.some Jvm.ClassFile.FieldType.int)) ∈ GT := gmem2 (List.mem_of_getElem? (i := 71) rfl) rfl
theorem g2_72 : (Jvm.Cond.methodLink "JointedShadows$Pose" (90 : Nat) ({ cls := "java/lang/System", name := "arraycopy", desc := "(Ljava/lang/Object;ILjava/lang/Object;II)V" } : Jvm.MethodName)) ∈ GT := gmem2 (List.mem_of_getElem? (i := 72) rfl) rfl
theorem g2_73 : (Jvm.Cond.static ({ cls := "java/lang/System", name := "arraycopy", desc := "(Ljava/lang/Object;ILjava/lang/Object;II)V" } : Jvm.MethodName)) ∈ GT := gmem2 (List.mem_of_getElem? (i := 73) rfl) rfl
theorem g2_74 : (Jvm.Cond.native ({ cls := "java/lang/System", name := "arraycopy", desc := "(Ljava/lang/Object;ILjava/lang/Object;II)V" } : Jvm.MethodName)) ∈ GT := gmem2 (List.mem_of_getElem? (i := 74) rfl) rfl
theorem g2_75 : (Jvm.Cond.methodLink "JointedShadows$Pose" (63 : Nat) ({ cls := "JointedShadows$Pose", name := "follow", desc := "(LJointedShadows$Move;I)V" } : Jvm.MethodName)) ∈ GT := gmem2 (List.mem_of_getElem? (i := 75) rfl) rfl
theorem g2_77 : (Jvm.Cond.instanceMethod ({ cls := "JointedShadows$Pose", name := "follow", desc := "(LJointedShadows$Move;I)V" } : Jvm.MethodName)) ∈ GT := gmem2 (List.mem_of_getElem? (i := 77) rfl) rfl
theorem g2_78 : (Jvm.Cond.code ({ cls := "JointedShadows$Pose", name := "follow", desc := "(LJointedShadows$Move;I)V" } : Jvm.MethodName) prog_4_method_4_code (3 : Nat) (Option.none : Option Jvm.ClassFile.FieldType)) ∈ GT := gmem2 (List.mem_of_getElem? (i := 78) rfl) rfl
theorem g2_79 : (Jvm.Cond.methodLink "JointedShadows$Pose" (108 : Nat) ({ cls := "java/lang/Math", name := "max", desc := "(II)I" } : Jvm.MethodName)) ∈ GT := gmem2 (List.mem_of_getElem? (i := 79) rfl) rfl
theorem g2_80 : (Jvm.Cond.static ({ cls := "java/lang/Math", name := "max", desc := "(II)I" } : Jvm.MethodName)) ∈ GT := gmem2 (List.mem_of_getElem? (i := 80) rfl) rfl
theorem g2_81 : (Jvm.Cond.code ({ cls := "java/lang/Math", name := "max", desc := "(II)I" } : Jvm.MethodName) prog_12_method_65_code (2 : Nat) (Option.some Jvm.ClassFile.FieldType.int)) ∈ GT := gmem2 (List.mem_of_getElem? (i := 81) rfl) rfl
theorem g2_82 : (Jvm.Cond.methodLink "JointedShadows$Pose" (67 : Nat) ({ cls := "JointedShadows$Pose", name := "layPoints", desc := "(LJointedShadows$Figure;)V" } : Jvm.MethodName)) ∈ GT := gmem2 (List.mem_of_getElem? (i := 82) rfl) rfl
theorem g2_84 : (Jvm.Cond.instanceMethod ({ cls := "JointedShadows$Pose", name := "layPoints", desc := "(LJointedShadows$Figure;)V" } : Jvm.MethodName)) ∈ GT := gmem2 (List.mem_of_getElem? (i := 84) rfl) rfl
theorem g2_85 : (Jvm.Cond.code ({ cls := "JointedShadows$Pose", name := "layPoints", desc := "(LJointedShadows$Figure;)V" } : Jvm.MethodName) prog_4_method_5_code (6 : Nat) (Option.none : Option Jvm.ClassFile.FieldType)) ∈ GT := gmem2 (List.mem_of_getElem? (i := 85) rfl) rfl
theorem g2_86 : (Jvm.Cond.methodLink "JointedShadows$Pose" (114 : Nat) ({ cls := "JointedShadows$Figure", name := "start", desc := "(I)I" } : Jvm.MethodName)) ∈ GT := gmem2 (List.mem_of_getElem? (i := 86) rfl) rfl
theorem g2_87 : (Jvm.Cond.instanceMethod ({ cls := "JointedShadows$Figure", name := "start", desc := "(I)I" } : Jvm.MethodName)) ∈ GT := gmem2 (List.mem_of_getElem? (i := 87) rfl) rfl
theorem g2_88 : (Jvm.Cond.selects "JointedShadows$Figure" ({ cls := "JointedShadows$Figure", name := "start", desc := "(I)I" } : Jvm.MethodName) ({ cls := "JointedShadows$Figure", name := "start", desc := "(I)I" } : Jvm.MethodName)) ∈ GT := gmem2 (List.mem_of_getElem? (i := 88) rfl) rfl
theorem g2_89 : (Jvm.Cond.code ({ cls := "JointedShadows$Figure", name := "start", desc := "(I)I" } : Jvm.MethodName) prog_2_method_4_code (2 : Nat) (Option.some Jvm.ClassFile.FieldType.int)) ∈ GT := gmem2 (List.mem_of_getElem? (i := 89) rfl) rfl
theorem g2_90 : (Jvm.Cond.methodLink "JointedShadows$Pose" (118 : Nat) ({ cls := "java/lang/Math", name := "floorMod", desc := "(II)I" } : Jvm.MethodName)) ∈ GT := gmem2 (List.mem_of_getElem? (i := 90) rfl) rfl
theorem g2_91 : (Jvm.Cond.static ({ cls := "java/lang/Math", name := "floorMod", desc := "(II)I" } : Jvm.MethodName)) ∈ GT := gmem2 (List.mem_of_getElem? (i := 91) rfl) rfl
theorem g2_92 : (Jvm.Cond.code ({ cls := "java/lang/Math", name := "floorMod", desc := "(II)I" } : Jvm.MethodName) prog_12_method_50_code (3 : Nat) (Option.some Jvm.ClassFile.FieldType.int)) ∈ GT := gmem2 (List.mem_of_getElem? (i := 92) rfl) rfl
theorem g2_97 : (Jvm.Cond.methodLink "JointedShadows$Pose" (74 : Nat) ({ cls := "JointedShadows$Pose", name := "layBox", desc := "(I)V" } : Jvm.MethodName)) ∈ GT := gmem2 (List.mem_of_getElem? (i := 97) rfl) rfl
theorem g2_99 : (Jvm.Cond.instanceMethod ({ cls := "JointedShadows$Pose", name := "layBox", desc := "(I)V" } : Jvm.MethodName)) ∈ GT := gmem2 (List.mem_of_getElem? (i := 99) rfl) rfl
theorem g2_100 : (Jvm.Cond.code ({ cls := "JointedShadows$Pose", name := "layBox", desc := "(I)V" } : Jvm.MethodName) prog_4_method_6_code (3 : Nat) (Option.none : Option Jvm.ClassFile.FieldType)) ∈ GT := gmem2 (List.mem_of_getElem? (i := 100) rfl) rfl
theorem g2_101 : (Jvm.Cond.methodLink "JointedShadowsLaw" (50 : Nat) ({ cls := "JointedShadows", name := "box", desc := "(IIII)J" } : Jvm.MethodName)) ∈ GT := gmem2 (List.mem_of_getElem? (i := 101) rfl) rfl
theorem g2_102 : (Jvm.Cond.instanceMethod ({ cls := "JointedShadows", name := "box", desc := "(IIII)J" } : Jvm.MethodName)) ∈ GT := gmem2 (List.mem_of_getElem? (i := 102) rfl) rfl
theorem g2_103 : (Jvm.Cond.selects "JointedShadows" ({ cls := "JointedShadows", name := "box", desc := "(IIII)J" } : Jvm.MethodName) ({ cls := "JointedShadows", name := "box", desc := "(IIII)J" } : Jvm.MethodName)) ∈ GT := gmem2 (List.mem_of_getElem? (i := 103) rfl) rfl
theorem g2_104 : (Jvm.Cond.code ({ cls := "JointedShadows", name := "box", desc := "(IIII)J" } : Jvm.MethodName) prog_1_method_10_code (8 : Nat) (Option.some Jvm.ClassFile.FieldType.long)) ∈ GT := gmem2 (List.mem_of_getElem? (i := 104) rfl) rfl
theorem g2_105 : (Jvm.Cond.methodLink "JointedShadows" (135 : Nat) ({ cls := "JointedShadows$Pose", name := "measure", desc := "(I)I" } : Jvm.MethodName)) ∈ GT := gmem2 (List.mem_of_getElem? (i := 105) rfl) rfl
theorem g2_106 : (Jvm.Cond.instanceMethod ({ cls := "JointedShadows$Pose", name := "measure", desc := "(I)I" } : Jvm.MethodName)) ∈ GT := gmem2 (List.mem_of_getElem? (i := 106) rfl) rfl
theorem g2_107 : (Jvm.Cond.selects "JointedShadows$Pose" ({ cls := "JointedShadows$Pose", name := "measure", desc := "(I)I" } : Jvm.MethodName) ({ cls := "JointedShadows$Pose", name := "measure", desc := "(I)I" } : Jvm.MethodName)) ∈ GT := gmem2 (List.mem_of_getElem? (i := 107) rfl) rfl
theorem g2_108 : (Jvm.Cond.code ({ cls := "JointedShadows$Pose", name := "measure", desc := "(I)I" } : Jvm.MethodName) prog_4_method_8_code (2 : Nat) (Option.some Jvm.ClassFile.FieldType.int)) ∈ GT := gmem2 (List.mem_of_getElem? (i := 108) rfl) rfl
theorem g2_109 : (Jvm.Cond.methodLink "JointedShadows$Pose" (130 : Nat) ({ cls := "JointedShadows$Pose", name := "height", desc := "()I" } : Jvm.MethodName)) ∈ GT := gmem2 (List.mem_of_getElem? (i := 109) rfl) rfl
theorem g2_110 : (Jvm.Cond.instanceMethod ({ cls := "JointedShadows$Pose", name := "height", desc := "()I" } : Jvm.MethodName)) ∈ GT := gmem2 (List.mem_of_getElem? (i := 110) rfl) rfl
theorem g2_111 : (Jvm.Cond.selects "JointedShadows$Pose" ({ cls := "JointedShadows$Pose", name := "height", desc := "()I" } : Jvm.MethodName) ({ cls := "JointedShadows$Pose", name := "height", desc := "()I" } : Jvm.MethodName)) ∈ GT := gmem2 (List.mem_of_getElem? (i := 111) rfl) rfl
theorem g2_112 : (Jvm.Cond.code ({ cls := "JointedShadows$Pose", name := "height", desc := "()I" } : Jvm.MethodName) prog_4_method_7_code (1 : Nat) (Option.some Jvm.ClassFile.FieldType.int)) ∈ GT := gmem2 (List.mem_of_getElem? (i := 112) rfl) rfl
theorem g2_113 : (Jvm.Cond.methodLink "JointedShadows" (139 : Nat) ({ cls := "JointedShadows", name := "partOfFraction", desc := "(JJI)J" } : Jvm.MethodName)) ∈ GT := gmem2 (List.mem_of_getElem? (i := 113) rfl) rfl
theorem g2_114 : (Jvm.Cond.static ({ cls := "JointedShadows", name := "partOfFraction", desc := "(JJI)J" } : Jvm.MethodName)) ∈ GT := gmem2 (List.mem_of_getElem? (i := 114) rfl) rfl
theorem g2_115 : (Jvm.Cond.code ({ cls := "JointedShadows", name := "partOfFraction", desc := "(JJI)J" } : Jvm.MethodName) prog_1_method_32_code (7 : Nat) (Option.some Jvm.ClassFile.FieldType.long)) ∈ GT := gmem2 (List.mem_of_getElem? (i := 115) rfl) rfl
theorem g2_116 : (Jvm.Cond.methodLink "JointedShadows" (227 : Nat) ({ cls := "java/lang/Math", name := "abs", desc := "(J)J" } : Jvm.MethodName)) ∈ GT := gmem2 (List.mem_of_getElem? (i := 116) rfl) rfl
theorem g2_117 : (Jvm.Cond.static ({ cls := "java/lang/Math", name := "abs", desc := "(J)J" } : Jvm.MethodName)) ∈ GT := gmem2 (List.mem_of_getElem? (i := 117) rfl) rfl
theorem g2_118 : (Jvm.Cond.code ({ cls := "java/lang/Math", name := "abs", desc := "(J)J" } : Jvm.MethodName) prog_12_method_61_code (2 : Nat) (Option.some Jvm.ClassFile.FieldType.long)) ∈ GT := gmem2 (List.mem_of_getElem? (i := 118) rfl) rfl
theorem g2_119 : (Jvm.Cond.methodLink "JointedShadows" (231 : Nat) ({ cls := "JointedShadows", name := "commonDivisor", desc := "(JJ)J" } : Jvm.MethodName)) ∈ GT := gmem2 (List.mem_of_getElem? (i := 119) rfl) rfl
theorem g2_120 : (Jvm.Cond.static ({ cls := "JointedShadows", name := "commonDivisor", desc := "(JJ)J" } : Jvm.MethodName)) ∈ GT := gmem2 (List.mem_of_getElem? (i := 120) rfl) rfl
theorem g2_121 : (Jvm.Cond.code ({ cls := "JointedShadows", name := "commonDivisor", desc := "(JJ)J" } : Jvm.MethodName) prog_1_method_33_code (11 : Nat) (Option.some Jvm.ClassFile.FieldType.long)) ∈ GT := gmem2 (List.mem_of_getElem? (i := 121) rfl) rfl
theorem g2_122 : (Jvm.Cond.methodLink "JointedShadows" (159 : Nat) ({ cls := "java/lang/Math", name := "max", desc := "(JJ)J" } : Jvm.MethodName)) ∈ GT := gmem2 (List.mem_of_getElem? (i := 122) rfl) rfl
theorem g2_123 : (Jvm.Cond.static ({ cls := "java/lang/Math", name := "max", desc := "(JJ)J" } : Jvm.MethodName)) ∈ GT := gmem2 (List.mem_of_getElem? (i := 123) rfl) rfl
theorem g2_124 : (Jvm.Cond.code ({ cls := "java/lang/Math", name := "max", desc := "(JJ)J" } : Jvm.MethodName) prog_12_method_66_code (4 : Nat) (Option.some Jvm.ClassFile.FieldType.long)) ∈ GT := gmem2 (List.mem_of_getElem? (i := 124) rfl) rfl
theorem g2_125 : (Jvm.Cond.methodLink "JointedShadowsLaw" (54 : Nat) ({ cls := "JointedShadows", name := "overlap", desc := "(IIII)J" } : Jvm.MethodName)) ∈ GT := gmem2 (List.mem_of_getElem? (i := 125) rfl) rfl
theorem g2_126 : (Jvm.Cond.instanceMethod ({ cls := "JointedShadows", name := "overlap", desc := "(IIII)J" } : Jvm.MethodName)) ∈ GT := gmem2 (List.mem_of_getElem? (i := 126) rfl) rfl
theorem g2_127 : (Jvm.Cond.selects "JointedShadows" ({ cls := "JointedShadows", name := "overlap", desc := "(IIII)J" } : Jvm.MethodName) ({ cls := "JointedShadows", name := "overlap", desc := "(IIII)J" } : Jvm.MethodName)) ∈ GT := gmem2 (List.mem_of_getElem? (i := 127) rfl) rfl
theorem g2_128 : (Jvm.Cond.code ({ cls := "JointedShadows", name := "overlap", desc := "(IIII)J" } : Jvm.MethodName) prog_1_method_11_code (17 : Nat) (Option.some Jvm.ClassFile.FieldType.long)) ∈ GT := gmem2 (List.mem_of_getElem? (i := 128) rfl) rfl
theorem g2_129 : (Jvm.Cond.methodLink "JointedShadows" (143 : Nat) ({ cls := "JointedShadows", name := "takePoses", desc := "(LJointedShadows$Figure;LJointedShadows$Figure;I)V" } : Jvm.MethodName)) ∈ GT := gmem2 (List.mem_of_getElem? (i := 129) rfl) rfl
theorem g2_131 : (Jvm.Cond.instanceMethod ({ cls := "JointedShadows", name := "takePoses", desc := "(LJointedShadows$Figure;LJointedShadows$Figure;I)V" } : Jvm.MethodName)) ∈ GT := gmem2 (List.mem_of_getElem? (i := 131) rfl) rfl
theorem g2_132 : (Jvm.Cond.code ({ cls := "JointedShadows", name := "takePoses", desc := "(LJointedShadows$Figure;LJointedShadows$Figure;I)V" } : Jvm.MethodName) prog_1_method_30_code (4 : Nat) (Option.none : Option Jvm.ClassFile.FieldType)) ∈ GT := gmem2 (List.mem_of_getElem? (i := 132) rfl) rfl
theorem g2_133 : (Jvm.Cond.methodLink "JointedShadows" (150 : Nat) ({ cls := "java/lang/Math", name := "min", desc := "(JJ)J" } : Jvm.MethodName)) ∈ GT := gmem2 (List.mem_of_getElem? (i := 133) rfl) rfl
theorem g2_134 : (Jvm.Cond.static ({ cls := "java/lang/Math", name := "min", desc := "(JJ)J" } : Jvm.MethodName)) ∈ GT := gmem2 (List.mem_of_getElem? (i := 134) rfl) rfl
theorem g2_135 : (Jvm.Cond.code ({ cls := "java/lang/Math", name := "min", desc := "(JJ)J" } : Jvm.MethodName) prog_12_method_70_code (4 : Nat) (Option.some Jvm.ClassFile.FieldType.long)) ∈ GT := gmem2 (List.mem_of_getElem? (i := 135) rfl) rfl
theorem g2_136 : (Jvm.Cond.methodLink "JointedShadowsLaw" (58 : Nat) ({ cls := "JointedShadows", name := "crossings", desc := "(III)I" } : Jvm.MethodName)) ∈ GT := gmem2 (List.mem_of_getElem? (i := 136) rfl) rfl
theorem g2_137 : (Jvm.Cond.instanceMethod ({ cls := "JointedShadows", name := "crossings", desc := "(III)I" } : Jvm.MethodName)) ∈ GT := gmem2 (List.mem_of_getElem? (i := 137) rfl) rfl
theorem g2_138 : (Jvm.Cond.selects "JointedShadows" ({ cls := "JointedShadows", name := "crossings", desc := "(III)I" } : Jvm.MethodName) ({ cls := "JointedShadows", name := "crossings", desc := "(III)I" } : Jvm.MethodName)) ∈ GT := gmem2 (List.mem_of_getElem? (i := 138) rfl) rfl
theorem g2_139 : (Jvm.Cond.code ({ cls := "JointedShadows", name := "crossings", desc := "(III)I" } : Jvm.MethodName) prog_1_method_12_code (6 : Nat) (Option.some Jvm.ClassFile.FieldType.int)) ∈ GT := gmem2 (List.mem_of_getElem? (i := 139) rfl) rfl
theorem g2_140 : (Jvm.Cond.methodLink "JointedShadows" (168 : Nat) ({ cls := "JointedShadows", name := "crossingLimbs", desc := "(LJointedShadows$Figure;LJointedShadows$Figure;I)I" } : Jvm.MethodName)) ∈ GT := gmem2 (List.mem_of_getElem? (i := 140) rfl) rfl
theorem g2_142 : (Jvm.Cond.instanceMethod ({ cls := "JointedShadows", name := "crossingLimbs", desc := "(LJointedShadows$Figure;LJointedShadows$Figure;I)I" } : Jvm.MethodName)) ∈ GT := gmem2 (List.mem_of_getElem? (i := 142) rfl) rfl
theorem g2_143 : (Jvm.Cond.code ({ cls := "JointedShadows", name := "crossingLimbs", desc := "(LJointedShadows$Figure;LJointedShadows$Figure;I)I" } : Jvm.MethodName) prog_1_method_31_code (7 : Nat) (Option.some Jvm.ClassFile.FieldType.int)) ∈ GT := gmem2 (List.mem_of_getElem? (i := 143) rfl) rfl
theorem g2_144 : (Jvm.Cond.methodLink "JointedShadows" (216 : Nat) ({ cls := "JointedShadows$Figure", name := "start", desc := "(I)I" } : Jvm.MethodName)) ∈ GT := gmem2 (List.mem_of_getElem? (i := 144) rfl) rfl
theorem g2_145 : (Jvm.Cond.methodLink "JointedShadows" (219 : Nat) ({ cls := "JointedShadows$Segment", name := "lay", desc := "(LJointedShadows$Pose;III)V" } : Jvm.MethodName)) ∈ GT := gmem2 (List.mem_of_getElem? (i := 145) rfl) rfl
theorem g2_146 : (Jvm.Cond.instanceMethod ({ cls := "JointedShadows$Segment", name := "lay", desc := "(LJointedShadows$Pose;III)V" } : Jvm.MethodName)) ∈ GT := gmem2 (List.mem_of_getElem? (i := 146) rfl) rfl
theorem g2_147 : (Jvm.Cond.selects "JointedShadows$Segment" ({ cls := "JointedShadows$Segment", name := "lay", desc := "(LJointedShadows$Pose;III)V" } : Jvm.MethodName) ({ cls := "JointedShadows$Segment", name := "lay", desc := "(LJointedShadows$Pose;III)V" } : Jvm.MethodName)) ∈ GT := gmem2 (List.mem_of_getElem? (i := 147) rfl) rfl
theorem g2_148 : (Jvm.Cond.code ({ cls := "JointedShadows$Segment", name := "lay", desc := "(LJointedShadows$Pose;III)V" } : Jvm.MethodName) prog_7_method_2_code (5 : Nat) (Option.none : Option Jvm.ClassFile.FieldType)) ∈ GT := gmem2 (List.mem_of_getElem? (i := 148) rfl) rfl
theorem g2_149 : (Jvm.Cond.methodLink "JointedShadows" (223 : Nat) ({ cls := "JointedShadows$Segment", name := "meets", desc := "(LJointedShadows$Segment;)Z" } : Jvm.MethodName)) ∈ GT := gmem2 (List.mem_of_getElem? (i := 149) rfl) rfl
theorem g2_150 : (Jvm.Cond.instanceMethod ({ cls := "JointedShadows$Segment", name := "meets", desc := "(LJointedShadows$Segment;)Z" } : Jvm.MethodName)) ∈ GT := gmem2 (List.mem_of_getElem? (i := 150) rfl) rfl
theorem g2_151 : (Jvm.Cond.selects "JointedShadows$Segment" ({ cls := "JointedShadows$Segment", name := "meets", desc := "(LJointedShadows$Segment;)Z" } : Jvm.MethodName) ({ cls := "JointedShadows$Segment", name := "meets", desc := "(LJointedShadows$Segment;)Z" } : Jvm.MethodName)) ∈ GT := gmem2 (List.mem_of_getElem? (i := 151) rfl) rfl
theorem g2_152 : (Jvm.Cond.code ({ cls := "JointedShadows$Segment", name := "meets", desc := "(LJointedShadows$Segment;)Z" } : Jvm.MethodName) prog_7_method_3_code (2 : Nat) (Option.some Jvm.ClassFile.FieldType.boolean)) ∈ GT := gmem2 (List.mem_of_getElem? (i := 152) rfl) rfl
theorem g2_153 : (Jvm.Cond.methodLink "JointedShadows$Segment" (31 : Nat) ({ cls := "JointedShadows$Segment", name := "rangesMeet", desc := "(JJJJ)Z" } : Jvm.MethodName)) ∈ GT := gmem2 (List.mem_of_getElem? (i := 153) rfl) rfl
theorem g2_154 : (Jvm.Cond.static ({ cls := "JointedShadows$Segment", name := "rangesMeet", desc := "(JJJJ)Z" } : Jvm.MethodName)) ∈ GT := gmem2 (List.mem_of_getElem? (i := 154) rfl) rfl
theorem g2_155 : (Jvm.Cond.code ({ cls := "JointedShadows$Segment", name := "rangesMeet", desc := "(JJJJ)Z" } : Jvm.MethodName) prog_7_method_4_code (8 : Nat) (Option.some Jvm.ClassFile.FieldType.boolean)) ∈ GT := gmem2 (List.mem_of_getElem? (i := 155) rfl) rfl
theorem g2_156 : (Jvm.Cond.methodLink "JointedShadows$Segment" (39 : Nat) ({ cls := "java/lang/Math", name := "max", desc := "(JJ)J" } : Jvm.MethodName)) ∈ GT := gmem2 (List.mem_of_getElem? (i := 156) rfl) rfl
theorem g2_157 : (Jvm.Cond.methodLink "JointedShadows$Segment" (45 : Nat) ({ cls := "java/lang/Math", name := "min", desc := "(JJ)J" } : Jvm.MethodName)) ∈ GT := gmem2 (List.mem_of_getElem? (i := 157) rfl) rfl
theorem g2_158 : (Jvm.Cond.methodLink "JointedShadows$Segment" (35 : Nat) ({ cls := "JointedShadows$Segment", name := "lineMeets", desc := "(LJointedShadows$Segment;)Z" } : Jvm.MethodName)) ∈ GT := gmem2 (List.mem_of_getElem? (i := 158) rfl) rfl
theorem g2_160 : (Jvm.Cond.instanceMethod ({ cls := "JointedShadows$Segment", name := "lineMeets", desc := "(LJointedShadows$Segment;)Z" } : Jvm.MethodName)) ∈ GT := gmem2 (List.mem_of_getElem? (i := 160) rfl) rfl
theorem g2_161 : (Jvm.Cond.code ({ cls := "JointedShadows$Segment", name := "lineMeets", desc := "(LJointedShadows$Segment;)Z" } : Jvm.MethodName) prog_7_method_5_code (2 : Nat) (Option.some Jvm.ClassFile.FieldType.boolean)) ∈ GT := gmem2 (List.mem_of_getElem? (i := 161) rfl) rfl
theorem g2_162 : (Jvm.Cond.methodLink "JointedShadows$Segment" (48 : Nat) ({ cls := "JointedShadows$Segment", name := "side", desc := "(JJ)I" } : Jvm.MethodName)) ∈ GT := gmem2 (List.mem_of_getElem? (i := 162) rfl) rfl
theorem g2_164 : (Jvm.Cond.instanceMethod ({ cls := "JointedShadows$Segment", name := "side", desc := "(JJ)I" } : Jvm.MethodName)) ∈ GT := gmem2 (List.mem_of_getElem? (i := 164) rfl) rfl
theorem g2_165 : (Jvm.Cond.code ({ cls := "JointedShadows$Segment", name := "side", desc := "(JJ)I" } : Jvm.MethodName) prog_7_method_6_code (7 : Nat) (Option.some Jvm.ClassFile.FieldType.int)) ∈ GT := gmem2 (List.mem_of_getElem? (i := 165) rfl) rfl
theorem g2_166 : (Jvm.Cond.methodLink "JointedShadows$Segment" (52 : Nat) ({ cls := "java/lang/Long", name := "compare", desc := "(JJ)I" } : Jvm.MethodName)) ∈ GT := gmem2 (List.mem_of_getElem? (i := 166) rfl) rfl
theorem g2_167 : (Jvm.Cond.static ({ cls := "java/lang/Long", name := "compare", desc := "(JJ)I" } : Jvm.MethodName)) ∈ GT := gmem2 (List.mem_of_getElem? (i := 167) rfl) rfl
theorem g2_168 : (Jvm.Cond.code ({ cls := "java/lang/Long", name := "compare", desc := "(JJ)I" } : Jvm.MethodName) prog_11_method_42_code (4 : Nat) (Option.some Jvm.ClassFile.FieldType.int)) ∈ GT := gmem2 (List.mem_of_getElem? (i := 168) rfl) rfl
theorem g2_169 : (Jvm.Cond.methodLink "JointedShadowsLaw" (62 : Nat) ({ cls := "JointedShadows", name := "nextCrossing", desc := "(III)I" } : Jvm.MethodName)) ∈ GT := gmem2 (List.mem_of_getElem? (i := 169) rfl) rfl
theorem g2_170 : (Jvm.Cond.instanceMethod ({ cls := "JointedShadows", name := "nextCrossing", desc := "(III)I" } : Jvm.MethodName)) ∈ GT := gmem2 (List.mem_of_getElem? (i := 170) rfl) rfl
theorem g2_171 : (Jvm.Cond.selects "JointedShadows" ({ cls := "JointedShadows", name := "nextCrossing", desc := "(III)I" } : Jvm.MethodName) ({ cls := "JointedShadows", name := "nextCrossing", desc := "(III)I" } : Jvm.MethodName)) ∈ GT := gmem2 (List.mem_of_getElem? (i := 171) rfl) rfl
theorem g2_172 : (Jvm.Cond.code ({ cls := "JointedShadows", name := "nextCrossing", desc := "(III)I" } : Jvm.MethodName) prog_1_method_13_code (8 : Nat) (Option.some Jvm.ClassFile.FieldType.int)) ∈ GT := gmem2 (List.mem_of_getElem? (i := 172) rfl) rfl
theorem g2_173 : (Jvm.Cond.methodLink "JointedShadows" (172 : Nat) ({ cls := "JointedShadows$Script", name := "hasMoveIn", desc := "(I)Z" } : Jvm.MethodName)) ∈ GT := gmem2 (List.mem_of_getElem? (i := 173) rfl) rfl
theorem g2_174 : (Jvm.Cond.instanceMethod ({ cls := "JointedShadows$Script", name := "hasMoveIn", desc := "(I)Z" } : Jvm.MethodName)) ∈ GT := gmem2 (List.mem_of_getElem? (i := 174) rfl) rfl
theorem g2_175 : (Jvm.Cond.selects "JointedShadows$Script" ({ cls := "JointedShadows$Script", name := "hasMoveIn", desc := "(I)Z" } : Jvm.MethodName) ({ cls := "JointedShadows$Script", name := "hasMoveIn", desc := "(I)Z" } : Jvm.MethodName)) ∈ GT := gmem2 (List.mem_of_getElem? (i := 175) rfl) rfl
theorem g2_176 : (Jvm.Cond.code ({ cls := "JointedShadows$Script", name := "hasMoveIn", desc := "(I)Z" } : Jvm.MethodName) prog_6_method_5_code (6 : Nat) (Option.some Jvm.ClassFile.FieldType.boolean)) ∈ GT := gmem2 (List.mem_of_getElem? (i := 176) rfl) rfl
theorem g2_177 : (Jvm.Cond.methodLink "JointedShadowsLaw" (66 : Nat) ({ cls := "JointedShadows", name := "within", desc := "(III)I" } : Jvm.MethodName)) ∈ GT := gmem2 (List.mem_of_getElem? (i := 177) rfl) rfl
theorem g2_178 : (Jvm.Cond.instanceMethod ({ cls := "JointedShadows", name := "within", desc := "(III)I" } : Jvm.MethodName)) ∈ GT := gmem2 (List.mem_of_getElem? (i := 178) rfl) rfl
theorem g2_179 : (Jvm.Cond.selects "JointedShadows" ({ cls := "JointedShadows", name := "within", desc := "(III)I" } : Jvm.MethodName) ({ cls := "JointedShadows", name := "within", desc := "(III)I" } : Jvm.MethodName)) ∈ GT := gmem2 (List.mem_of_getElem? (i := 179) rfl) rfl
theorem g2_180 : (Jvm.Cond.code ({ cls := "JointedShadows", name := "within", desc := "(III)I" } : Jvm.MethodName) prog_1_method_14_code (9 : Nat) (Option.some Jvm.ClassFile.FieldType.int)) ∈ GT := gmem2 (List.mem_of_getElem? (i := 180) rfl) rfl
theorem g2_181 : (Jvm.Cond.methodLink "JointedShadows" (175 : Nat) ({ cls := "JointedShadows$Pose", name := "isWithin", desc := "(III)Z" } : Jvm.MethodName)) ∈ GT := gmem2 (List.mem_of_getElem? (i := 181) rfl) rfl
theorem g2_182 : (Jvm.Cond.instanceMethod ({ cls := "JointedShadows$Pose", name := "isWithin", desc := "(III)Z" } : Jvm.MethodName)) ∈ GT := gmem2 (List.mem_of_getElem? (i := 182) rfl) rfl
theorem g2_183 : (Jvm.Cond.selects "JointedShadows$Pose" ({ cls := "JointedShadows$Pose", name := "isWithin", desc := "(III)Z" } : Jvm.MethodName) ({ cls := "JointedShadows$Pose", name := "isWithin", desc := "(III)Z" } : Jvm.MethodName)) ∈ GT := gmem2 (List.mem_of_getElem? (i := 183) rfl) rfl
theorem g2_184 : (Jvm.Cond.code ({ cls := "JointedShadows$Pose", name := "isWithin", desc := "(III)Z" } : Jvm.MethodName) prog_4_method_9_code (6 : Nat) (Option.some Jvm.ClassFile.FieldType.boolean)) ∈ GT := gmem2 (List.mem_of_getElem? (i := 184) rfl) rfl
theorem g2_185 : (Jvm.Cond.methodLink "JointedShadowsLaw" (70 : Nat) ({ cls := "JointedShadows", name := "highest", desc := "(I)I" } : Jvm.MethodName)) ∈ GT := gmem2 (List.mem_of_getElem? (i := 185) rfl) rfl
theorem g2_186 : (Jvm.Cond.instanceMethod ({ cls := "JointedShadows", name := "highest", desc := "(I)I" } : Jvm.MethodName)) ∈ GT := gmem2 (List.mem_of_getElem? (i := 186) rfl) rfl
theorem g2_187 : (Jvm.Cond.selects "JointedShadows" ({ cls := "JointedShadows", name := "highest", desc := "(I)I" } : Jvm.MethodName) ({ cls := "JointedShadows", name := "highest", desc := "(I)I" } : Jvm.MethodName)) ∈ GT := gmem2 (List.mem_of_getElem? (i := 187) rfl) rfl
theorem g2_188 : (Jvm.Cond.code ({ cls := "JointedShadows", name := "highest", desc := "(I)I" } : Jvm.MethodName) prog_1_method_15_code (7 : Nat) (Option.some Jvm.ClassFile.FieldType.int)) ∈ GT := gmem2 (List.mem_of_getElem? (i := 188) rfl) rfl
theorem g2_189 : (Jvm.Cond.methodLink "JointedShadows" (179 : Nat) ({ cls := "JointedShadows", name := "isHigher", desc := "(LJointedShadows$Figure;LJointedShadows$Figure;I)Z" } : Jvm.MethodName)) ∈ GT := gmem2 (List.mem_of_getElem? (i := 189) rfl) rfl
theorem g2_191 : (Jvm.Cond.instanceMethod ({ cls := "JointedShadows", name := "isHigher", desc := "(LJointedShadows$Figure;LJointedShadows$Figure;I)Z" } : Jvm.MethodName)) ∈ GT := gmem2 (List.mem_of_getElem? (i := 191) rfl) rfl
theorem g2_192 : (Jvm.Cond.code ({ cls := "JointedShadows", name := "isHigher", desc := "(LJointedShadows$Figure;LJointedShadows$Figure;I)Z" } : Jvm.MethodName) prog_1_method_29_code (4 : Nat) (Option.some Jvm.ClassFile.FieldType.boolean)) ∈ GT := gmem2 (List.mem_of_getElem? (i := 192) rfl) rfl
theorem g2_193 : (Jvm.Cond.methodLink "JointedShadows" (184 : Nat) ({ cls := "JointedShadows$Pose", name := "height", desc := "()I" } : Jvm.MethodName)) ∈ GT := gmem2 (List.mem_of_getElem? (i := 193) rfl) rfl
theorem g2_194 : (Jvm.Cond.methodLink "JointedShadowsLaw" (74 : Nat) ({ cls := "JointedShadows", name := "planeFor", desc := "(III)I" } : Jvm.MethodName)) ∈ GT := gmem2 (List.mem_of_getElem? (i := 194) rfl) rfl
theorem g2_195 : (Jvm.Cond.instanceMethod ({ cls := "JointedShadows", name := "planeFor", desc := "(III)I" } : Jvm.MethodName)) ∈ GT := gmem2 (List.mem_of_getElem? (i := 195) rfl) rfl
theorem g2_196 : (Jvm.Cond.selects "JointedShadows" ({ cls := "JointedShadows", name := "planeFor", desc := "(III)I" } : Jvm.MethodName) ({ cls := "JointedShadows", name := "planeFor", desc := "(III)I" } : Jvm.MethodName)) ∈ GT := gmem2 (List.mem_of_getElem? (i := 196) rfl) rfl
theorem g2_197 : (Jvm.Cond.code ({ cls := "JointedShadows", name := "planeFor", desc := "(III)I" } : Jvm.MethodName) prog_1_method_16_code (6 : Nat) (Option.some Jvm.ClassFile.FieldType.int)) ∈ GT := gmem2 (List.mem_of_getElem? (i := 197) rfl) rfl
theorem g2_198 : (Jvm.Cond.constant "JointedShadows" (183 : Nat) (100000 : Int32)) ∈ GT := gmem2 (List.mem_of_getElem? (i := 198) rfl) rfl
theorem g2_199 : (Jvm.Cond.methodLink "JointedShadows" (187 : Nat) ({ cls := "java/lang/Math", name := "min", desc := "(II)I" } : Jvm.MethodName)) ∈ GT := gmem2 (List.mem_of_getElem? (i := 199) rfl) rfl
theorem g2_200 : (Jvm.Cond.methodLink "JointedShadowsLaw" (78 : Nat) ({ cls := "JointedShadows", name := "hands", desc := "(I)I" } : Jvm.MethodName)) ∈ GT := gmem2 (List.mem_of_getElem? (i := 200) rfl) rfl
theorem g2_201 : (Jvm.Cond.instanceMethod ({ cls := "JointedShadows", name := "hands", desc := "(I)I" } : Jvm.MethodName)) ∈ GT := gmem2 (List.mem_of_getElem? (i := 201) rfl) rfl
theorem g2_202 : (Jvm.Cond.selects "JointedShadows" ({ cls := "JointedShadows", name := "hands", desc := "(I)I" } : Jvm.MethodName) ({ cls := "JointedShadows", name := "hands", desc := "(I)I" } : Jvm.MethodName)) ∈ GT := gmem2 (List.mem_of_getElem? (i := 202) rfl) rfl
theorem g2_203 : (Jvm.Cond.code ({ cls := "JointedShadows", name := "hands", desc := "(I)I" } : Jvm.MethodName) prog_1_method_17_code (2 : Nat) (Option.some Jvm.ClassFile.FieldType.int)) ∈ GT := gmem2 (List.mem_of_getElem? (i := 203) rfl) rfl
theorem g2_204 : (Jvm.Cond.methodLink "JointedShadows" (190 : Nat) ({ cls := "JointedShadows", name := "handsOfAll", desc := "(I)I" } : Jvm.MethodName)) ∈ GT := gmem2 (List.mem_of_getElem? (i := 204) rfl) rfl
theorem g2_206 : (Jvm.Cond.instanceMethod ({ cls := "JointedShadows", name := "handsOfAll", desc := "(I)I" } : Jvm.MethodName)) ∈ GT := gmem2 (List.mem_of_getElem? (i := 206) rfl) rfl
theorem g2_207 : (Jvm.Cond.code ({ cls := "JointedShadows", name := "handsOfAll", desc := "(I)I" } : Jvm.MethodName) prog_1_method_28_code (7 : Nat) (Option.some Jvm.ClassFile.FieldType.int)) ∈ GT := gmem2 (List.mem_of_getElem? (i := 207) rfl) rfl
theorem g2_208 : (Jvm.Cond.methodLink "JointedShadows" (193 : Nat) ({ cls := "JointedShadows$Script", name := "rodsMoved", desc := "(II)I" } : Jvm.MethodName)) ∈ GT := gmem2 (List.mem_of_getElem? (i := 208) rfl) rfl
theorem g2_209 : (Jvm.Cond.instanceMethod ({ cls := "JointedShadows$Script", name := "rodsMoved", desc := "(II)I" } : Jvm.MethodName)) ∈ GT := gmem2 (List.mem_of_getElem? (i := 209) rfl) rfl
theorem g2_210 : (Jvm.Cond.selects "JointedShadows$Script" ({ cls := "JointedShadows$Script", name := "rodsMoved", desc := "(II)I" } : Jvm.MethodName) ({ cls := "JointedShadows$Script", name := "rodsMoved", desc := "(II)I" } : Jvm.MethodName)) ∈ GT := gmem2 (List.mem_of_getElem? (i := 210) rfl) rfl
theorem g2_211 : (Jvm.Cond.code ({ cls := "JointedShadows$Script", name := "rodsMoved", desc := "(II)I" } : Jvm.MethodName) prog_6_method_6_code (8 : Nat) (Option.some Jvm.ClassFile.FieldType.int)) ∈ GT := gmem2 (List.mem_of_getElem? (i := 211) rfl) rfl
theorem g2_212 : (Jvm.Cond.methodLink "JointedShadows$Script" (40 : Nat) ({ cls := "JointedShadows$Script", name := "rodBit", desc := "(I)I" } : Jvm.MethodName)) ∈ GT := gmem2 (List.mem_of_getElem? (i := 212) rfl) rfl
theorem g2_213 : (Jvm.Cond.static ({ cls := "JointedShadows$Script", name := "rodBit", desc := "(I)I" } : Jvm.MethodName)) ∈ GT := gmem2 (List.mem_of_getElem? (i := 213) rfl) rfl
theorem g2_214 : (Jvm.Cond.code ({ cls := "JointedShadows$Script", name := "rodBit", desc := "(I)I" } : Jvm.MethodName) prog_6_method_7_code (1 : Nat) (Option.some Jvm.ClassFile.FieldType.int)) ∈ GT := gmem2 (List.mem_of_getElem? (i := 214) rfl) rfl
theorem g2_215 : (Jvm.Cond.methodLink "JointedShadows" (213 : Nat) ({ cls := "JointedShadows$Figure", name := "handsFor", desc := "(I)I" } : Jvm.MethodName)) ∈ GT := gmem2 (List.mem_of_getElem? (i := 215) rfl) rfl
theorem g2_216 : (Jvm.Cond.instanceMethod ({ cls := "JointedShadows$Figure", name := "handsFor", desc := "(I)I" } : Jvm.MethodName)) ∈ GT := gmem2 (List.mem_of_getElem? (i := 216) rfl) rfl
theorem g2_217 : (Jvm.Cond.selects "JointedShadows$Figure" ({ cls := "JointedShadows$Figure", name := "handsFor", desc := "(I)I" } : Jvm.MethodName) ({ cls := "JointedShadows$Figure", name := "handsFor", desc := "(I)I" } : Jvm.MethodName)) ∈ GT := gmem2 (List.mem_of_getElem? (i := 217) rfl) rfl
theorem g2_218 : (Jvm.Cond.code ({ cls := "JointedShadows$Figure", name := "handsFor", desc := "(I)I" } : Jvm.MethodName) prog_2_method_5_code (6 : Nat) (Option.some Jvm.ClassFile.FieldType.int)) ∈ GT := gmem2 (List.mem_of_getElem? (i := 218) rfl) rfl
theorem g2_219 : (Jvm.Cond.methodLink "JointedShadows$Figure" (41 : Nat) ({ cls := "java/lang/Integer", name := "bitCount", desc := "(I)I" } : Jvm.MethodName)) ∈ GT := gmem2 (List.mem_of_getElem? (i := 219) rfl) rfl
theorem g2_220 : (Jvm.Cond.static ({ cls := "java/lang/Integer", name := "bitCount", desc := "(I)I" } : Jvm.MethodName)) ∈ GT := gmem2 (List.mem_of_getElem? (i := 220) rfl) rfl
theorem g2_221 : (Jvm.Cond.code ({ cls := "java/lang/Integer", name := "bitCount", desc := "(I)I" } : Jvm.MethodName) prog_10_method_49_code (1 : Nat) (Option.some Jvm.ClassFile.FieldType.int)) ∈ GT := gmem2 (List.mem_of_getElem? (i := 221) rfl) rfl
theorem g2_222 : (Jvm.Cond.constant "java/lang/Integer" (265 : Nat) (1431655765 : Int32)) ∈ GT := gmem2 (List.mem_of_getElem? (i := 222) rfl) rfl
theorem g2_223 : (Jvm.Cond.constant "java/lang/Integer" (266 : Nat) (858993459 : Int32)) ∈ GT := gmem2 (List.mem_of_getElem? (i := 223) rfl) rfl
theorem g2_224 : (Jvm.Cond.constant "java/lang/Integer" (267 : Nat) (252645135 : Int32)) ∈ GT := gmem2 (List.mem_of_getElem? (i := 224) rfl) rfl
theorem g2_225 : (Jvm.Cond.methodLink "JointedShadows$Figure" (47 : Nat) ({ cls := "JointedShadows$Script", name := "rodBit", desc := "(I)I" } : Jvm.MethodName)) ∈ GT := gmem2 (List.mem_of_getElem? (i := 225) rfl) rfl
theorem g2_226 : (Jvm.Cond.methodLink "JointedShadowsLaw" (82 : Nat) ({ cls := "JointedShadows", name := "busiestBeat", desc := "()I" } : Jvm.MethodName)) ∈ GT := gmem2 (List.mem_of_getElem? (i := 226) rfl) rfl
theorem g2_227 : (Jvm.Cond.instanceMethod ({ cls := "JointedShadows", name := "busiestBeat", desc := "()I" } : Jvm.MethodName)) ∈ GT := gmem2 (List.mem_of_getElem? (i := 227) rfl) rfl
theorem g2_228 : (Jvm.Cond.selects "JointedShadows" ({ cls := "JointedShadows", name := "busiestBeat", desc := "()I" } : Jvm.MethodName) ({ cls := "JointedShadows", name := "busiestBeat", desc := "()I" } : Jvm.MethodName)) ∈ GT := gmem2 (List.mem_of_getElem? (i := 228) rfl) rfl
theorem g2_229 : (Jvm.Cond.code ({ cls := "JointedShadows", name := "busiestBeat", desc := "()I" } : Jvm.MethodName) prog_1_method_18_code (5 : Nat) (Option.some Jvm.ClassFile.FieldType.int)) ∈ GT := gmem2 (List.mem_of_getElem? (i := 229) rfl) rfl
theorem g2_230 : (Jvm.Cond.methodLink "JointedShadowsLaw" (87 : Nat) ({ cls := "JointedShadows", name := "activeRods", desc := "(II)I" } : Jvm.MethodName)) ∈ GT := gmem2 (List.mem_of_getElem? (i := 230) rfl) rfl
theorem g2_231 : (Jvm.Cond.instanceMethod ({ cls := "JointedShadows", name := "activeRods", desc := "(II)I" } : Jvm.MethodName)) ∈ GT := gmem2 (List.mem_of_getElem? (i := 231) rfl) rfl
theorem g2_232 : (Jvm.Cond.selects "JointedShadows" ({ cls := "JointedShadows", name := "activeRods", desc := "(II)I" } : Jvm.MethodName) ({ cls := "JointedShadows", name := "activeRods", desc := "(II)I" } : Jvm.MethodName)) ∈ GT := gmem2 (List.mem_of_getElem? (i := 232) rfl) rfl
theorem g2_233 : (Jvm.Cond.code ({ cls := "JointedShadows", name := "activeRods", desc := "(II)I" } : Jvm.MethodName) prog_1_method_19_code (3 : Nat) (Option.some Jvm.ClassFile.FieldType.int)) ∈ GT := gmem2 (List.mem_of_getElem? (i := 233) rfl) rfl
theorem g2_234 : (Jvm.Cond.methodLink "JointedShadows" (196 : Nat) ({ cls := "java/lang/Integer", name := "bitCount", desc := "(I)I" } : Jvm.MethodName)) ∈ GT := gmem2 (List.mem_of_getElem? (i := 234) rfl) rfl
theorem g2_235 : (Jvm.Cond.methodLink "JointedShadowsLaw" (92 : Nat) ({ cls := "JointedShadows", name := "addScene", desc := "(I)I" } : Jvm.MethodName)) ∈ GT := gmem2 (List.mem_of_getElem? (i := 235) rfl) rfl
theorem g2_236 : (Jvm.Cond.instanceMethod ({ cls := "JointedShadows", name := "addScene", desc := "(I)I" } : Jvm.MethodName)) ∈ GT := gmem2 (List.mem_of_getElem? (i := 236) rfl) rfl
theorem g2_237 : (Jvm.Cond.selects "JointedShadows" ({ cls := "JointedShadows", name := "addScene", desc := "(I)I" } : Jvm.MethodName) ({ cls := "JointedShadows", name := "addScene", desc := "(I)I" } : Jvm.MethodName)) ∈ GT := gmem2 (List.mem_of_getElem? (i := 237) rfl) rfl
theorem g2_238 : (Jvm.Cond.code ({ cls := "JointedShadows", name := "addScene", desc := "(I)I" } : Jvm.MethodName) prog_1_method_20_code (2 : Nat) (Option.some Jvm.ClassFile.FieldType.int)) ∈ GT := gmem2 (List.mem_of_getElem? (i := 238) rfl) rfl
theorem g2_239 : (Jvm.Cond.methodLink "JointedShadows" (201 : Nat) ({ cls := "JointedShadows$Scenes", name := "append", desc := "(I)I" } : Jvm.MethodName)) ∈ GT := gmem2 (List.mem_of_getElem? (i := 239) rfl) rfl
theorem g3_0 : (Jvm.Cond.instanceMethod ({ cls := "JointedShadows$Scenes", name := "append", desc := "(I)I" } : Jvm.MethodName)) ∈ GT := gmem3 (List.mem_of_getElem? (i := 0) rfl) rfl
theorem g3_1 : (Jvm.Cond.selects "JointedShadows$Scenes" ({ cls := "JointedShadows$Scenes", name := "append", desc := "(I)I" } : Jvm.MethodName) ({ cls := "JointedShadows$Scenes", name := "append", desc := "(I)I" } : Jvm.MethodName)) ∈ GT := gmem3 (List.mem_of_getElem? (i := 1) rfl) rfl
theorem g3_2 : (Jvm.Cond.code ({ cls := "JointedShadows$Scenes", name := "append", desc := "(I)I" } : Jvm.MethodName) prog_5_method_2_code (3 : Nat) (Option.some Jvm.ClassFile.FieldType.int)) ∈ GT := gmem3 (List.mem_of_getElem? (i := 2) rfl) rfl
theorem g3_3 : (Jvm.Cond.methodLink "JointedShadows$Scenes" (22 : Nat) ({ cls := "JointedShadows$Scenes", name := "fillLeast", desc := "()V" } : Jvm.MethodName)) ∈ GT := gmem3 (List.mem_of_getElem? (i := 3) rfl) rfl
theorem g3_5 : (Jvm.Cond.instanceMethod ({ cls := "JointedShadows$Scenes", name := "fillLeast", desc := "()V" } : Jvm.MethodName)) ∈ GT := gmem3 (List.mem_of_getElem? (i := 5) rfl) rfl
theorem g3_6 : (Jvm.Cond.code ({ cls := "JointedShadows$Scenes", name := "fillLeast", desc := "()V" } : Jvm.MethodName) prog_5_method_6_code (4 : Nat) (Option.none : Option Jvm.ClassFile.FieldType)) ∈ GT := gmem3 (List.mem_of_getElem? (i := 6) rfl) rfl
theorem g3_7 : (Jvm.Cond.methodLink "JointedShadows$Scenes" (25 : Nat) ({ cls := "JointedShadows$Scenes", name := "allButFirst", desc := "()I" } : Jvm.MethodName)) ∈ GT := gmem3 (List.mem_of_getElem? (i := 7) rfl) rfl
theorem g3_9 : (Jvm.Cond.instanceMethod ({ cls := "JointedShadows$Scenes", name := "allButFirst", desc := "()I" } : Jvm.MethodName)) ∈ GT := gmem3 (List.mem_of_getElem? (i := 9) rfl) rfl
theorem g3_10 : (Jvm.Cond.code ({ cls := "JointedShadows$Scenes", name := "allButFirst", desc := "()I" } : Jvm.MethodName) prog_5_method_10_code (1 : Nat) (Option.some Jvm.ClassFile.FieldType.int)) ∈ GT := gmem3 (List.mem_of_getElem? (i := 10) rfl) rfl
theorem g3_11 : (Jvm.Cond.methodLink "JointedShadows$Scenes" (40 : Nat) ({ cls := "JointedShadows$Scenes", name := "isIn", desc := "(II)Z" } : Jvm.MethodName)) ∈ GT := gmem3 (List.mem_of_getElem? (i := 11) rfl) rfl
theorem g3_12 : (Jvm.Cond.static ({ cls := "JointedShadows$Scenes", name := "isIn", desc := "(II)Z" } : Jvm.MethodName)) ∈ GT := gmem3 (List.mem_of_getElem? (i := 12) rfl) rfl
theorem g3_13 : (Jvm.Cond.code ({ cls := "JointedShadows$Scenes", name := "isIn", desc := "(II)Z" } : Jvm.MethodName) prog_5_method_11_code (2 : Nat) (Option.some Jvm.ClassFile.FieldType.boolean)) ∈ GT := gmem3 (List.mem_of_getElem? (i := 13) rfl) rfl
theorem g3_14 : (Jvm.Cond.methodLink "JointedShadows$Scenes" (36 : Nat) ({ cls := "JointedShadows$Scenes", name := "sceneBit", desc := "(I)I" } : Jvm.MethodName)) ∈ GT := gmem3 (List.mem_of_getElem? (i := 14) rfl) rfl
theorem g3_15 : (Jvm.Cond.static ({ cls := "JointedShadows$Scenes", name := "sceneBit", desc := "(I)I" } : Jvm.MethodName)) ∈ GT := gmem3 (List.mem_of_getElem? (i := 15) rfl) rfl
theorem g3_16 : (Jvm.Cond.code ({ cls := "JointedShadows$Scenes", name := "sceneBit", desc := "(I)I" } : Jvm.MethodName) prog_5_method_12_code (1 : Nat) (Option.some Jvm.ClassFile.FieldType.int)) ∈ GT := gmem3 (List.mem_of_getElem? (i := 16) rfl) rfl
theorem g3_17 : (Jvm.Cond.methodLink "JointedShadows$Scenes" (33 : Nat) ({ cls := "JointedShadows$Scenes", name := "firstBestNext", desc := "(II)I" } : Jvm.MethodName)) ∈ GT := gmem3 (List.mem_of_getElem? (i := 17) rfl) rfl
theorem g3_19 : (Jvm.Cond.instanceMethod ({ cls := "JointedShadows$Scenes", name := "firstBestNext", desc := "(II)I" } : Jvm.MethodName)) ∈ GT := gmem3 (List.mem_of_getElem? (i := 19) rfl) rfl
theorem g3_20 : (Jvm.Cond.code ({ cls := "JointedShadows$Scenes", name := "firstBestNext", desc := "(II)I" } : Jvm.MethodName) prog_5_method_7_code (7 : Nat) (Option.some Jvm.ClassFile.FieldType.int)) ∈ GT := gmem3 (List.mem_of_getElem? (i := 20) rfl) rfl
theorem g3_21 : (Jvm.Cond.constant "JointedShadows$Scenes" (50 : Nat) (2147483647 : Int32)) ∈ GT := gmem3 (List.mem_of_getElem? (i := 21) rfl) rfl
theorem g3_22 : (Jvm.Cond.methodLink "JointedShadows$Scenes" (44 : Nat) ({ cls := "JointedShadows$Scenes", name := "costVia", desc := "(III)I" } : Jvm.MethodName)) ∈ GT := gmem3 (List.mem_of_getElem? (i := 22) rfl) rfl
theorem g3_24 : (Jvm.Cond.instanceMethod ({ cls := "JointedShadows$Scenes", name := "costVia", desc := "(III)I" } : Jvm.MethodName)) ∈ GT := gmem3 (List.mem_of_getElem? (i := 24) rfl) rfl
theorem g3_25 : (Jvm.Cond.code ({ cls := "JointedShadows$Scenes", name := "costVia", desc := "(III)I" } : Jvm.MethodName) prog_5_method_8_code (4 : Nat) (Option.some Jvm.ClassFile.FieldType.int)) ∈ GT := gmem3 (List.mem_of_getElem? (i := 25) rfl) rfl
theorem g3_26 : (Jvm.Cond.methodLink "JointedShadows$Scenes" (51 : Nat) ({ cls := "java/lang/Integer", name := "bitCount", desc := "(I)I" } : Jvm.MethodName)) ∈ GT := gmem3 (List.mem_of_getElem? (i := 26) rfl) rfl
theorem g3_27 : (Jvm.Cond.methodLink "JointedShadows$Scenes" (29 : Nat) ({ cls := "JointedShadows$Scenes", name := "least", desc := "(II)I" } : Jvm.MethodName)) ∈ GT := gmem3 (List.mem_of_getElem? (i := 27) rfl) rfl
theorem g3_29 : (Jvm.Cond.instanceMethod ({ cls := "JointedShadows$Scenes", name := "least", desc := "(II)I" } : Jvm.MethodName)) ∈ GT := gmem3 (List.mem_of_getElem? (i := 29) rfl) rfl
theorem g3_30 : (Jvm.Cond.code ({ cls := "JointedShadows$Scenes", name := "least", desc := "(II)I" } : Jvm.MethodName) prog_5_method_9_code (3 : Nat) (Option.some Jvm.ClassFile.FieldType.int)) ∈ GT := gmem3 (List.mem_of_getElem? (i := 30) rfl) rfl
theorem g3_31 : (Jvm.Cond.methodLink "JointedShadowsLaw" (96 : Nat) ({ cls := "JointedShadows", name := "clearScenes", desc := "()I" } : Jvm.MethodName)) ∈ GT := gmem3 (List.mem_of_getElem? (i := 31) rfl) rfl
theorem g3_32 : (Jvm.Cond.instanceMethod ({ cls := "JointedShadows", name := "clearScenes", desc := "()I" } : Jvm.MethodName)) ∈ GT := gmem3 (List.mem_of_getElem? (i := 32) rfl) rfl
theorem g3_33 : (Jvm.Cond.selects "JointedShadows" ({ cls := "JointedShadows", name := "clearScenes", desc := "()I" } : Jvm.MethodName) ({ cls := "JointedShadows", name := "clearScenes", desc := "()I" } : Jvm.MethodName)) ∈ GT := gmem3 (List.mem_of_getElem? (i := 33) rfl) rfl
theorem g3_34 : (Jvm.Cond.code ({ cls := "JointedShadows", name := "clearScenes", desc := "()I" } : Jvm.MethodName) prog_1_method_21_code (2 : Nat) (Option.some Jvm.ClassFile.FieldType.int)) ∈ GT := gmem3 (List.mem_of_getElem? (i := 34) rfl) rfl
theorem g3_35 : (Jvm.Cond.methodLink "JointedShadows" (204 : Nat) ({ cls := "JointedShadows$Scenes", name := "clear", desc := "()V" } : Jvm.MethodName)) ∈ GT := gmem3 (List.mem_of_getElem? (i := 35) rfl) rfl
theorem g3_36 : (Jvm.Cond.instanceMethod ({ cls := "JointedShadows$Scenes", name := "clear", desc := "()V" } : Jvm.MethodName)) ∈ GT := gmem3 (List.mem_of_getElem? (i := 36) rfl) rfl
theorem g3_37 : (Jvm.Cond.selects "JointedShadows$Scenes" ({ cls := "JointedShadows$Scenes", name := "clear", desc := "()V" } : Jvm.MethodName) ({ cls := "JointedShadows$Scenes", name := "clear", desc := "()V" } : Jvm.MethodName)) ∈ GT := gmem3 (List.mem_of_getElem? (i := 37) rfl) rfl
theorem g3_38 : (Jvm.Cond.code ({ cls := "JointedShadows$Scenes", name := "clear", desc := "()V" } : Jvm.MethodName) prog_5_method_3_code (1 : Nat) (Option.none : Option Jvm.ClassFile.FieldType)) ∈ GT := gmem3 (List.mem_of_getElem? (i := 38) rfl) rfl
theorem g3_39 : (Jvm.Cond.methodLink "JointedShadowsLaw" (100 : Nat) ({ cls := "JointedShadows", name := "bestScene", desc := "(I)I" } : Jvm.MethodName)) ∈ GT := gmem3 (List.mem_of_getElem? (i := 39) rfl) rfl
theorem g3_40 : (Jvm.Cond.instanceMethod ({ cls := "JointedShadows", name := "bestScene", desc := "(I)I" } : Jvm.MethodName)) ∈ GT := gmem3 (List.mem_of_getElem? (i := 40) rfl) rfl
theorem g3_41 : (Jvm.Cond.selects "JointedShadows" ({ cls := "JointedShadows", name := "bestScene", desc := "(I)I" } : Jvm.MethodName) ({ cls := "JointedShadows", name := "bestScene", desc := "(I)I" } : Jvm.MethodName)) ∈ GT := gmem3 (List.mem_of_getElem? (i := 41) rfl) rfl
theorem g3_42 : (Jvm.Cond.code ({ cls := "JointedShadows", name := "bestScene", desc := "(I)I" } : Jvm.MethodName) prog_1_method_22_code (2 : Nat) (Option.some Jvm.ClassFile.FieldType.int)) ∈ GT := gmem3 (List.mem_of_getElem? (i := 42) rfl) rfl
theorem g3_43 : (Jvm.Cond.methodLink "JointedShadows" (207 : Nat) ({ cls := "JointedShadows$Scenes", name := "sceneAt", desc := "(I)I" } : Jvm.MethodName)) ∈ GT := gmem3 (List.mem_of_getElem? (i := 43) rfl) rfl
theorem g3_44 : (Jvm.Cond.instanceMethod ({ cls := "JointedShadows$Scenes", name := "sceneAt", desc := "(I)I" } : Jvm.MethodName)) ∈ GT := gmem3 (List.mem_of_getElem? (i := 44) rfl) rfl
theorem g3_45 : (Jvm.Cond.selects "JointedShadows$Scenes" ({ cls := "JointedShadows$Scenes", name := "sceneAt", desc := "(I)I" } : Jvm.MethodName) ({ cls := "JointedShadows$Scenes", name := "sceneAt", desc := "(I)I" } : Jvm.MethodName)) ∈ GT := gmem3 (List.mem_of_getElem? (i := 45) rfl) rfl
theorem g3_46 : (Jvm.Cond.code ({ cls := "JointedShadows$Scenes", name := "sceneAt", desc := "(I)I" } : Jvm.MethodName) prog_5_method_5_code (5 : Nat) (Option.some Jvm.ClassFile.FieldType.int)) ∈ GT := gmem3 (List.mem_of_getElem? (i := 46) rfl) rfl
theorem g3_47 : (Jvm.Cond.methodLink "JointedShadowsLaw" (104 : Nat) ({ cls := "JointedShadows", name := "bestCost", desc := "()I" } : Jvm.MethodName)) ∈ GT := gmem3 (List.mem_of_getElem? (i := 47) rfl) rfl
theorem g3_48 : (Jvm.Cond.instanceMethod ({ cls := "JointedShadows", name := "bestCost", desc := "()I" } : Jvm.MethodName)) ∈ GT := gmem3 (List.mem_of_getElem? (i := 48) rfl) rfl
theorem g3_49 : (Jvm.Cond.selects "JointedShadows" ({ cls := "JointedShadows", name := "bestCost", desc := "()I" } : Jvm.MethodName) ({ cls := "JointedShadows", name := "bestCost", desc := "()I" } : Jvm.MethodName)) ∈ GT := gmem3 (List.mem_of_getElem? (i := 49) rfl) rfl
theorem g3_50 : (Jvm.Cond.code ({ cls := "JointedShadows", name := "bestCost", desc := "()I" } : Jvm.MethodName) prog_1_method_23_code (1 : Nat) (Option.some Jvm.ClassFile.FieldType.int)) ∈ GT := gmem3 (List.mem_of_getElem? (i := 50) rfl) rfl
theorem g3_51 : (Jvm.Cond.methodLink "JointedShadows" (210 : Nat) ({ cls := "JointedShadows$Scenes", name := "leastCost", desc := "()I" } : Jvm.MethodName)) ∈ GT := gmem3 (List.mem_of_getElem? (i := 51) rfl) rfl
theorem g3_52 : (Jvm.Cond.instanceMethod ({ cls := "JointedShadows$Scenes", name := "leastCost", desc := "()I" } : Jvm.MethodName)) ∈ GT := gmem3 (List.mem_of_getElem? (i := 52) rfl) rfl
theorem g3_53 : (Jvm.Cond.selects "JointedShadows$Scenes" ({ cls := "JointedShadows$Scenes", name := "leastCost", desc := "()I" } : Jvm.MethodName) ({ cls := "JointedShadows$Scenes", name := "leastCost", desc := "()I" } : Jvm.MethodName)) ∈ GT := gmem3 (List.mem_of_getElem? (i := 53) rfl) rfl
theorem g3_54 : (Jvm.Cond.code ({ cls := "JointedShadows$Scenes", name := "leastCost", desc := "()I" } : Jvm.MethodName) prog_5_method_4_code (1 : Nat) (Option.some Jvm.ClassFile.FieldType.int)) ∈ GT := gmem3 (List.mem_of_getElem? (i := 54) rfl) rfl
theorem g3_55 : (Jvm.Cond.classLink "JointedShadowsLaw" (10 : Nat) "JointedShadowsModel") ∈ GT := gmem3 (List.mem_of_getElem? (i := 55) rfl) rfl
theorem g3_56 : (Jvm.Cond.instantiable "JointedShadowsModel" (27 : Nat)) ∈ GT := gmem3 (List.mem_of_getElem? (i := 56) rfl) rfl
theorem g3_57 : (Jvm.Cond.methodLink "JointedShadowsLaw" (12 : Nat) ({ cls := "JointedShadowsModel", name := "<init>", desc := "()V" } : Jvm.MethodName)) ∈ GT := gmem3 (List.mem_of_getElem? (i := 57) rfl) rfl
theorem g3_58 : (Jvm.Cond.instanceMethod ({ cls := "JointedShadowsModel", name := "<init>", desc := "()V" } : Jvm.MethodName)) ∈ GT := gmem3 (List.mem_of_getElem? (i := 58) rfl) rfl
theorem g3_59 : (Jvm.Cond.code ({ cls := "JointedShadowsModel", name := "<init>", desc := "()V" } : Jvm.MethodName) prog_9_method_1_code (1 : Nat) (Option.none : Option Jvm.ClassFile.FieldType)) ∈ GT := gmem3 (List.mem_of_getElem? (i := 59) rfl) rfl
theorem g3_60 : (Jvm.Cond.methodLink "JointedShadowsModel" (1 : Nat) ({ cls := "java/lang/Object", name := "<init>", desc := "()V" } : Jvm.MethodName)) ∈ GT := gmem3 (List.mem_of_getElem? (i := 60) rfl) rfl
theorem g3_61 : (Jvm.Cond.fieldLink "JointedShadowsModel" (80 : Nat) "JointedShadowsModel" "screen" "I") ∈ GT := gmem3 (List.mem_of_getElem? (i := 61) rfl) rfl
theorem g3_62 : (Jvm.Cond.fieldLink "JointedShadowsModel" (86 : Nat) "JointedShadowsModel" "figures" "I") ∈ GT := gmem3 (List.mem_of_getElem? (i := 62) rfl) rfl
theorem g3_63 : (Jvm.Cond.fieldLink "JointedShadowsModel" (7 : Nat) "JointedShadowsModel" "baseX" "[I") ∈ GT := gmem3 (List.mem_of_getElem? (i := 63) rfl) rfl
theorem g3_64 : (Jvm.Cond.fieldLink "JointedShadowsModel" (13 : Nat) "JointedShadowsModel" "baseY" "[I") ∈ GT := gmem3 (List.mem_of_getElem? (i := 64) rfl) rfl
theorem g3_65 : (Jvm.Cond.fieldLink "JointedShadowsModel" (16 : Nat) "JointedShadowsModel" "baseIn" "[I") ∈ GT := gmem3 (List.mem_of_getElem? (i := 65) rfl) rfl
theorem g3_66 : (Jvm.Cond.fieldLink "JointedShadowsModel" (19 : Nat) "JointedShadowsModel" "limbs" "[I") ∈ GT := gmem3 (List.mem_of_getElem? (i := 66) rfl) rfl
theorem g3_67 : (Jvm.Cond.fieldLink "JointedShadowsModel" (22 : Nat) "JointedShadowsModel" "parentOf" "[I") ∈ GT := gmem3 (List.mem_of_getElem? (i := 67) rfl) rfl
theorem g3_68 : (Jvm.Cond.fieldLink "JointedShadowsModel" (25 : Nat) "JointedShadowsModel" "lengthOf" "[I") ∈ GT := gmem3 (List.mem_of_getElem? (i := 68) rfl) rfl
theorem g3_69 : (Jvm.Cond.fieldLink "JointedShadowsModel" (28 : Nat) "JointedShadowsModel" "directionOf" "[I") ∈ GT := gmem3 (List.mem_of_getElem? (i := 69) rfl) rfl
theorem g3_70 : (Jvm.Cond.fieldLink "JointedShadowsModel" (101 : Nat) "JointedShadowsModel" "moves" "I") ∈ GT := gmem3 (List.mem_of_getElem? (i := 70) rfl) rfl
theorem g3_71 : (Jvm.Cond.fieldLink "JointedShadowsModel" (31 : Nat) "JointedShadowsModel" "beatOf" "[I") ∈ GT := gmem3 (List.mem_of_getElem? (i := 71) rfl) rfl
theorem g3_72 : (Jvm.Cond.fieldLink "JointedShadowsModel" (34 : Nat) "JointedShadowsModel" "figureOf" "[I") ∈ GT := gmem3 (List.mem_of_getElem? (i := 72) rfl) rfl
theorem g3_73 : (Jvm.Cond.fieldLink "JointedShadowsModel" (37 : Nat) "JointedShadowsModel" "limbOf" "[I") ∈ GT := gmem3 (List.mem_of_getElem? (i := 73) rfl) rfl
theorem g3_74 : (Jvm.Cond.fieldLink "JointedShadowsModel" (40 : Nat) "JointedShadowsModel" "addX" "[I") ∈ GT := gmem3 (List.mem_of_getElem? (i := 74) rfl) rfl
theorem g3_75 : (Jvm.Cond.fieldLink "JointedShadowsModel" (43 : Nat) "JointedShadowsModel" "addY" "[I") ∈ GT := gmem3 (List.mem_of_getElem? (i := 75) rfl) rfl
theorem g3_76 : (Jvm.Cond.fieldLink "JointedShadowsModel" (46 : Nat) "JointedShadowsModel" "addIn" "[I") ∈ GT := gmem3 (List.mem_of_getElem? (i := 76) rfl) rfl
theorem g3_77 : (Jvm.Cond.fieldLink "JointedShadowsModel" (49 : Nat) "JointedShadowsModel" "planeOf" "[I") ∈ GT := gmem3 (List.mem_of_getElem? (i := 77) rfl) rfl
theorem g3_78 : (Jvm.Cond.fieldLink "JointedShadowsModel" (52 : Nat) "JointedShadowsModel" "turnOf" "[I") ∈ GT := gmem3 (List.mem_of_getElem? (i := 78) rfl) rfl
theorem g3_79 : (Jvm.Cond.fieldLink "JointedShadowsModel" (55 : Nat) "JointedShadowsModel" "pointX" "[J") ∈ GT := gmem3 (List.mem_of_getElem? (i := 79) rfl) rfl
theorem g3_80 : (Jvm.Cond.fieldLink "JointedShadowsModel" (59 : Nat) "JointedShadowsModel" "pointY" "[J") ∈ GT := gmem3 (List.mem_of_getElem? (i := 80) rfl) rfl
theorem g3_81 : (Jvm.Cond.fieldLink "JointedShadowsModel" (62 : Nat) "JointedShadowsModel" "pointTurn" "[I") ∈ GT := gmem3 (List.mem_of_getElem? (i := 81) rfl) rfl
theorem g3_82 : (Jvm.Cond.fieldLink "JointedShadowsModel" (65 : Nat) "JointedShadowsModel" "endX" "[J") ∈ GT := gmem3 (List.mem_of_getElem? (i := 82) rfl) rfl
theorem g3_83 : (Jvm.Cond.fieldLink "JointedShadowsModel" (68 : Nat) "JointedShadowsModel" "endY" "[J") ∈ GT := gmem3 (List.mem_of_getElem? (i := 83) rfl) rfl
theorem g3_84 : (Jvm.Cond.fieldLink "JointedShadowsModel" (104 : Nat) "JointedShadowsModel" "scenes" "I") ∈ GT := gmem3 (List.mem_of_getElem? (i := 84) rfl) rfl
theorem g3_85 : (Jvm.Cond.fieldLink "JointedShadowsModel" (71 : Nat) "JointedShadowsModel" "sceneOf" "[I") ∈ GT := gmem3 (List.mem_of_getElem? (i := 85) rfl) rfl
theorem g3_86 : (Jvm.Cond.fieldLink "JointedShadowsModel" (74 : Nat) "JointedShadowsModel" "orderNow" "[I") ∈ GT := gmem3 (List.mem_of_getElem? (i := 86) rfl) rfl
theorem g3_87 : (Jvm.Cond.fieldLink "JointedShadowsModel" (77 : Nat) "JointedShadowsModel" "orderBest" "[I") ∈ GT := gmem3 (List.mem_of_getElem? (i := 87) rfl) rfl
theorem g3_88 : (Jvm.Cond.lays "JointedShadowsModel" "JointedShadowsModel" "screen" "I") ∈ GT := gmem3 (List.mem_of_getElem? (i := 88) rfl) rfl
theorem g3_89 : (Jvm.Cond.soleField "JointedShadowsModel" "screen") ∈ GT := gmem3 (List.mem_of_getElem? (i := 89) rfl) rfl
theorem g3_90 : (Jvm.Cond.lays "JointedShadowsModel" "JointedShadowsModel" "figures" "I") ∈ GT := gmem3 (List.mem_of_getElem? (i := 90) rfl) rfl
theorem g3_91 : (Jvm.Cond.soleField "JointedShadowsModel" "figures") ∈ GT := gmem3 (List.mem_of_getElem? (i := 91) rfl) rfl
theorem g3_92 : (Jvm.Cond.laysFinal "JointedShadowsModel" "JointedShadowsModel" "baseX" "[I") ∈ GT := gmem3 (List.mem_of_getElem? (i := 92) rfl) rfl
theorem g3_93 : (Jvm.Cond.soleField "JointedShadowsModel" "baseX") ∈ GT := gmem3 (List.mem_of_getElem? (i := 93) rfl) rfl
theorem g3_94 : (Jvm.Cond.laysFinal "JointedShadowsModel" "JointedShadowsModel" "baseY" "[I") ∈ GT := gmem3 (List.mem_of_getElem? (i := 94) rfl) rfl
theorem g3_95 : (Jvm.Cond.soleField "JointedShadowsModel" "baseY") ∈ GT := gmem3 (List.mem_of_getElem? (i := 95) rfl) rfl
theorem g3_96 : (Jvm.Cond.laysFinal "JointedShadowsModel" "JointedShadowsModel" "baseIn" "[I") ∈ GT := gmem3 (List.mem_of_getElem? (i := 96) rfl) rfl
theorem g3_97 : (Jvm.Cond.soleField "JointedShadowsModel" "baseIn") ∈ GT := gmem3 (List.mem_of_getElem? (i := 97) rfl) rfl
theorem g3_98 : (Jvm.Cond.laysFinal "JointedShadowsModel" "JointedShadowsModel" "limbs" "[I") ∈ GT := gmem3 (List.mem_of_getElem? (i := 98) rfl) rfl
theorem g3_99 : (Jvm.Cond.soleField "JointedShadowsModel" "limbs") ∈ GT := gmem3 (List.mem_of_getElem? (i := 99) rfl) rfl
theorem g3_100 : (Jvm.Cond.laysFinal "JointedShadowsModel" "JointedShadowsModel" "parentOf" "[I") ∈ GT := gmem3 (List.mem_of_getElem? (i := 100) rfl) rfl
theorem g3_101 : (Jvm.Cond.soleField "JointedShadowsModel" "parentOf") ∈ GT := gmem3 (List.mem_of_getElem? (i := 101) rfl) rfl
theorem g3_102 : (Jvm.Cond.laysFinal "JointedShadowsModel" "JointedShadowsModel" "lengthOf" "[I") ∈ GT := gmem3 (List.mem_of_getElem? (i := 102) rfl) rfl
theorem g3_103 : (Jvm.Cond.soleField "JointedShadowsModel" "lengthOf") ∈ GT := gmem3 (List.mem_of_getElem? (i := 103) rfl) rfl
theorem g3_104 : (Jvm.Cond.laysFinal "JointedShadowsModel" "JointedShadowsModel" "directionOf" "[I") ∈ GT := gmem3 (List.mem_of_getElem? (i := 104) rfl) rfl
theorem g3_105 : (Jvm.Cond.soleField "JointedShadowsModel" "directionOf") ∈ GT := gmem3 (List.mem_of_getElem? (i := 105) rfl) rfl
theorem g3_106 : (Jvm.Cond.lays "JointedShadowsModel" "JointedShadowsModel" "moves" "I") ∈ GT := gmem3 (List.mem_of_getElem? (i := 106) rfl) rfl
theorem g3_107 : (Jvm.Cond.soleField "JointedShadowsModel" "moves") ∈ GT := gmem3 (List.mem_of_getElem? (i := 107) rfl) rfl
theorem g3_108 : (Jvm.Cond.laysFinal "JointedShadowsModel" "JointedShadowsModel" "beatOf" "[I") ∈ GT := gmem3 (List.mem_of_getElem? (i := 108) rfl) rfl
theorem g3_109 : (Jvm.Cond.soleField "JointedShadowsModel" "beatOf") ∈ GT := gmem3 (List.mem_of_getElem? (i := 109) rfl) rfl
theorem g3_110 : (Jvm.Cond.laysFinal "JointedShadowsModel" "JointedShadowsModel" "figureOf" "[I") ∈ GT := gmem3 (List.mem_of_getElem? (i := 110) rfl) rfl
theorem g3_111 : (Jvm.Cond.soleField "JointedShadowsModel" "figureOf") ∈ GT := gmem3 (List.mem_of_getElem? (i := 111) rfl) rfl
theorem g3_112 : (Jvm.Cond.laysFinal "JointedShadowsModel" "JointedShadowsModel" "limbOf" "[I") ∈ GT := gmem3 (List.mem_of_getElem? (i := 112) rfl) rfl
theorem g3_113 : (Jvm.Cond.soleField "JointedShadowsModel" "limbOf") ∈ GT := gmem3 (List.mem_of_getElem? (i := 113) rfl) rfl
theorem g3_114 : (Jvm.Cond.laysFinal "JointedShadowsModel" "JointedShadowsModel" "addX" "[I") ∈ GT := gmem3 (List.mem_of_getElem? (i := 114) rfl) rfl
theorem g3_115 : (Jvm.Cond.soleField "JointedShadowsModel" "addX") ∈ GT := gmem3 (List.mem_of_getElem? (i := 115) rfl) rfl
theorem g3_116 : (Jvm.Cond.laysFinal "JointedShadowsModel" "JointedShadowsModel" "addY" "[I") ∈ GT := gmem3 (List.mem_of_getElem? (i := 116) rfl) rfl
theorem g3_117 : (Jvm.Cond.soleField "JointedShadowsModel" "addY") ∈ GT := gmem3 (List.mem_of_getElem? (i := 117) rfl) rfl
theorem g3_118 : (Jvm.Cond.laysFinal "JointedShadowsModel" "JointedShadowsModel" "addIn" "[I") ∈ GT := gmem3 (List.mem_of_getElem? (i := 118) rfl) rfl
theorem g3_119 : (Jvm.Cond.soleField "JointedShadowsModel" "addIn") ∈ GT := gmem3 (List.mem_of_getElem? (i := 119) rfl) rfl
theorem g3_120 : (Jvm.Cond.laysFinal "JointedShadowsModel" "JointedShadowsModel" "planeOf" "[I") ∈ GT := gmem3 (List.mem_of_getElem? (i := 120) rfl) rfl
theorem g3_121 : (Jvm.Cond.soleField "JointedShadowsModel" "planeOf") ∈ GT := gmem3 (List.mem_of_getElem? (i := 121) rfl) rfl
theorem g3_122 : (Jvm.Cond.laysFinal "JointedShadowsModel" "JointedShadowsModel" "turnOf" "[I") ∈ GT := gmem3 (List.mem_of_getElem? (i := 122) rfl) rfl
theorem g3_123 : (Jvm.Cond.soleField "JointedShadowsModel" "turnOf") ∈ GT := gmem3 (List.mem_of_getElem? (i := 123) rfl) rfl
theorem g3_124 : (Jvm.Cond.laysFinal "JointedShadowsModel" "JointedShadowsModel" "pointX" "[J") ∈ GT := gmem3 (List.mem_of_getElem? (i := 124) rfl) rfl
theorem g3_125 : (Jvm.Cond.soleField "JointedShadowsModel" "pointX") ∈ GT := gmem3 (List.mem_of_getElem? (i := 125) rfl) rfl
theorem g3_126 : (Jvm.Cond.laysFinal "JointedShadowsModel" "JointedShadowsModel" "pointY" "[J") ∈ GT := gmem3 (List.mem_of_getElem? (i := 126) rfl) rfl
theorem g3_127 : (Jvm.Cond.soleField "JointedShadowsModel" "pointY") ∈ GT := gmem3 (List.mem_of_getElem? (i := 127) rfl) rfl
theorem g3_128 : (Jvm.Cond.laysFinal "JointedShadowsModel" "JointedShadowsModel" "pointTurn" "[I") ∈ GT := gmem3 (List.mem_of_getElem? (i := 128) rfl) rfl
theorem g3_129 : (Jvm.Cond.soleField "JointedShadowsModel" "pointTurn") ∈ GT := gmem3 (List.mem_of_getElem? (i := 129) rfl) rfl
theorem g3_130 : (Jvm.Cond.laysFinal "JointedShadowsModel" "JointedShadowsModel" "endX" "[J") ∈ GT := gmem3 (List.mem_of_getElem? (i := 130) rfl) rfl
theorem g3_131 : (Jvm.Cond.soleField "JointedShadowsModel" "endX") ∈ GT := gmem3 (List.mem_of_getElem? (i := 131) rfl) rfl
theorem g3_132 : (Jvm.Cond.laysFinal "JointedShadowsModel" "JointedShadowsModel" "endY" "[J") ∈ GT := gmem3 (List.mem_of_getElem? (i := 132) rfl) rfl
theorem g3_133 : (Jvm.Cond.soleField "JointedShadowsModel" "endY") ∈ GT := gmem3 (List.mem_of_getElem? (i := 133) rfl) rfl
theorem g3_134 : (Jvm.Cond.lays "JointedShadowsModel" "JointedShadowsModel" "scenes" "I") ∈ GT := gmem3 (List.mem_of_getElem? (i := 134) rfl) rfl
theorem g3_135 : (Jvm.Cond.soleField "JointedShadowsModel" "scenes") ∈ GT := gmem3 (List.mem_of_getElem? (i := 135) rfl) rfl
theorem g3_136 : (Jvm.Cond.laysFinal "JointedShadowsModel" "JointedShadowsModel" "sceneOf" "[I") ∈ GT := gmem3 (List.mem_of_getElem? (i := 136) rfl) rfl
theorem g3_137 : (Jvm.Cond.soleField "JointedShadowsModel" "sceneOf") ∈ GT := gmem3 (List.mem_of_getElem? (i := 137) rfl) rfl
theorem g3_138 : (Jvm.Cond.laysFinal "JointedShadowsModel" "JointedShadowsModel" "orderNow" "[I") ∈ GT := gmem3 (List.mem_of_getElem? (i := 138) rfl) rfl
theorem g3_139 : (Jvm.Cond.soleField "JointedShadowsModel" "orderNow") ∈ GT := gmem3 (List.mem_of_getElem? (i := 139) rfl) rfl
theorem g3_140 : (Jvm.Cond.laysFinal "JointedShadowsModel" "JointedShadowsModel" "orderBest" "[I") ∈ GT := gmem3 (List.mem_of_getElem? (i := 140) rfl) rfl
theorem g3_141 : (Jvm.Cond.soleField "JointedShadowsModel" "orderBest") ∈ GT := gmem3 (List.mem_of_getElem? (i := 141) rfl) rfl
theorem g3_142 : (Jvm.Cond.superclass "JointedShadowsModel" "java/lang/Object") ∈ GT := gmem3 (List.mem_of_getElem? (i := 142) rfl) rfl
theorem g3_143 : (Jvm.Cond.arrayClass Jvm.ClassFile.FieldType.long) ∈ GT := gmem3 (List.mem_of_getElem? (i := 143) rfl) rfl
theorem g3_144 : (Jvm.Cond.methodLink "JointedShadowsLaw" (17 : Nat) ({ cls := "JointedShadowsModel", name := "setDistance", desc := "(I)I" } : Jvm.MethodName)) ∈ GT := gmem3 (List.mem_of_getElem? (i := 144) rfl) rfl
theorem g3_145 : (Jvm.Cond.instanceMethod ({ cls := "JointedShadowsModel", name := "setDistance", desc := "(I)I" } : Jvm.MethodName)) ∈ GT := gmem3 (List.mem_of_getElem? (i := 145) rfl) rfl
theorem g3_146 : (Jvm.Cond.selects "JointedShadowsModel" ({ cls := "JointedShadowsModel", name := "setDistance", desc := "(I)I" } : Jvm.MethodName) ({ cls := "JointedShadowsModel", name := "setDistance", desc := "(I)I" } : Jvm.MethodName)) ∈ GT := gmem3 (List.mem_of_getElem? (i := 146) rfl) rfl
theorem g3_147 : (Jvm.Cond.code ({ cls := "JointedShadowsModel", name := "setDistance", desc := "(I)I" } : Jvm.MethodName) prog_9_method_9_code (3 : Nat) (Option.some Jvm.ClassFile.FieldType.int)) ∈ GT := gmem3 (List.mem_of_getElem? (i := 147) rfl) rfl
theorem g3_148 : (Jvm.Cond.methodLink "JointedShadowsModel" (89 : Nat) ({ cls := "JointedShadowsModel", name := "in", desc := "(III)Z" } : Jvm.MethodName)) ∈ GT := gmem3 (List.mem_of_getElem? (i := 148) rfl) rfl
theorem g3_149 : (Jvm.Cond.static ({ cls := "JointedShadowsModel", name := "in", desc := "(III)Z" } : Jvm.MethodName)) ∈ GT := gmem3 (List.mem_of_getElem? (i := 149) rfl) rfl
theorem g3_150 : (Jvm.Cond.code ({ cls := "JointedShadowsModel", name := "in", desc := "(III)Z" } : Jvm.MethodName) prog_9_method_2_code (3 : Nat) (Option.some Jvm.ClassFile.FieldType.boolean)) ∈ GT := gmem3 (List.mem_of_getElem? (i := 150) rfl) rfl
theorem g3_151 : (Jvm.Cond.methodLink "JointedShadowsLaw" (22 : Nat) ({ cls := "JointedShadowsModel", name := "addFigure", desc := "(III)I" } : Jvm.MethodName)) ∈ GT := gmem3 (List.mem_of_getElem? (i := 151) rfl) rfl
theorem g3_152 : (Jvm.Cond.instanceMethod ({ cls := "JointedShadowsModel", name := "addFigure", desc := "(III)I" } : Jvm.MethodName)) ∈ GT := gmem3 (List.mem_of_getElem? (i := 152) rfl) rfl
theorem g3_153 : (Jvm.Cond.selects "JointedShadowsModel" ({ cls := "JointedShadowsModel", name := "addFigure", desc := "(III)I" } : Jvm.MethodName) ({ cls := "JointedShadowsModel", name := "addFigure", desc := "(III)I" } : Jvm.MethodName)) ∈ GT := gmem3 (List.mem_of_getElem? (i := 153) rfl) rfl
theorem g3_154 : (Jvm.Cond.code ({ cls := "JointedShadowsModel", name := "addFigure", desc := "(III)I" } : Jvm.MethodName) prog_9_method_10_code (4 : Nat) (Option.some Jvm.ClassFile.FieldType.int)) ∈ GT := gmem3 (List.mem_of_getElem? (i := 154) rfl) rfl
theorem g3_155 : (Jvm.Cond.methodLink "JointedShadowsLaw" (27 : Nat) ({ cls := "JointedShadowsModel", name := "addLimb", desc := "(IIII)I" } : Jvm.MethodName)) ∈ GT := gmem3 (List.mem_of_getElem? (i := 155) rfl) rfl
theorem g3_156 : (Jvm.Cond.instanceMethod ({ cls := "JointedShadowsModel", name := "addLimb", desc := "(IIII)I" } : Jvm.MethodName)) ∈ GT := gmem3 (List.mem_of_getElem? (i := 156) rfl) rfl
theorem g3_157 : (Jvm.Cond.selects "JointedShadowsModel" ({ cls := "JointedShadowsModel", name := "addLimb", desc := "(IIII)I" } : Jvm.MethodName) ({ cls := "JointedShadowsModel", name := "addLimb", desc := "(IIII)I" } : Jvm.MethodName)) ∈ GT := gmem3 (List.mem_of_getElem? (i := 157) rfl) rfl
theorem g3_158 : (Jvm.Cond.code ({ cls := "JointedShadowsModel", name := "addLimb", desc := "(IIII)I" } : Jvm.MethodName) prog_9_method_11_code (6 : Nat) (Option.some Jvm.ClassFile.FieldType.int)) ∈ GT := gmem3 (List.mem_of_getElem? (i := 158) rfl) rfl
theorem g3_159 : (Jvm.Cond.methodLink "JointedShadowsModel" (93 : Nat) ({ cls := "JointedShadowsModel", name := "noFigure", desc := "(I)Z" } : Jvm.MethodName)) ∈ GT := gmem3 (List.mem_of_getElem? (i := 159) rfl) rfl
theorem g3_161 : (Jvm.Cond.instanceMethod ({ cls := "JointedShadowsModel", name := "noFigure", desc := "(I)Z" } : Jvm.MethodName)) ∈ GT := gmem3 (List.mem_of_getElem? (i := 161) rfl) rfl
theorem g3_162 : (Jvm.Cond.code ({ cls := "JointedShadowsModel", name := "noFigure", desc := "(I)Z" } : Jvm.MethodName) prog_9_method_6_code (2 : Nat) (Option.some Jvm.ClassFile.FieldType.boolean)) ∈ GT := gmem3 (List.mem_of_getElem? (i := 162) rfl) rfl
theorem g3_163 : (Jvm.Cond.methodLink "JointedShadowsModel" (97 : Nat) ({ cls := "JointedShadowsModel", name := "noLimb", desc := "(II)Z" } : Jvm.MethodName)) ∈ GT := gmem3 (List.mem_of_getElem? (i := 163) rfl) rfl
theorem g3_165 : (Jvm.Cond.instanceMethod ({ cls := "JointedShadowsModel", name := "noLimb", desc := "(II)Z" } : Jvm.MethodName)) ∈ GT := gmem3 (List.mem_of_getElem? (i := 165) rfl) rfl
theorem g3_166 : (Jvm.Cond.code ({ cls := "JointedShadowsModel", name := "noLimb", desc := "(II)Z" } : Jvm.MethodName) prog_9_method_7_code (3 : Nat) (Option.some Jvm.ClassFile.FieldType.boolean)) ∈ GT := gmem3 (List.mem_of_getElem? (i := 166) rfl) rfl
theorem g3_167 : (Jvm.Cond.methodLink "JointedShadowsLaw" (31 : Nat) ({ cls := "JointedShadowsModel", name := "count", desc := "(I)I" } : Jvm.MethodName)) ∈ GT := gmem3 (List.mem_of_getElem? (i := 167) rfl) rfl
theorem g3_168 : (Jvm.Cond.instanceMethod ({ cls := "JointedShadowsModel", name := "count", desc := "(I)I" } : Jvm.MethodName)) ∈ GT := gmem3 (List.mem_of_getElem? (i := 168) rfl) rfl
theorem g3_169 : (Jvm.Cond.selects "JointedShadowsModel" ({ cls := "JointedShadowsModel", name := "count", desc := "(I)I" } : Jvm.MethodName) ({ cls := "JointedShadowsModel", name := "count", desc := "(I)I" } : Jvm.MethodName)) ∈ GT := gmem3 (List.mem_of_getElem? (i := 169) rfl) rfl
theorem g3_170 : (Jvm.Cond.code ({ cls := "JointedShadowsModel", name := "count", desc := "(I)I" } : Jvm.MethodName) prog_9_method_12_code (4 : Nat) (Option.some Jvm.ClassFile.FieldType.int)) ∈ GT := gmem3 (List.mem_of_getElem? (i := 170) rfl) rfl
theorem g3_171 : (Jvm.Cond.methodLink "JointedShadowsLaw" (35 : Nat) ({ cls := "JointedShadowsModel", name := "addTurn", desc := "(IIII)I" } : Jvm.MethodName)) ∈ GT := gmem3 (List.mem_of_getElem? (i := 171) rfl) rfl
theorem g3_172 : (Jvm.Cond.instanceMethod ({ cls := "JointedShadowsModel", name := "addTurn", desc := "(IIII)I" } : Jvm.MethodName)) ∈ GT := gmem3 (List.mem_of_getElem? (i := 172) rfl) rfl
theorem g3_173 : (Jvm.Cond.selects "JointedShadowsModel" ({ cls := "JointedShadowsModel", name := "addTurn", desc := "(IIII)I" } : Jvm.MethodName) ({ cls := "JointedShadowsModel", name := "addTurn", desc := "(IIII)I" } : Jvm.MethodName)) ∈ GT := gmem3 (List.mem_of_getElem? (i := 173) rfl) rfl
theorem g3_174 : (Jvm.Cond.code ({ cls := "JointedShadowsModel", name := "addTurn", desc := "(IIII)I" } : Jvm.MethodName) prog_9_method_14_code (5 : Nat) (Option.some Jvm.ClassFile.FieldType.int)) ∈ GT := gmem3 (List.mem_of_getElem? (i := 174) rfl) rfl
theorem g3_175 : (Jvm.Cond.methodLink "JointedShadowsModel" (107 : Nat) ({ cls := "JointedShadowsModel", name := "isBeat", desc := "(I)Z" } : Jvm.MethodName)) ∈ GT := gmem3 (List.mem_of_getElem? (i := 175) rfl) rfl
theorem g3_176 : (Jvm.Cond.static ({ cls := "JointedShadowsModel", name := "isBeat", desc := "(I)Z" } : Jvm.MethodName)) ∈ GT := gmem3 (List.mem_of_getElem? (i := 176) rfl) rfl
theorem g3_177 : (Jvm.Cond.code ({ cls := "JointedShadowsModel", name := "isBeat", desc := "(I)Z" } : Jvm.MethodName) prog_9_method_8_code (1 : Nat) (Option.some Jvm.ClassFile.FieldType.boolean)) ∈ GT := gmem3 (List.mem_of_getElem? (i := 177) rfl) rfl
theorem g3_178 : (Jvm.Cond.methodLink "JointedShadowsModel" (110 : Nat) ({ cls := "JointedShadowsModel", name := "addMove", desc := "(IIIIII)I" } : Jvm.MethodName)) ∈ GT := gmem3 (List.mem_of_getElem? (i := 178) rfl) rfl
theorem g3_180 : (Jvm.Cond.instanceMethod ({ cls := "JointedShadowsModel", name := "addMove", desc := "(IIIIII)I" } : Jvm.MethodName)) ∈ GT := gmem3 (List.mem_of_getElem? (i := 180) rfl) rfl
theorem g3_181 : (Jvm.Cond.code ({ cls := "JointedShadowsModel", name := "addMove", desc := "(IIIIII)I" } : Jvm.MethodName) prog_9_method_13_code (7 : Nat) (Option.some Jvm.ClassFile.FieldType.int)) ∈ GT := gmem3 (List.mem_of_getElem? (i := 181) rfl) rfl
theorem g3_182 : (Jvm.Cond.methodLink "JointedShadowsLaw" (40 : Nat) ({ cls := "JointedShadowsModel", name := "addShift", desc := "(IIIII)I" } : Jvm.MethodName)) ∈ GT := gmem3 (List.mem_of_getElem? (i := 182) rfl) rfl
theorem g3_183 : (Jvm.Cond.instanceMethod ({ cls := "JointedShadowsModel", name := "addShift", desc := "(IIIII)I" } : Jvm.MethodName)) ∈ GT := gmem3 (List.mem_of_getElem? (i := 183) rfl) rfl
theorem g3_184 : (Jvm.Cond.selects "JointedShadowsModel" ({ cls := "JointedShadowsModel", name := "addShift", desc := "(IIIII)I" } : Jvm.MethodName) ({ cls := "JointedShadowsModel", name := "addShift", desc := "(IIIII)I" } : Jvm.MethodName)) ∈ GT := gmem3 (List.mem_of_getElem? (i := 184) rfl) rfl
theorem g3_185 : (Jvm.Cond.code ({ cls := "JointedShadowsModel", name := "addShift", desc := "(IIIII)I" } : Jvm.MethodName) prog_9_method_15_code (6 : Nat) (Option.some Jvm.ClassFile.FieldType.int)) ∈ GT := gmem3 (List.mem_of_getElem? (i := 185) rfl) rfl
theorem g3_186 : (Jvm.Cond.methodLink "JointedShadowsLaw" (44 : Nat) ({ cls := "JointedShadowsModel", name := "removeMoves", desc := "(I)I" } : Jvm.MethodName)) ∈ GT := gmem3 (List.mem_of_getElem? (i := 186) rfl) rfl
theorem g3_187 : (Jvm.Cond.instanceMethod ({ cls := "JointedShadowsModel", name := "removeMoves", desc := "(I)I" } : Jvm.MethodName)) ∈ GT := gmem3 (List.mem_of_getElem? (i := 187) rfl) rfl
theorem g3_188 : (Jvm.Cond.selects "JointedShadowsModel" ({ cls := "JointedShadowsModel", name := "removeMoves", desc := "(I)I" } : Jvm.MethodName) ({ cls := "JointedShadowsModel", name := "removeMoves", desc := "(I)I" } : Jvm.MethodName)) ∈ GT := gmem3 (List.mem_of_getElem? (i := 188) rfl) rfl
theorem g3_189 : (Jvm.Cond.code ({ cls := "JointedShadowsModel", name := "removeMoves", desc := "(I)I" } : Jvm.MethodName) prog_9_method_16_code (2 : Nat) (Option.some Jvm.ClassFile.FieldType.int)) ∈ GT := gmem3 (List.mem_of_getElem? (i := 189) rfl) rfl
theorem g3_190 : (Jvm.Cond.methodLink "JointedShadowsLaw" (49 : Nat) ({ cls := "JointedShadowsModel", name := "position", desc := "(IIII)J" } : Jvm.MethodName)) ∈ GT := gmem3 (List.mem_of_getElem? (i := 190) rfl) rfl
theorem g3_191 : (Jvm.Cond.instanceMethod ({ cls := "JointedShadowsModel", name := "position", desc := "(IIII)J" } : Jvm.MethodName)) ∈ GT := gmem3 (List.mem_of_getElem? (i := 191) rfl) rfl
theorem g3_192 : (Jvm.Cond.selects "JointedShadowsModel" ({ cls := "JointedShadowsModel", name := "position", desc := "(IIII)J" } : Jvm.MethodName) ({ cls := "JointedShadowsModel", name := "position", desc := "(IIII)J" } : Jvm.MethodName)) ∈ GT := gmem3 (List.mem_of_getElem? (i := 192) rfl) rfl
theorem g3_193 : (Jvm.Cond.code ({ cls := "JointedShadowsModel", name := "position", desc := "(IIII)J" } : Jvm.MethodName) prog_9_method_23_code (6 : Nat) (Option.some Jvm.ClassFile.FieldType.long)) ∈ GT := gmem3 (List.mem_of_getElem? (i := 193) rfl) rfl
theorem g3_194 : (Jvm.Cond.methodLink "JointedShadowsModel" (131 : Nat) ({ cls := "JointedShadowsModel", name := "lost", desc := "()J" } : Jvm.MethodName)) ∈ GT := gmem3 (List.mem_of_getElem? (i := 194) rfl) rfl
theorem g3_195 : (Jvm.Cond.static ({ cls := "JointedShadowsModel", name := "lost", desc := "()J" } : Jvm.MethodName)) ∈ GT := gmem3 (List.mem_of_getElem? (i := 195) rfl) rfl
theorem g3_196 : (Jvm.Cond.code ({ cls := "JointedShadowsModel", name := "lost", desc := "()J" } : Jvm.MethodName) prog_9_method_3_code (0 : Nat) (Option.some Jvm.ClassFile.FieldType.long)) ∈ GT := gmem3 (List.mem_of_getElem? (i := 196) rfl) rfl
theorem g3_197 : (Jvm.Cond.constantLong "JointedShadowsModel" (84 : Nat) (-9223372036854775808 : Int64)) ∈ GT := gmem3 (List.mem_of_getElem? (i := 197) rfl) rfl
theorem g3_198 : (Jvm.Cond.methodLink "JointedShadowsModel" (135 : Nat) ({ cls := "JointedShadowsModel", name := "goTo", desc := "(I)V" } : Jvm.MethodName)) ∈ GT := gmem3 (List.mem_of_getElem? (i := 198) rfl) rfl
theorem g3_200 : (Jvm.Cond.instanceMethod ({ cls := "JointedShadowsModel", name := "goTo", desc := "(I)V" } : Jvm.MethodName)) ∈ GT := gmem3 (List.mem_of_getElem? (i := 200) rfl) rfl
theorem g3_201 : (Jvm.Cond.code ({ cls := "JointedShadowsModel", name := "goTo", desc := "(I)V" } : Jvm.MethodName) prog_9_method_22_code (4 : Nat) (Option.none : Option Jvm.ClassFile.FieldType)) ∈ GT := gmem3 (List.mem_of_getElem? (i := 201) rfl) rfl
theorem g3_202 : (Jvm.Cond.methodLink "JointedShadowsModel" (114 : Nat) ({ cls := "JointedShadowsModel", name := "inStage", desc := "(I)I" } : Jvm.MethodName)) ∈ GT := gmem3 (List.mem_of_getElem? (i := 202) rfl) rfl
theorem g3_204 : (Jvm.Cond.instanceMethod ({ cls := "JointedShadowsModel", name := "inStage", desc := "(I)I" } : Jvm.MethodName)) ∈ GT := gmem3 (List.mem_of_getElem? (i := 204) rfl) rfl
theorem g3_205 : (Jvm.Cond.code ({ cls := "JointedShadowsModel", name := "inStage", desc := "(I)I" } : Jvm.MethodName) prog_9_method_17_code (2 : Nat) (Option.some Jvm.ClassFile.FieldType.int)) ∈ GT := gmem3 (List.mem_of_getElem? (i := 205) rfl) rfl
theorem g3_206 : (Jvm.Cond.methodLink "JointedShadowsModel" (124 : Nat) ({ cls := "JointedShadowsModel", name := "doMove", desc := "(I)V" } : Jvm.MethodName)) ∈ GT := gmem3 (List.mem_of_getElem? (i := 206) rfl) rfl
theorem g3_208 : (Jvm.Cond.instanceMethod ({ cls := "JointedShadowsModel", name := "doMove", desc := "(I)V" } : Jvm.MethodName)) ∈ GT := gmem3 (List.mem_of_getElem? (i := 208) rfl) rfl
theorem g3_209 : (Jvm.Cond.code ({ cls := "JointedShadowsModel", name := "doMove", desc := "(I)V" } : Jvm.MethodName) prog_9_method_18_code (4 : Nat) (Option.none : Option Jvm.ClassFile.FieldType)) ∈ GT := gmem3 (List.mem_of_getElem? (i := 209) rfl) rfl
theorem g3_210 : (Jvm.Cond.methodLink "JointedShadowsModel" (128 : Nat) ({ cls := "JointedShadowsModel", name := "layPoints", desc := "(I)V" } : Jvm.MethodName)) ∈ GT := gmem3 (List.mem_of_getElem? (i := 210) rfl) rfl
theorem g3_212 : (Jvm.Cond.instanceMethod ({ cls := "JointedShadowsModel", name := "layPoints", desc := "(I)V" } : Jvm.MethodName)) ∈ GT := gmem3 (List.mem_of_getElem? (i := 212) rfl) rfl
theorem g3_213 : (Jvm.Cond.code ({ cls := "JointedShadowsModel", name := "layPoints", desc := "(I)V" } : Jvm.MethodName) prog_9_method_21_code (6 : Nat) (Option.none : Option Jvm.ClassFile.FieldType)) ∈ GT := gmem3 (List.mem_of_getElem? (i := 213) rfl) rfl
theorem g3_214 : (Jvm.Cond.methodLink "JointedShadowsModel" (118 : Nat) ({ cls := "JointedShadowsModel", name := "stepX", desc := "(I)I" } : Jvm.MethodName)) ∈ GT := gmem3 (List.mem_of_getElem? (i := 214) rfl) rfl
theorem g3_215 : (Jvm.Cond.static ({ cls := "JointedShadowsModel", name := "stepX", desc := "(I)I" } : Jvm.MethodName)) ∈ GT := gmem3 (List.mem_of_getElem? (i := 215) rfl) rfl
theorem g3_216 : (Jvm.Cond.code ({ cls := "JointedShadowsModel", name := "stepX", desc := "(I)I" } : Jvm.MethodName) prog_9_method_19_code (1 : Nat) (Option.some Jvm.ClassFile.FieldType.int)) ∈ GT := gmem3 (List.mem_of_getElem? (i := 216) rfl) rfl
theorem g3_217 : (Jvm.Cond.methodLink "JointedShadowsModel" (121 : Nat) ({ cls := "JointedShadowsModel", name := "stepY", desc := "(I)I" } : Jvm.MethodName)) ∈ GT := gmem3 (List.mem_of_getElem? (i := 217) rfl) rfl
theorem g3_218 : (Jvm.Cond.static ({ cls := "JointedShadowsModel", name := "stepY", desc := "(I)I" } : Jvm.MethodName)) ∈ GT := gmem3 (List.mem_of_getElem? (i := 218) rfl) rfl
theorem g3_219 : (Jvm.Cond.code ({ cls := "JointedShadowsModel", name := "stepY", desc := "(I)I" } : Jvm.MethodName) prog_9_method_20_code (1 : Nat) (Option.some Jvm.ClassFile.FieldType.int)) ∈ GT := gmem3 (List.mem_of_getElem? (i := 219) rfl) rfl
theorem g3_220 : (Jvm.Cond.methodLink "JointedShadowsLaw" (53 : Nat) ({ cls := "JointedShadowsModel", name := "box", desc := "(IIII)J" } : Jvm.MethodName)) ∈ GT := gmem3 (List.mem_of_getElem? (i := 220) rfl) rfl
theorem g3_221 : (Jvm.Cond.instanceMethod ({ cls := "JointedShadowsModel", name := "box", desc := "(IIII)J" } : Jvm.MethodName)) ∈ GT := gmem3 (List.mem_of_getElem? (i := 221) rfl) rfl
theorem g3_222 : (Jvm.Cond.selects "JointedShadowsModel" ({ cls := "JointedShadowsModel", name := "box", desc := "(IIII)J" } : Jvm.MethodName) ({ cls := "JointedShadowsModel", name := "box", desc := "(IIII)J" } : Jvm.MethodName)) ∈ GT := gmem3 (List.mem_of_getElem? (i := 222) rfl) rfl
theorem g3_223 : (Jvm.Cond.code ({ cls := "JointedShadowsModel", name := "box", desc := "(IIII)J" } : Jvm.MethodName) prog_9_method_28_code (5 : Nat) (Option.some Jvm.ClassFile.FieldType.long)) ∈ GT := gmem3 (List.mem_of_getElem? (i := 223) rfl) rfl
theorem g3_224 : (Jvm.Cond.methodLink "JointedShadowsModel" (149 : Nat) ({ cls := "JointedShadowsModel", name := "measure", desc := "(II)J" } : Jvm.MethodName)) ∈ GT := gmem3 (List.mem_of_getElem? (i := 224) rfl) rfl
theorem g3_226 : (Jvm.Cond.instanceMethod ({ cls := "JointedShadowsModel", name := "measure", desc := "(II)J" } : Jvm.MethodName)) ∈ GT := gmem3 (List.mem_of_getElem? (i := 226) rfl) rfl
theorem g3_227 : (Jvm.Cond.code ({ cls := "JointedShadowsModel", name := "measure", desc := "(II)J" } : Jvm.MethodName) prog_9_method_27_code (3 : Nat) (Option.some Jvm.ClassFile.FieldType.long)) ∈ GT := gmem3 (List.mem_of_getElem? (i := 227) rfl) rfl
theorem g3_228 : (Jvm.Cond.methodLink "JointedShadowsModel" (145 : Nat) ({ cls := "JointedShadowsModel", name := "reach", desc := "(IZI)J" } : Jvm.MethodName)) ∈ GT := gmem3 (List.mem_of_getElem? (i := 228) rfl) rfl
theorem g3_230 : (Jvm.Cond.instanceMethod ({ cls := "JointedShadowsModel", name := "reach", desc := "(IZI)J" } : Jvm.MethodName)) ∈ GT := gmem3 (List.mem_of_getElem? (i := 230) rfl) rfl
theorem g3_231 : (Jvm.Cond.code ({ cls := "JointedShadowsModel", name := "reach", desc := "(IZI)J" } : Jvm.MethodName) prog_9_method_26_code (7 : Nat) (Option.some Jvm.ClassFile.FieldType.long)) ∈ GT := gmem3 (List.mem_of_getElem? (i := 231) rfl) rfl
theorem g3_232 : (Jvm.Cond.methodLink "JointedShadowsModel" (142 : Nat) ({ cls := "JointedShadowsModel", name := "most", desc := "(JJ)J" } : Jvm.MethodName)) ∈ GT := gmem3 (List.mem_of_getElem? (i := 232) rfl) rfl
theorem g3_233 : (Jvm.Cond.static ({ cls := "JointedShadowsModel", name := "most", desc := "(JJ)J" } : Jvm.MethodName)) ∈ GT := gmem3 (List.mem_of_getElem? (i := 233) rfl) rfl
theorem g3_234 : (Jvm.Cond.code ({ cls := "JointedShadowsModel", name := "most", desc := "(JJ)J" } : Jvm.MethodName) prog_9_method_5_code (4 : Nat) (Option.some Jvm.ClassFile.FieldType.long)) ∈ GT := gmem3 (List.mem_of_getElem? (i := 234) rfl) rfl
theorem g3_235 : (Jvm.Cond.methodLink "JointedShadowsModel" (153 : Nat) ({ cls := "JointedShadowsModel", name := "partOf", desc := "(JJI)J" } : Jvm.MethodName)) ∈ GT := gmem3 (List.mem_of_getElem? (i := 235) rfl) rfl
theorem g3_236 : (Jvm.Cond.static ({ cls := "JointedShadowsModel", name := "partOf", desc := "(JJI)J" } : Jvm.MethodName)) ∈ GT := gmem3 (List.mem_of_getElem? (i := 236) rfl) rfl
theorem g3_237 : (Jvm.Cond.code ({ cls := "JointedShadowsModel", name := "partOf", desc := "(JJI)J" } : Jvm.MethodName) prog_9_method_25_code (5 : Nat) (Option.some Jvm.ClassFile.FieldType.long)) ∈ GT := gmem3 (List.mem_of_getElem? (i := 237) rfl) rfl
theorem g3_238 : (Jvm.Cond.methodLink "JointedShadowsModel" (138 : Nat) ({ cls := "JointedShadowsModel", name := "common", desc := "(JJ)J" } : Jvm.MethodName)) ∈ GT := gmem3 (List.mem_of_getElem? (i := 238) rfl) rfl
theorem g3_239 : (Jvm.Cond.static ({ cls := "JointedShadowsModel", name := "common", desc := "(JJ)J" } : Jvm.MethodName)) ∈ GT := gmem3 (List.mem_of_getElem? (i := 239) rfl) rfl
theorem g4_0 : (Jvm.Cond.code ({ cls := "JointedShadowsModel", name := "common", desc := "(JJ)J" } : Jvm.MethodName) prog_9_method_24_code (10 : Nat) (Option.some Jvm.ClassFile.FieldType.long)) ∈ GT := gmem4 (List.mem_of_getElem? (i := 0) rfl) rfl
theorem g4_1 : (Jvm.Cond.methodLink "JointedShadowsLaw" (57 : Nat) ({ cls := "JointedShadowsModel", name := "overlap", desc := "(IIII)J" } : Jvm.MethodName)) ∈ GT := gmem4 (List.mem_of_getElem? (i := 1) rfl) rfl
theorem g4_2 : (Jvm.Cond.instanceMethod ({ cls := "JointedShadowsModel", name := "overlap", desc := "(IIII)J" } : Jvm.MethodName)) ∈ GT := gmem4 (List.mem_of_getElem? (i := 2) rfl) rfl
theorem g4_3 : (Jvm.Cond.selects "JointedShadowsModel" ({ cls := "JointedShadowsModel", name := "overlap", desc := "(IIII)J" } : Jvm.MethodName) ({ cls := "JointedShadowsModel", name := "overlap", desc := "(IIII)J" } : Jvm.MethodName)) ∈ GT := gmem4 (List.mem_of_getElem? (i := 3) rfl) rfl
theorem g4_4 : (Jvm.Cond.code ({ cls := "JointedShadowsModel", name := "overlap", desc := "(IIII)J" } : Jvm.MethodName) prog_9_method_30_code (13 : Nat) (Option.some Jvm.ClassFile.FieldType.long)) ∈ GT := gmem4 (List.mem_of_getElem? (i := 4) rfl) rfl
theorem g4_5 : (Jvm.Cond.methodLink "JointedShadowsModel" (160 : Nat) ({ cls := "JointedShadowsModel", name := "along", desc := "(IIII)J" } : Jvm.MethodName)) ∈ GT := gmem4 (List.mem_of_getElem? (i := 5) rfl) rfl
theorem g4_7 : (Jvm.Cond.instanceMethod ({ cls := "JointedShadowsModel", name := "along", desc := "(IIII)J" } : Jvm.MethodName)) ∈ GT := gmem4 (List.mem_of_getElem? (i := 7) rfl) rfl
theorem g4_8 : (Jvm.Cond.code ({ cls := "JointedShadowsModel", name := "along", desc := "(IIII)J" } : Jvm.MethodName) prog_9_method_29_code (7 : Nat) (Option.some Jvm.ClassFile.FieldType.long)) ∈ GT := gmem4 (List.mem_of_getElem? (i := 8) rfl) rfl
theorem g4_9 : (Jvm.Cond.methodLink "JointedShadowsModel" (157 : Nat) ({ cls := "JointedShadowsModel", name := "least", desc := "(JJ)J" } : Jvm.MethodName)) ∈ GT := gmem4 (List.mem_of_getElem? (i := 9) rfl) rfl
theorem g4_10 : (Jvm.Cond.static ({ cls := "JointedShadowsModel", name := "least", desc := "(JJ)J" } : Jvm.MethodName)) ∈ GT := gmem4 (List.mem_of_getElem? (i := 10) rfl) rfl
theorem g4_11 : (Jvm.Cond.code ({ cls := "JointedShadowsModel", name := "least", desc := "(JJ)J" } : Jvm.MethodName) prog_9_method_4_code (4 : Nat) (Option.some Jvm.ClassFile.FieldType.long)) ∈ GT := gmem4 (List.mem_of_getElem? (i := 11) rfl) rfl
theorem g4_12 : (Jvm.Cond.methodLink "JointedShadowsLaw" (61 : Nat) ({ cls := "JointedShadowsModel", name := "crossings", desc := "(III)I" } : Jvm.MethodName)) ∈ GT := gmem4 (List.mem_of_getElem? (i := 12) rfl) rfl
theorem g4_13 : (Jvm.Cond.instanceMethod ({ cls := "JointedShadowsModel", name := "crossings", desc := "(III)I" } : Jvm.MethodName)) ∈ GT := gmem4 (List.mem_of_getElem? (i := 13) rfl) rfl
theorem g4_14 : (Jvm.Cond.selects "JointedShadowsModel" ({ cls := "JointedShadowsModel", name := "crossings", desc := "(III)I" } : Jvm.MethodName) ({ cls := "JointedShadowsModel", name := "crossings", desc := "(III)I" } : Jvm.MethodName)) ∈ GT := gmem4 (List.mem_of_getElem? (i := 14) rfl) rfl
theorem g4_15 : (Jvm.Cond.code ({ cls := "JointedShadowsModel", name := "crossings", desc := "(III)I" } : Jvm.MethodName) prog_9_method_40_code (5 : Nat) (Option.some Jvm.ClassFile.FieldType.int)) ∈ GT := gmem4 (List.mem_of_getElem? (i := 15) rfl) rfl
theorem g4_16 : (Jvm.Cond.methodLink "JointedShadowsModel" (191 : Nat) ({ cls := "JointedShadowsModel", name := "twoBarred", desc := "(III)I" } : Jvm.MethodName)) ∈ GT := gmem4 (List.mem_of_getElem? (i := 16) rfl) rfl
theorem g4_18 : (Jvm.Cond.instanceMethod ({ cls := "JointedShadowsModel", name := "twoBarred", desc := "(III)I" } : Jvm.MethodName)) ∈ GT := gmem4 (List.mem_of_getElem? (i := 18) rfl) rfl
theorem g4_19 : (Jvm.Cond.code ({ cls := "JointedShadowsModel", name := "twoBarred", desc := "(III)I" } : Jvm.MethodName) prog_9_method_39_code (4 : Nat) (Option.some Jvm.ClassFile.FieldType.int)) ∈ GT := gmem4 (List.mem_of_getElem? (i := 19) rfl) rfl
theorem g4_20 : (Jvm.Cond.methodLink "JointedShadowsModel" (195 : Nat) ({ cls := "JointedShadowsModel", name := "crossingsNow", desc := "(II)I" } : Jvm.MethodName)) ∈ GT := gmem4 (List.mem_of_getElem? (i := 20) rfl) rfl
theorem g4_22 : (Jvm.Cond.instanceMethod ({ cls := "JointedShadowsModel", name := "crossingsNow", desc := "(II)I" } : Jvm.MethodName)) ∈ GT := gmem4 (List.mem_of_getElem? (i := 22) rfl) rfl
theorem g4_23 : (Jvm.Cond.code ({ cls := "JointedShadowsModel", name := "crossingsNow", desc := "(II)I" } : Jvm.MethodName) prog_9_method_38_code (6 : Nat) (Option.some Jvm.ClassFile.FieldType.int)) ∈ GT := gmem4 (List.mem_of_getElem? (i := 23) rfl) rfl
theorem g4_24 : (Jvm.Cond.methodLink "JointedShadowsModel" (183 : Nat) ({ cls := "JointedShadowsModel", name := "layEnds", desc := "(IIIJ)V" } : Jvm.MethodName)) ∈ GT := gmem4 (List.mem_of_getElem? (i := 24) rfl) rfl
theorem g4_26 : (Jvm.Cond.instanceMethod ({ cls := "JointedShadowsModel", name := "layEnds", desc := "(IIIJ)V" } : Jvm.MethodName)) ∈ GT := gmem4 (List.mem_of_getElem? (i := 26) rfl) rfl
theorem g4_27 : (Jvm.Cond.code ({ cls := "JointedShadowsModel", name := "layEnds", desc := "(IIIJ)V" } : Jvm.MethodName) prog_9_method_34_code (8 : Nat) (Option.none : Option Jvm.ClassFile.FieldType)) ∈ GT := gmem4 (List.mem_of_getElem? (i := 27) rfl) rfl
theorem g4_28 : (Jvm.Cond.methodLink "JointedShadowsModel" (187 : Nat) ({ cls := "JointedShadowsModel", name := "doMeet", desc := "()Z" } : Jvm.MethodName)) ∈ GT := gmem4 (List.mem_of_getElem? (i := 28) rfl) rfl
theorem g4_30 : (Jvm.Cond.instanceMethod ({ cls := "JointedShadowsModel", name := "doMeet", desc := "()Z" } : Jvm.MethodName)) ∈ GT := gmem4 (List.mem_of_getElem? (i := 30) rfl) rfl
theorem g4_31 : (Jvm.Cond.code ({ cls := "JointedShadowsModel", name := "doMeet", desc := "()Z" } : Jvm.MethodName) prog_9_method_37_code (2 : Nat) (Option.some Jvm.ClassFile.FieldType.boolean)) ∈ GT := gmem4 (List.mem_of_getElem? (i := 31) rfl) rfl
theorem g4_32 : (Jvm.Cond.methodLink "JointedShadowsModel" (176 : Nat) ({ cls := "JointedShadowsModel", name := "isOnSegment", desc := "(II)Z" } : Jvm.MethodName)) ∈ GT := gmem4 (List.mem_of_getElem? (i := 32) rfl) rfl
theorem g4_34 : (Jvm.Cond.instanceMethod ({ cls := "JointedShadowsModel", name := "isOnSegment", desc := "(II)Z" } : Jvm.MethodName)) ∈ GT := gmem4 (List.mem_of_getElem? (i := 34) rfl) rfl
theorem g4_35 : (Jvm.Cond.code ({ cls := "JointedShadowsModel", name := "isOnSegment", desc := "(II)Z" } : Jvm.MethodName) prog_9_method_36_code (3 : Nat) (Option.some Jvm.ClassFile.FieldType.boolean)) ∈ GT := gmem4 (List.mem_of_getElem? (i := 35) rfl) rfl
theorem g4_36 : (Jvm.Cond.methodLink "JointedShadowsModel" (172 : Nat) ({ cls := "JointedShadowsModel", name := "isOn", desc := "(JJJJJJ)Z" } : Jvm.MethodName)) ∈ GT := gmem4 (List.mem_of_getElem? (i := 36) rfl) rfl
theorem g4_37 : (Jvm.Cond.static ({ cls := "JointedShadowsModel", name := "isOn", desc := "(JJJJJJ)Z" } : Jvm.MethodName)) ∈ GT := gmem4 (List.mem_of_getElem? (i := 37) rfl) rfl
theorem g4_38 : (Jvm.Cond.code ({ cls := "JointedShadowsModel", name := "isOn", desc := "(JJJJJJ)Z" } : Jvm.MethodName) prog_9_method_33_code (12 : Nat) (Option.some Jvm.ClassFile.FieldType.boolean)) ∈ GT := gmem4 (List.mem_of_getElem? (i := 38) rfl) rfl
theorem g4_39 : (Jvm.Cond.methodLink "JointedShadowsModel" (164 : Nat) ({ cls := "JointedShadowsModel", name := "side", desc := "(JJJJJJ)I" } : Jvm.MethodName)) ∈ GT := gmem4 (List.mem_of_getElem? (i := 39) rfl) rfl
theorem g4_40 : (Jvm.Cond.static ({ cls := "JointedShadowsModel", name := "side", desc := "(JJJJJJ)I" } : Jvm.MethodName)) ∈ GT := gmem4 (List.mem_of_getElem? (i := 40) rfl) rfl
theorem g4_41 : (Jvm.Cond.code ({ cls := "JointedShadowsModel", name := "side", desc := "(JJJJJJ)I" } : Jvm.MethodName) prog_9_method_31_code (14 : Nat) (Option.some Jvm.ClassFile.FieldType.int)) ∈ GT := gmem4 (List.mem_of_getElem? (i := 41) rfl) rfl
theorem g4_42 : (Jvm.Cond.methodLink "JointedShadowsModel" (168 : Nat) ({ cls := "JointedShadowsModel", name := "isBetween", desc := "(JJJ)Z" } : Jvm.MethodName)) ∈ GT := gmem4 (List.mem_of_getElem? (i := 42) rfl) rfl
theorem g4_43 : (Jvm.Cond.static ({ cls := "JointedShadowsModel", name := "isBetween", desc := "(JJJ)Z" } : Jvm.MethodName)) ∈ GT := gmem4 (List.mem_of_getElem? (i := 43) rfl) rfl
theorem g4_44 : (Jvm.Cond.code ({ cls := "JointedShadowsModel", name := "isBetween", desc := "(JJJ)Z" } : Jvm.MethodName) prog_9_method_32_code (6 : Nat) (Option.some Jvm.ClassFile.FieldType.boolean)) ∈ GT := gmem4 (List.mem_of_getElem? (i := 44) rfl) rfl
theorem g4_45 : (Jvm.Cond.methodLink "JointedShadowsModel" (179 : Nat) ({ cls := "JointedShadowsModel", name := "sideOf", desc := "(II)I" } : Jvm.MethodName)) ∈ GT := gmem4 (List.mem_of_getElem? (i := 45) rfl) rfl
theorem g4_47 : (Jvm.Cond.instanceMethod ({ cls := "JointedShadowsModel", name := "sideOf", desc := "(II)I" } : Jvm.MethodName)) ∈ GT := gmem4 (List.mem_of_getElem? (i := 47) rfl) rfl
theorem g4_48 : (Jvm.Cond.code ({ cls := "JointedShadowsModel", name := "sideOf", desc := "(II)I" } : Jvm.MethodName) prog_9_method_35_code (3 : Nat) (Option.some Jvm.ClassFile.FieldType.int)) ∈ GT := gmem4 (List.mem_of_getElem? (i := 48) rfl) rfl
theorem g4_49 : (Jvm.Cond.methodLink "JointedShadowsLaw" (65 : Nat) ({ cls := "JointedShadowsModel", name := "nextCrossing", desc := "(III)I" } : Jvm.MethodName)) ∈ GT := gmem4 (List.mem_of_getElem? (i := 49) rfl) rfl
theorem g4_50 : (Jvm.Cond.instanceMethod ({ cls := "JointedShadowsModel", name := "nextCrossing", desc := "(III)I" } : Jvm.MethodName)) ∈ GT := gmem4 (List.mem_of_getElem? (i := 50) rfl) rfl
theorem g4_51 : (Jvm.Cond.selects "JointedShadowsModel" ({ cls := "JointedShadowsModel", name := "nextCrossing", desc := "(III)I" } : Jvm.MethodName) ({ cls := "JointedShadowsModel", name := "nextCrossing", desc := "(III)I" } : Jvm.MethodName)) ∈ GT := gmem4 (List.mem_of_getElem? (i := 51) rfl) rfl
theorem g4_52 : (Jvm.Cond.code ({ cls := "JointedShadowsModel", name := "nextCrossing", desc := "(III)I" } : Jvm.MethodName) prog_9_method_41_code (6 : Nat) (Option.some Jvm.ClassFile.FieldType.int)) ∈ GT := gmem4 (List.mem_of_getElem? (i := 52) rfl) rfl
theorem g4_53 : (Jvm.Cond.methodLink "JointedShadowsLaw" (69 : Nat) ({ cls := "JointedShadowsModel", name := "within", desc := "(III)I" } : Jvm.MethodName)) ∈ GT := gmem4 (List.mem_of_getElem? (i := 53) rfl) rfl
theorem g4_54 : (Jvm.Cond.instanceMethod ({ cls := "JointedShadowsModel", name := "within", desc := "(III)I" } : Jvm.MethodName)) ∈ GT := gmem4 (List.mem_of_getElem? (i := 54) rfl) rfl
theorem g4_55 : (Jvm.Cond.selects "JointedShadowsModel" ({ cls := "JointedShadowsModel", name := "within", desc := "(III)I" } : Jvm.MethodName) ({ cls := "JointedShadowsModel", name := "within", desc := "(III)I" } : Jvm.MethodName)) ∈ GT := gmem4 (List.mem_of_getElem? (i := 55) rfl) rfl
theorem g4_56 : (Jvm.Cond.code ({ cls := "JointedShadowsModel", name := "within", desc := "(III)I" } : Jvm.MethodName) prog_9_method_43_code (6 : Nat) (Option.some Jvm.ClassFile.FieldType.int)) ∈ GT := gmem4 (List.mem_of_getElem? (i := 56) rfl) rfl
theorem g4_57 : (Jvm.Cond.methodLink "JointedShadowsModel" (198 : Nat) ({ cls := "JointedShadowsModel", name := "isWithin", desc := "(IJJ)Z" } : Jvm.MethodName)) ∈ GT := gmem4 (List.mem_of_getElem? (i := 57) rfl) rfl
theorem g4_59 : (Jvm.Cond.instanceMethod ({ cls := "JointedShadowsModel", name := "isWithin", desc := "(IJJ)Z" } : Jvm.MethodName)) ∈ GT := gmem4 (List.mem_of_getElem? (i := 59) rfl) rfl
theorem g4_60 : (Jvm.Cond.code ({ cls := "JointedShadowsModel", name := "isWithin", desc := "(IJJ)Z" } : Jvm.MethodName) prog_9_method_42_code (10 : Nat) (Option.some Jvm.ClassFile.FieldType.boolean)) ∈ GT := gmem4 (List.mem_of_getElem? (i := 60) rfl) rfl
theorem g4_61 : (Jvm.Cond.methodLink "JointedShadowsLaw" (73 : Nat) ({ cls := "JointedShadowsModel", name := "highest", desc := "(I)I" } : Jvm.MethodName)) ∈ GT := gmem4 (List.mem_of_getElem? (i := 61) rfl) rfl
theorem g4_62 : (Jvm.Cond.instanceMethod ({ cls := "JointedShadowsModel", name := "highest", desc := "(I)I" } : Jvm.MethodName)) ∈ GT := gmem4 (List.mem_of_getElem? (i := 62) rfl) rfl
theorem g4_63 : (Jvm.Cond.selects "JointedShadowsModel" ({ cls := "JointedShadowsModel", name := "highest", desc := "(I)I" } : Jvm.MethodName) ({ cls := "JointedShadowsModel", name := "highest", desc := "(I)I" } : Jvm.MethodName)) ∈ GT := gmem4 (List.mem_of_getElem? (i := 63) rfl) rfl
theorem g4_64 : (Jvm.Cond.code ({ cls := "JointedShadowsModel", name := "highest", desc := "(I)I" } : Jvm.MethodName) prog_9_method_44_code (5 : Nat) (Option.some Jvm.ClassFile.FieldType.int)) ∈ GT := gmem4 (List.mem_of_getElem? (i := 64) rfl) rfl
theorem g4_65 : (Jvm.Cond.methodLink "JointedShadowsLaw" (77 : Nat) ({ cls := "JointedShadowsModel", name := "planeFor", desc := "(III)I" } : Jvm.MethodName)) ∈ GT := gmem4 (List.mem_of_getElem? (i := 65) rfl) rfl
theorem g4_66 : (Jvm.Cond.instanceMethod ({ cls := "JointedShadowsModel", name := "planeFor", desc := "(III)I" } : Jvm.MethodName)) ∈ GT := gmem4 (List.mem_of_getElem? (i := 66) rfl) rfl
theorem g4_67 : (Jvm.Cond.selects "JointedShadowsModel" ({ cls := "JointedShadowsModel", name := "planeFor", desc := "(III)I" } : Jvm.MethodName) ({ cls := "JointedShadowsModel", name := "planeFor", desc := "(III)I" } : Jvm.MethodName)) ∈ GT := gmem4 (List.mem_of_getElem? (i := 67) rfl) rfl
theorem g4_68 : (Jvm.Cond.code ({ cls := "JointedShadowsModel", name := "planeFor", desc := "(III)I" } : Jvm.MethodName) prog_9_method_45_code (7 : Nat) (Option.some Jvm.ClassFile.FieldType.int)) ∈ GT := gmem4 (List.mem_of_getElem? (i := 68) rfl) rfl
theorem g4_69 : (Jvm.Cond.constant "JointedShadowsModel" (202 : Nat) (100000 : Int32)) ∈ GT := gmem4 (List.mem_of_getElem? (i := 69) rfl) rfl
theorem g4_70 : (Jvm.Cond.methodLink "JointedShadowsLaw" (81 : Nat) ({ cls := "JointedShadowsModel", name := "hands", desc := "(I)I" } : Jvm.MethodName)) ∈ GT := gmem4 (List.mem_of_getElem? (i := 70) rfl) rfl
theorem g4_71 : (Jvm.Cond.instanceMethod ({ cls := "JointedShadowsModel", name := "hands", desc := "(I)I" } : Jvm.MethodName)) ∈ GT := gmem4 (List.mem_of_getElem? (i := 71) rfl) rfl
theorem g4_72 : (Jvm.Cond.selects "JointedShadowsModel" ({ cls := "JointedShadowsModel", name := "hands", desc := "(I)I" } : Jvm.MethodName) ({ cls := "JointedShadowsModel", name := "hands", desc := "(I)I" } : Jvm.MethodName)) ∈ GT := gmem4 (List.mem_of_getElem? (i := 72) rfl) rfl
theorem g4_73 : (Jvm.Cond.code ({ cls := "JointedShadowsModel", name := "hands", desc := "(I)I" } : Jvm.MethodName) prog_9_method_50_code (2 : Nat) (Option.some Jvm.ClassFile.FieldType.int)) ∈ GT := gmem4 (List.mem_of_getElem? (i := 73) rfl) rfl
theorem g4_74 : (Jvm.Cond.methodLink "JointedShadowsModel" (212 : Nat) ({ cls := "JointedShadowsModel", name := "handsIn", desc := "(I)I" } : Jvm.MethodName)) ∈ GT := gmem4 (List.mem_of_getElem? (i := 74) rfl) rfl
theorem g4_76 : (Jvm.Cond.instanceMethod ({ cls := "JointedShadowsModel", name := "handsIn", desc := "(I)I" } : Jvm.MethodName)) ∈ GT := gmem4 (List.mem_of_getElem? (i := 76) rfl) rfl
theorem g4_77 : (Jvm.Cond.code ({ cls := "JointedShadowsModel", name := "handsIn", desc := "(I)I" } : Jvm.MethodName) prog_9_method_49_code (4 : Nat) (Option.some Jvm.ClassFile.FieldType.int)) ∈ GT := gmem4 (List.mem_of_getElem? (i := 77) rfl) rfl
theorem g4_78 : (Jvm.Cond.methodLink "JointedShadowsModel" (209 : Nat) ({ cls := "JointedShadowsModel", name := "handsOf", desc := "(II)I" } : Jvm.MethodName)) ∈ GT := gmem4 (List.mem_of_getElem? (i := 78) rfl) rfl
theorem g4_80 : (Jvm.Cond.instanceMethod ({ cls := "JointedShadowsModel", name := "handsOf", desc := "(II)I" } : Jvm.MethodName)) ∈ GT := gmem4 (List.mem_of_getElem? (i := 80) rfl) rfl
theorem g4_81 : (Jvm.Cond.code ({ cls := "JointedShadowsModel", name := "handsOf", desc := "(II)I" } : Jvm.MethodName) prog_9_method_48_code (9 : Nat) (Option.some Jvm.ClassFile.FieldType.int)) ∈ GT := gmem4 (List.mem_of_getElem? (i := 81) rfl) rfl
theorem g4_82 : (Jvm.Cond.methodLink "JointedShadowsModel" (203 : Nat) ({ cls := "JointedShadowsModel", name := "activeOf", desc := "(II)I" } : Jvm.MethodName)) ∈ GT := gmem4 (List.mem_of_getElem? (i := 82) rfl) rfl
theorem g4_84 : (Jvm.Cond.instanceMethod ({ cls := "JointedShadowsModel", name := "activeOf", desc := "(II)I" } : Jvm.MethodName)) ∈ GT := gmem4 (List.mem_of_getElem? (i := 84) rfl) rfl
theorem g4_85 : (Jvm.Cond.code ({ cls := "JointedShadowsModel", name := "activeOf", desc := "(II)I" } : Jvm.MethodName) prog_9_method_46_code (6 : Nat) (Option.some Jvm.ClassFile.FieldType.int)) ∈ GT := gmem4 (List.mem_of_getElem? (i := 85) rfl) rfl
theorem g4_86 : (Jvm.Cond.methodLink "JointedShadowsModel" (206 : Nat) ({ cls := "JointedShadowsModel", name := "bits", desc := "(I)I" } : Jvm.MethodName)) ∈ GT := gmem4 (List.mem_of_getElem? (i := 86) rfl) rfl
theorem g4_87 : (Jvm.Cond.static ({ cls := "JointedShadowsModel", name := "bits", desc := "(I)I" } : Jvm.MethodName)) ∈ GT := gmem4 (List.mem_of_getElem? (i := 87) rfl) rfl
theorem g4_88 : (Jvm.Cond.code ({ cls := "JointedShadowsModel", name := "bits", desc := "(I)I" } : Jvm.MethodName) prog_9_method_47_code (3 : Nat) (Option.some Jvm.ClassFile.FieldType.int)) ∈ GT := gmem4 (List.mem_of_getElem? (i := 88) rfl) rfl
theorem g4_89 : (Jvm.Cond.methodLink "JointedShadowsLaw" (86 : Nat) ({ cls := "JointedShadowsModel", name := "busiestBeat", desc := "()I" } : Jvm.MethodName)) ∈ GT := gmem4 (List.mem_of_getElem? (i := 89) rfl) rfl
theorem g4_90 : (Jvm.Cond.instanceMethod ({ cls := "JointedShadowsModel", name := "busiestBeat", desc := "()I" } : Jvm.MethodName)) ∈ GT := gmem4 (List.mem_of_getElem? (i := 90) rfl) rfl
theorem g4_91 : (Jvm.Cond.selects "JointedShadowsModel" ({ cls := "JointedShadowsModel", name := "busiestBeat", desc := "()I" } : Jvm.MethodName) ({ cls := "JointedShadowsModel", name := "busiestBeat", desc := "()I" } : Jvm.MethodName)) ∈ GT := gmem4 (List.mem_of_getElem? (i := 91) rfl) rfl
theorem g4_92 : (Jvm.Cond.code ({ cls := "JointedShadowsModel", name := "busiestBeat", desc := "()I" } : Jvm.MethodName) prog_9_method_51_code (5 : Nat) (Option.some Jvm.ClassFile.FieldType.int)) ∈ GT := gmem4 (List.mem_of_getElem? (i := 92) rfl) rfl
theorem g4_93 : (Jvm.Cond.methodLink "JointedShadowsLaw" (91 : Nat) ({ cls := "JointedShadowsModel", name := "activeRods", desc := "(II)I" } : Jvm.MethodName)) ∈ GT := gmem4 (List.mem_of_getElem? (i := 93) rfl) rfl
theorem g4_94 : (Jvm.Cond.instanceMethod ({ cls := "JointedShadowsModel", name := "activeRods", desc := "(II)I" } : Jvm.MethodName)) ∈ GT := gmem4 (List.mem_of_getElem? (i := 94) rfl) rfl
theorem g4_95 : (Jvm.Cond.selects "JointedShadowsModel" ({ cls := "JointedShadowsModel", name := "activeRods", desc := "(II)I" } : Jvm.MethodName) ({ cls := "JointedShadowsModel", name := "activeRods", desc := "(II)I" } : Jvm.MethodName)) ∈ GT := gmem4 (List.mem_of_getElem? (i := 95) rfl) rfl
theorem g4_96 : (Jvm.Cond.code ({ cls := "JointedShadowsModel", name := "activeRods", desc := "(II)I" } : Jvm.MethodName) prog_9_method_52_code (3 : Nat) (Option.some Jvm.ClassFile.FieldType.int)) ∈ GT := gmem4 (List.mem_of_getElem? (i := 96) rfl) rfl
theorem g4_97 : (Jvm.Cond.methodLink "JointedShadowsLaw" (95 : Nat) ({ cls := "JointedShadowsModel", name := "addScene", desc := "(I)I" } : Jvm.MethodName)) ∈ GT := gmem4 (List.mem_of_getElem? (i := 97) rfl) rfl
theorem g4_98 : (Jvm.Cond.instanceMethod ({ cls := "JointedShadowsModel", name := "addScene", desc := "(I)I" } : Jvm.MethodName)) ∈ GT := gmem4 (List.mem_of_getElem? (i := 98) rfl) rfl
theorem g4_99 : (Jvm.Cond.selects "JointedShadowsModel" ({ cls := "JointedShadowsModel", name := "addScene", desc := "(I)I" } : Jvm.MethodName) ({ cls := "JointedShadowsModel", name := "addScene", desc := "(I)I" } : Jvm.MethodName)) ∈ GT := gmem4 (List.mem_of_getElem? (i := 99) rfl) rfl
theorem g4_100 : (Jvm.Cond.code ({ cls := "JointedShadowsModel", name := "addScene", desc := "(I)I" } : Jvm.MethodName) prog_9_method_53_code (2 : Nat) (Option.some Jvm.ClassFile.FieldType.int)) ∈ GT := gmem4 (List.mem_of_getElem? (i := 100) rfl) rfl
theorem g4_101 : (Jvm.Cond.methodLink "JointedShadowsLaw" (99 : Nat) ({ cls := "JointedShadowsModel", name := "clearScenes", desc := "()I" } : Jvm.MethodName)) ∈ GT := gmem4 (List.mem_of_getElem? (i := 101) rfl) rfl
theorem g4_102 : (Jvm.Cond.instanceMethod ({ cls := "JointedShadowsModel", name := "clearScenes", desc := "()I" } : Jvm.MethodName)) ∈ GT := gmem4 (List.mem_of_getElem? (i := 102) rfl) rfl
theorem g4_103 : (Jvm.Cond.selects "JointedShadowsModel" ({ cls := "JointedShadowsModel", name := "clearScenes", desc := "()I" } : Jvm.MethodName) ({ cls := "JointedShadowsModel", name := "clearScenes", desc := "()I" } : Jvm.MethodName)) ∈ GT := gmem4 (List.mem_of_getElem? (i := 103) rfl) rfl
theorem g4_104 : (Jvm.Cond.code ({ cls := "JointedShadowsModel", name := "clearScenes", desc := "()I" } : Jvm.MethodName) prog_9_method_54_code (2 : Nat) (Option.some Jvm.ClassFile.FieldType.int)) ∈ GT := gmem4 (List.mem_of_getElem? (i := 104) rfl) rfl
theorem g4_105 : (Jvm.Cond.methodLink "JointedShadowsLaw" (103 : Nat) ({ cls := "JointedShadowsModel", name := "bestScene", desc := "(I)I" } : Jvm.MethodName)) ∈ GT := gmem4 (List.mem_of_getElem? (i := 105) rfl) rfl
theorem g4_106 : (Jvm.Cond.instanceMethod ({ cls := "JointedShadowsModel", name := "bestScene", desc := "(I)I" } : Jvm.MethodName)) ∈ GT := gmem4 (List.mem_of_getElem? (i := 106) rfl) rfl
theorem g4_107 : (Jvm.Cond.selects "JointedShadowsModel" ({ cls := "JointedShadowsModel", name := "bestScene", desc := "(I)I" } : Jvm.MethodName) ({ cls := "JointedShadowsModel", name := "bestScene", desc := "(I)I" } : Jvm.MethodName)) ∈ GT := gmem4 (List.mem_of_getElem? (i := 107) rfl) rfl
theorem g4_108 : (Jvm.Cond.code ({ cls := "JointedShadowsModel", name := "bestScene", desc := "(I)I" } : Jvm.MethodName) prog_9_method_59_code (2 : Nat) (Option.some Jvm.ClassFile.FieldType.int)) ∈ GT := gmem4 (List.mem_of_getElem? (i := 108) rfl) rfl
theorem g4_109 : (Jvm.Cond.methodLink "JointedShadowsModel" (226 : Nat) ({ cls := "JointedShadowsModel", name := "findOrder", desc := "()I" } : Jvm.MethodName)) ∈ GT := gmem4 (List.mem_of_getElem? (i := 109) rfl) rfl
theorem g4_111 : (Jvm.Cond.instanceMethod ({ cls := "JointedShadowsModel", name := "findOrder", desc := "()I" } : Jvm.MethodName)) ∈ GT := gmem4 (List.mem_of_getElem? (i := 111) rfl) rfl
theorem g4_112 : (Jvm.Cond.code ({ cls := "JointedShadowsModel", name := "findOrder", desc := "()I" } : Jvm.MethodName) prog_9_method_58_code (6 : Nat) (Option.some Jvm.ClassFile.FieldType.int)) ∈ GT := gmem4 (List.mem_of_getElem? (i := 112) rfl) rfl
theorem g4_113 : (Jvm.Cond.methodLink "JointedShadowsModel" (219 : Nat) ({ cls := "JointedShadowsModel", name := "costNow", desc := "()I" } : Jvm.MethodName)) ∈ GT := gmem4 (List.mem_of_getElem? (i := 113) rfl) rfl
theorem g4_115 : (Jvm.Cond.instanceMethod ({ cls := "JointedShadowsModel", name := "costNow", desc := "()I" } : Jvm.MethodName)) ∈ GT := gmem4 (List.mem_of_getElem? (i := 115) rfl) rfl
theorem g4_116 : (Jvm.Cond.code ({ cls := "JointedShadowsModel", name := "costNow", desc := "()I" } : Jvm.MethodName) prog_9_method_55_code (3 : Nat) (Option.some Jvm.ClassFile.FieldType.int)) ∈ GT := gmem4 (List.mem_of_getElem? (i := 116) rfl) rfl
theorem g4_117 : (Jvm.Cond.methodLink "JointedShadowsModel" (223 : Nat) ({ cls := "JointedShadowsModel", name := "nextOrder", desc := "()Z" } : Jvm.MethodName)) ∈ GT := gmem4 (List.mem_of_getElem? (i := 117) rfl) rfl
theorem g4_119 : (Jvm.Cond.instanceMethod ({ cls := "JointedShadowsModel", name := "nextOrder", desc := "()Z" } : Jvm.MethodName)) ∈ GT := gmem4 (List.mem_of_getElem? (i := 119) rfl) rfl
theorem g4_120 : (Jvm.Cond.code ({ cls := "JointedShadowsModel", name := "nextOrder", desc := "()Z" } : Jvm.MethodName) prog_9_method_57_code (5 : Nat) (Option.some Jvm.ClassFile.FieldType.boolean)) ∈ GT := gmem4 (List.mem_of_getElem? (i := 120) rfl) rfl
theorem g4_121 : (Jvm.Cond.methodLink "JointedShadowsModel" (215 : Nat) ({ cls := "JointedShadowsModel", name := "exchange", desc := "(II)V" } : Jvm.MethodName)) ∈ GT := gmem4 (List.mem_of_getElem? (i := 121) rfl) rfl
theorem g4_123 : (Jvm.Cond.instanceMethod ({ cls := "JointedShadowsModel", name := "exchange", desc := "(II)V" } : Jvm.MethodName)) ∈ GT := gmem4 (List.mem_of_getElem? (i := 123) rfl) rfl
theorem g4_124 : (Jvm.Cond.code ({ cls := "JointedShadowsModel", name := "exchange", desc := "(II)V" } : Jvm.MethodName) prog_9_method_56_code (4 : Nat) (Option.none : Option Jvm.ClassFile.FieldType)) ∈ GT := gmem4 (List.mem_of_getElem? (i := 124) rfl) rfl
theorem g4_125 : (Jvm.Cond.methodLink "JointedShadowsLaw" (107 : Nat) ({ cls := "JointedShadowsModel", name := "bestCost", desc := "()I" } : Jvm.MethodName)) ∈ GT := gmem4 (List.mem_of_getElem? (i := 125) rfl) rfl
theorem g4_126 : (Jvm.Cond.instanceMethod ({ cls := "JointedShadowsModel", name := "bestCost", desc := "()I" } : Jvm.MethodName)) ∈ GT := gmem4 (List.mem_of_getElem? (i := 126) rfl) rfl
theorem g4_127 : (Jvm.Cond.selects "JointedShadowsModel" ({ cls := "JointedShadowsModel", name := "bestCost", desc := "()I" } : Jvm.MethodName) ({ cls := "JointedShadowsModel", name := "bestCost", desc := "()I" } : Jvm.MethodName)) ∈ GT := gmem4 (List.mem_of_getElem? (i := 127) rfl) rfl
theorem g4_128 : (Jvm.Cond.code ({ cls := "JointedShadowsModel", name := "bestCost", desc := "()I" } : Jvm.MethodName) prog_9_method_60_code (1 : Nat) (Option.some Jvm.ClassFile.FieldType.int)) ∈ GT := gmem4 (List.mem_of_getElem? (i := 128) rfl) rfl
