section
-- ===== PART A: goes FIRST, ahead of the names: the tables' words, and 'selects' of the private methods out of them =====
/-- a private method of a class that the tables say can be made, by its rows of tables_1 -/
def lw_okq (q : MethodName × Nat) : Prop := (q.1.cls ≠ "java/lang/invoke/MethodHandle" ∧ q.1.cls ≠ "java/lang/invoke/VarHandle") ∧ Cond.instantiable q.1.cls q.2 ∈ tables_1 ∧ Cond.privateMethod q.1 ∈ tables_1 ∧ Cond.instanceMethod q.1 ∈ tables_1
theorem lw_p0 : lw_okq (⟨"JointedShadows", "figureAt", "(I)LJointedShadows$Figure;"⟩, 9) := ⟨⟨by decide +kernel, by decide +kernel⟩, List.mem_of_getElem? (i := 14) (by decide +kernel), List.mem_of_getElem? (i := 204) (by decide +kernel), List.mem_of_getElem? (i := 205) (by decide +kernel)⟩
theorem lw_p1 : lw_okq (⟨"JointedShadows", "limbsOfAll", "()I"⟩, 9) := ⟨⟨by decide +kernel, by decide +kernel⟩, List.mem_of_getElem? (i := 14) (by decide +kernel), List.mem_of_getElem? (i := 221) (by decide +kernel), List.mem_of_getElem? (i := 222) (by decide +kernel)⟩
theorem lw_p2 : lw_okq (⟨"JointedShadows$Pose", "stand", "(LJointedShadows$Figure;I)V"⟩, 9) := ⟨⟨by decide +kernel, by decide +kernel⟩, List.mem_of_getElem? (i := 59) (by decide +kernel), List.mem_of_getElem? (i := 306) (by decide +kernel), List.mem_of_getElem? (i := 307) (by decide +kernel)⟩
theorem lw_p3 : lw_okq (⟨"JointedShadows$Pose", "follow", "(LJointedShadows$Move;I)V"⟩, 9) := ⟨⟨by decide +kernel, by decide +kernel⟩, List.mem_of_getElem? (i := 59) (by decide +kernel), List.mem_of_getElem? (i := 316) (by decide +kernel), List.mem_of_getElem? (i := 317) (by decide +kernel)⟩
theorem lw_p4 : lw_okq (⟨"JointedShadows$Pose", "layPoints", "(LJointedShadows$Figure;)V"⟩, 9) := ⟨⟨by decide +kernel, by decide +kernel⟩, List.mem_of_getElem? (i := 59) (by decide +kernel), List.mem_of_getElem? (i := 323) (by decide +kernel), List.mem_of_getElem? (i := 324) (by decide +kernel)⟩
theorem lw_p5 : lw_okq (⟨"JointedShadows$Pose", "layBox", "(I)V"⟩, 9) := ⟨⟨by decide +kernel, by decide +kernel⟩, List.mem_of_getElem? (i := 59) (by decide +kernel), List.mem_of_getElem? (i := 338) (by decide +kernel), List.mem_of_getElem? (i := 339) (by decide +kernel)⟩
theorem lw_p6 : lw_okq (⟨"JointedShadows", "takePoses", "(LJointedShadows$Figure;LJointedShadows$Figure;I)V"⟩, 9) := ⟨⟨by decide +kernel, by decide +kernel⟩, List.mem_of_getElem? (i := 14) (by decide +kernel), List.mem_of_getElem? (i := 370) (by decide +kernel), List.mem_of_getElem? (i := 371) (by decide +kernel)⟩
theorem lw_p7 : lw_okq (⟨"JointedShadows", "crossingLimbs", "(LJointedShadows$Figure;LJointedShadows$Figure;I)I"⟩, 9) := ⟨⟨by decide +kernel, by decide +kernel⟩, List.mem_of_getElem? (i := 14) (by decide +kernel), List.mem_of_getElem? (i := 381) (by decide +kernel), List.mem_of_getElem? (i := 382) (by decide +kernel)⟩
theorem lw_p8 : lw_okq (⟨"JointedShadows$Segment", "lineMeets", "(LJointedShadows$Segment;)Z"⟩, 4) := ⟨⟨by decide +kernel, by decide +kernel⟩, List.mem_of_getElem? (i := 103) (by decide +kernel), List.mem_of_getElem? (i := 399) (by decide +kernel), List.mem_of_getElem? (i := 400) (by decide +kernel)⟩
theorem lw_p9 : lw_okq (⟨"JointedShadows$Segment", "side", "(JJ)I"⟩, 4) := ⟨⟨by decide +kernel, by decide +kernel⟩, List.mem_of_getElem? (i := 103) (by decide +kernel), List.mem_of_getElem? (i := 403) (by decide +kernel), List.mem_of_getElem? (i := 404) (by decide +kernel)⟩
theorem lw_p10 : lw_okq (⟨"JointedShadows", "isHigher", "(LJointedShadows$Figure;LJointedShadows$Figure;I)Z"⟩, 9) := ⟨⟨by decide +kernel, by decide +kernel⟩, List.mem_of_getElem? (i := 14) (by decide +kernel), List.mem_of_getElem? (i := 430) (by decide +kernel), List.mem_of_getElem? (i := 431) (by decide +kernel)⟩
theorem lw_p11 : lw_okq (⟨"JointedShadows", "handsOfAll", "(I)I"⟩, 9) := ⟨⟨by decide +kernel, by decide +kernel⟩, List.mem_of_getElem? (i := 14) (by decide +kernel), List.mem_of_getElem? (i := 445) (by decide +kernel), List.mem_of_getElem? (i := 446) (by decide +kernel)⟩
theorem lw_p12 : lw_okq (⟨"JointedShadows$Scenes", "fillLeast", "()V"⟩, 3) := ⟨⟨by decide +kernel, by decide +kernel⟩, List.mem_of_getElem? (i := 41) (by decide +kernel), List.mem_of_getElem? (i := 484) (by decide +kernel), List.mem_of_getElem? (i := 485) (by decide +kernel)⟩
theorem lw_p13 : lw_okq (⟨"JointedShadows$Scenes", "allButFirst", "()I"⟩, 3) := ⟨⟨by decide +kernel, by decide +kernel⟩, List.mem_of_getElem? (i := 41) (by decide +kernel), List.mem_of_getElem? (i := 488) (by decide +kernel), List.mem_of_getElem? (i := 489) (by decide +kernel)⟩
theorem lw_p14 : lw_okq (⟨"JointedShadows$Scenes", "firstBestNext", "(II)I"⟩, 3) := ⟨⟨by decide +kernel, by decide +kernel⟩, List.mem_of_getElem? (i := 41) (by decide +kernel), List.mem_of_getElem? (i := 498) (by decide +kernel), List.mem_of_getElem? (i := 499) (by decide +kernel)⟩
theorem lw_p15 : lw_okq (⟨"JointedShadows$Scenes", "costVia", "(III)I"⟩, 3) := ⟨⟨by decide +kernel, by decide +kernel⟩, List.mem_of_getElem? (i := 41) (by decide +kernel), List.mem_of_getElem? (i := 503) (by decide +kernel), List.mem_of_getElem? (i := 504) (by decide +kernel)⟩
def lw_privs_1 : List (MethodName × Nat) := [(⟨"JointedShadows", "figureAt", "(I)LJointedShadows$Figure;"⟩, 9), (⟨"JointedShadows", "limbsOfAll", "()I"⟩, 9), (⟨"JointedShadows$Pose", "stand", "(LJointedShadows$Figure;I)V"⟩, 9), (⟨"JointedShadows$Pose", "follow", "(LJointedShadows$Move;I)V"⟩, 9), (⟨"JointedShadows$Pose", "layPoints", "(LJointedShadows$Figure;)V"⟩, 9), (⟨"JointedShadows$Pose", "layBox", "(I)V"⟩, 9), (⟨"JointedShadows", "takePoses", "(LJointedShadows$Figure;LJointedShadows$Figure;I)V"⟩, 9), (⟨"JointedShadows", "crossingLimbs", "(LJointedShadows$Figure;LJointedShadows$Figure;I)I"⟩, 9), (⟨"JointedShadows$Segment", "lineMeets", "(LJointedShadows$Segment;)Z"⟩, 4), (⟨"JointedShadows$Segment", "side", "(JJ)I"⟩, 4), (⟨"JointedShadows", "isHigher", "(LJointedShadows$Figure;LJointedShadows$Figure;I)Z"⟩, 9), (⟨"JointedShadows", "handsOfAll", "(I)I"⟩, 9), (⟨"JointedShadows$Scenes", "fillLeast", "()V"⟩, 3), (⟨"JointedShadows$Scenes", "allButFirst", "()I"⟩, 3), (⟨"JointedShadows$Scenes", "firstBestNext", "(II)I"⟩, 3), (⟨"JointedShadows$Scenes", "costVia", "(III)I"⟩, 3)]
theorem lw_r1 : ∀ q ∈ lw_privs_1, lw_okq q := List.forall_mem_cons.mpr ⟨lw_p0, List.forall_mem_cons.mpr ⟨lw_p1, List.forall_mem_cons.mpr ⟨lw_p2, List.forall_mem_cons.mpr ⟨lw_p3, List.forall_mem_cons.mpr ⟨lw_p4, List.forall_mem_cons.mpr ⟨lw_p5, List.forall_mem_cons.mpr ⟨lw_p6, List.forall_mem_cons.mpr ⟨lw_p7, List.forall_mem_cons.mpr ⟨lw_p8, List.forall_mem_cons.mpr ⟨lw_p9, List.forall_mem_cons.mpr ⟨lw_p10, List.forall_mem_cons.mpr ⟨lw_p11, List.forall_mem_cons.mpr ⟨lw_p12, List.forall_mem_cons.mpr ⟨lw_p13, List.forall_mem_cons.mpr ⟨lw_p14, List.forall_mem_cons.mpr ⟨lw_p15, fun _ h => absurd h List.not_mem_nil⟩⟩⟩⟩⟩⟩⟩⟩⟩⟩⟩⟩⟩⟩⟩⟩
theorem lw_p16 : lw_okq (⟨"JointedShadows$Scenes", "least", "(II)I"⟩, 3) := ⟨⟨by decide +kernel, by decide +kernel⟩, List.mem_of_getElem? (i := 41) (by decide +kernel), List.mem_of_getElem? (i := 508) (by decide +kernel), List.mem_of_getElem? (i := 509) (by decide +kernel)⟩
theorem lw_p17 : lw_okq (⟨"JointedShadowsModel", "noFigure", "(I)Z"⟩, 27) := ⟨⟨by decide +kernel, by decide +kernel⟩, List.mem_of_getElem? (i := 536) (by decide +kernel), List.mem_of_getElem? (i := 640) (by decide +kernel), List.mem_of_getElem? (i := 641) (by decide +kernel)⟩
theorem lw_p18 : lw_okq (⟨"JointedShadowsModel", "noLimb", "(II)Z"⟩, 27) := ⟨⟨by decide +kernel, by decide +kernel⟩, List.mem_of_getElem? (i := 536) (by decide +kernel), List.mem_of_getElem? (i := 644) (by decide +kernel), List.mem_of_getElem? (i := 645) (by decide +kernel)⟩
theorem lw_p19 : lw_okq (⟨"JointedShadowsModel", "addMove", "(IIIIII)I"⟩, 27) := ⟨⟨by decide +kernel, by decide +kernel⟩, List.mem_of_getElem? (i := 536) (by decide +kernel), List.mem_of_getElem? (i := 659) (by decide +kernel), List.mem_of_getElem? (i := 660) (by decide +kernel)⟩
theorem lw_p20 : lw_okq (⟨"JointedShadowsModel", "goTo", "(I)V"⟩, 27) := ⟨⟨by decide +kernel, by decide +kernel⟩, List.mem_of_getElem? (i := 536) (by decide +kernel), List.mem_of_getElem? (i := 679) (by decide +kernel), List.mem_of_getElem? (i := 680) (by decide +kernel)⟩
theorem lw_p21 : lw_okq (⟨"JointedShadowsModel", "inStage", "(I)I"⟩, 27) := ⟨⟨by decide +kernel, by decide +kernel⟩, List.mem_of_getElem? (i := 536) (by decide +kernel), List.mem_of_getElem? (i := 683) (by decide +kernel), List.mem_of_getElem? (i := 684) (by decide +kernel)⟩
theorem lw_p22 : lw_okq (⟨"JointedShadowsModel", "doMove", "(I)V"⟩, 27) := ⟨⟨by decide +kernel, by decide +kernel⟩, List.mem_of_getElem? (i := 536) (by decide +kernel), List.mem_of_getElem? (i := 687) (by decide +kernel), List.mem_of_getElem? (i := 688) (by decide +kernel)⟩
theorem lw_p23 : lw_okq (⟨"JointedShadowsModel", "layPoints", "(I)V"⟩, 27) := ⟨⟨by decide +kernel, by decide +kernel⟩, List.mem_of_getElem? (i := 536) (by decide +kernel), List.mem_of_getElem? (i := 691) (by decide +kernel), List.mem_of_getElem? (i := 692) (by decide +kernel)⟩
theorem lw_p24 : lw_okq (⟨"JointedShadowsModel", "measure", "(II)J"⟩, 27) := ⟨⟨by decide +kernel, by decide +kernel⟩, List.mem_of_getElem? (i := 536) (by decide +kernel), List.mem_of_getElem? (i := 705) (by decide +kernel), List.mem_of_getElem? (i := 706) (by decide +kernel)⟩
theorem lw_p25 : lw_okq (⟨"JointedShadowsModel", "reach", "(IZI)J"⟩, 27) := ⟨⟨by decide +kernel, by decide +kernel⟩, List.mem_of_getElem? (i := 536) (by decide +kernel), List.mem_of_getElem? (i := 709) (by decide +kernel), List.mem_of_getElem? (i := 710) (by decide +kernel)⟩
theorem lw_p26 : lw_okq (⟨"JointedShadowsModel", "along", "(IIII)J"⟩, 27) := ⟨⟨by decide +kernel, by decide +kernel⟩, List.mem_of_getElem? (i := 536) (by decide +kernel), List.mem_of_getElem? (i := 726) (by decide +kernel), List.mem_of_getElem? (i := 727) (by decide +kernel)⟩
theorem lw_p27 : lw_okq (⟨"JointedShadowsModel", "twoBarred", "(III)I"⟩, 27) := ⟨⟨by decide +kernel, by decide +kernel⟩, List.mem_of_getElem? (i := 536) (by decide +kernel), List.mem_of_getElem? (i := 737) (by decide +kernel), List.mem_of_getElem? (i := 738) (by decide +kernel)⟩
theorem lw_p28 : lw_okq (⟨"JointedShadowsModel", "crossingsNow", "(II)I"⟩, 27) := ⟨⟨by decide +kernel, by decide +kernel⟩, List.mem_of_getElem? (i := 536) (by decide +kernel), List.mem_of_getElem? (i := 741) (by decide +kernel), List.mem_of_getElem? (i := 742) (by decide +kernel)⟩
theorem lw_p29 : lw_okq (⟨"JointedShadowsModel", "layEnds", "(IIIJ)V"⟩, 27) := ⟨⟨by decide +kernel, by decide +kernel⟩, List.mem_of_getElem? (i := 536) (by decide +kernel), List.mem_of_getElem? (i := 745) (by decide +kernel), List.mem_of_getElem? (i := 746) (by decide +kernel)⟩
theorem lw_p30 : lw_okq (⟨"JointedShadowsModel", "doMeet", "()Z"⟩, 27) := ⟨⟨by decide +kernel, by decide +kernel⟩, List.mem_of_getElem? (i := 536) (by decide +kernel), List.mem_of_getElem? (i := 749) (by decide +kernel), List.mem_of_getElem? (i := 750) (by decide +kernel)⟩
theorem lw_p31 : lw_okq (⟨"JointedShadowsModel", "isOnSegment", "(II)Z"⟩, 27) := ⟨⟨by decide +kernel, by decide +kernel⟩, List.mem_of_getElem? (i := 536) (by decide +kernel), List.mem_of_getElem? (i := 753) (by decide +kernel), List.mem_of_getElem? (i := 754) (by decide +kernel)⟩
def lw_privs_2 : List (MethodName × Nat) := [(⟨"JointedShadows$Scenes", "least", "(II)I"⟩, 3), (⟨"JointedShadowsModel", "noFigure", "(I)Z"⟩, 27), (⟨"JointedShadowsModel", "noLimb", "(II)Z"⟩, 27), (⟨"JointedShadowsModel", "addMove", "(IIIIII)I"⟩, 27), (⟨"JointedShadowsModel", "goTo", "(I)V"⟩, 27), (⟨"JointedShadowsModel", "inStage", "(I)I"⟩, 27), (⟨"JointedShadowsModel", "doMove", "(I)V"⟩, 27), (⟨"JointedShadowsModel", "layPoints", "(I)V"⟩, 27), (⟨"JointedShadowsModel", "measure", "(II)J"⟩, 27), (⟨"JointedShadowsModel", "reach", "(IZI)J"⟩, 27), (⟨"JointedShadowsModel", "along", "(IIII)J"⟩, 27), (⟨"JointedShadowsModel", "twoBarred", "(III)I"⟩, 27), (⟨"JointedShadowsModel", "crossingsNow", "(II)I"⟩, 27), (⟨"JointedShadowsModel", "layEnds", "(IIIJ)V"⟩, 27), (⟨"JointedShadowsModel", "doMeet", "()Z"⟩, 27), (⟨"JointedShadowsModel", "isOnSegment", "(II)Z"⟩, 27)]
theorem lw_r2 : ∀ q ∈ lw_privs_2, lw_okq q := List.forall_mem_cons.mpr ⟨lw_p16, List.forall_mem_cons.mpr ⟨lw_p17, List.forall_mem_cons.mpr ⟨lw_p18, List.forall_mem_cons.mpr ⟨lw_p19, List.forall_mem_cons.mpr ⟨lw_p20, List.forall_mem_cons.mpr ⟨lw_p21, List.forall_mem_cons.mpr ⟨lw_p22, List.forall_mem_cons.mpr ⟨lw_p23, List.forall_mem_cons.mpr ⟨lw_p24, List.forall_mem_cons.mpr ⟨lw_p25, List.forall_mem_cons.mpr ⟨lw_p26, List.forall_mem_cons.mpr ⟨lw_p27, List.forall_mem_cons.mpr ⟨lw_p28, List.forall_mem_cons.mpr ⟨lw_p29, List.forall_mem_cons.mpr ⟨lw_p30, List.forall_mem_cons.mpr ⟨lw_p31, fun _ h => absurd h List.not_mem_nil⟩⟩⟩⟩⟩⟩⟩⟩⟩⟩⟩⟩⟩⟩⟩⟩
theorem lw_p32 : lw_okq (⟨"JointedShadowsModel", "sideOf", "(II)I"⟩, 27) := ⟨⟨by decide +kernel, by decide +kernel⟩, List.mem_of_getElem? (i := 536) (by decide +kernel), List.mem_of_getElem? (i := 766) (by decide +kernel), List.mem_of_getElem? (i := 767) (by decide +kernel)⟩
theorem lw_p33 : lw_okq (⟨"JointedShadowsModel", "isWithin", "(IJJ)Z"⟩, 27) := ⟨⟨by decide +kernel, by decide +kernel⟩, List.mem_of_getElem? (i := 536) (by decide +kernel), List.mem_of_getElem? (i := 778) (by decide +kernel), List.mem_of_getElem? (i := 779) (by decide +kernel)⟩
theorem lw_p34 : lw_okq (⟨"JointedShadowsModel", "handsIn", "(I)I"⟩, 27) := ⟨⟨by decide +kernel, by decide +kernel⟩, List.mem_of_getElem? (i := 536) (by decide +kernel), List.mem_of_getElem? (i := 795) (by decide +kernel), List.mem_of_getElem? (i := 796) (by decide +kernel)⟩
theorem lw_p35 : lw_okq (⟨"JointedShadowsModel", "handsOf", "(II)I"⟩, 27) := ⟨⟨by decide +kernel, by decide +kernel⟩, List.mem_of_getElem? (i := 536) (by decide +kernel), List.mem_of_getElem? (i := 799) (by decide +kernel), List.mem_of_getElem? (i := 800) (by decide +kernel)⟩
theorem lw_p36 : lw_okq (⟨"JointedShadowsModel", "activeOf", "(II)I"⟩, 27) := ⟨⟨by decide +kernel, by decide +kernel⟩, List.mem_of_getElem? (i := 536) (by decide +kernel), List.mem_of_getElem? (i := 803) (by decide +kernel), List.mem_of_getElem? (i := 804) (by decide +kernel)⟩
theorem lw_p37 : lw_okq (⟨"JointedShadowsModel", "findOrder", "()I"⟩, 27) := ⟨⟨by decide +kernel, by decide +kernel⟩, List.mem_of_getElem? (i := 536) (by decide +kernel), List.mem_of_getElem? (i := 830) (by decide +kernel), List.mem_of_getElem? (i := 831) (by decide +kernel)⟩
theorem lw_p38 : lw_okq (⟨"JointedShadowsModel", "costNow", "()I"⟩, 27) := ⟨⟨by decide +kernel, by decide +kernel⟩, List.mem_of_getElem? (i := 536) (by decide +kernel), List.mem_of_getElem? (i := 834) (by decide +kernel), List.mem_of_getElem? (i := 835) (by decide +kernel)⟩
theorem lw_p39 : lw_okq (⟨"JointedShadowsModel", "nextOrder", "()Z"⟩, 27) := ⟨⟨by decide +kernel, by decide +kernel⟩, List.mem_of_getElem? (i := 536) (by decide +kernel), List.mem_of_getElem? (i := 838) (by decide +kernel), List.mem_of_getElem? (i := 839) (by decide +kernel)⟩
theorem lw_p40 : lw_okq (⟨"JointedShadowsModel", "exchange", "(II)V"⟩, 27) := ⟨⟨by decide +kernel, by decide +kernel⟩, List.mem_of_getElem? (i := 536) (by decide +kernel), List.mem_of_getElem? (i := 842) (by decide +kernel), List.mem_of_getElem? (i := 843) (by decide +kernel)⟩
def lw_privs_3 : List (MethodName × Nat) := [(⟨"JointedShadowsModel", "sideOf", "(II)I"⟩, 27), (⟨"JointedShadowsModel", "isWithin", "(IJJ)Z"⟩, 27), (⟨"JointedShadowsModel", "handsIn", "(I)I"⟩, 27), (⟨"JointedShadowsModel", "handsOf", "(II)I"⟩, 27), (⟨"JointedShadowsModel", "activeOf", "(II)I"⟩, 27), (⟨"JointedShadowsModel", "findOrder", "()I"⟩, 27), (⟨"JointedShadowsModel", "costNow", "()I"⟩, 27), (⟨"JointedShadowsModel", "nextOrder", "()Z"⟩, 27), (⟨"JointedShadowsModel", "exchange", "(II)V"⟩, 27)]
theorem lw_r3 : ∀ q ∈ lw_privs_3, lw_okq q := List.forall_mem_cons.mpr ⟨lw_p32, List.forall_mem_cons.mpr ⟨lw_p33, List.forall_mem_cons.mpr ⟨lw_p34, List.forall_mem_cons.mpr ⟨lw_p35, List.forall_mem_cons.mpr ⟨lw_p36, List.forall_mem_cons.mpr ⟨lw_p37, List.forall_mem_cons.mpr ⟨lw_p38, List.forall_mem_cons.mpr ⟨lw_p39, List.forall_mem_cons.mpr ⟨lw_p40, fun _ h => absurd h List.not_mem_nil⟩⟩⟩⟩⟩⟩⟩⟩⟩
def lw_privs : List (MethodName × Nat) := lw_privs_1 ++ (lw_privs_2 ++ (lw_privs_3))
def lw_tbl : List Cond := k2_sels lw_privs ++ tables_1
theorem lw_privs_ok : ∀ q ∈ lw_privs, lw_okq q := by
  show ∀ q ∈ lw_privs_1 ++ (lw_privs_2 ++ (lw_privs_3)), lw_okq q
  exact List.forall_mem_append.mpr ⟨lw_r1, List.forall_mem_append.mpr ⟨lw_r2, lw_r3⟩⟩

-- names
def RX0 : String := "JointedShadows$Figure"
def TX0 : u_T := fun k => match k with
  | 0 => ("JointedShadows$Figure", "number", "I", true)
  | 1 => ("JointedShadows$Figure", "x", "I", true)
  | 2 => ("JointedShadows$Figure", "y", "I", true)
  | 3 => ("JointedShadows$Figure", "plane", "I", true)
  | 4 => ("JointedShadows$Figure", "parent", "[I", true)
  | 5 => ("JointedShadows$Figure", "length", "[I", true)
  | 6 => ("JointedShadows$Figure", "direction", "[I", true)
  | _ => ("JointedShadows$Figure", "limbs", "I", false)
def tyX0 : Nat → FieldType := fun k => match k with
  | 0 => .int
  | 1 => .int
  | 2 => .int
  | 3 => .int
  | 4 => .array .int
  | 5 => .array .int
  | 6 => .array .int
  | _ => .int
theorem nmX0 : ∀ a, a < 8 → ∀ b, b < 8 → a ≠ b → (TX0 a).2.1 ≠ (TX0 b).2.1 := by decide +kernel
theorem tyX0_ok : ∀ k, k < 8 → parseFieldDescriptor (TX0 k).2.2.1 = some (tyX0 k) := by decide +kernel
abbrev cX0_init : ByteArray := prog_2_method_1_code
def yX0_init : MethodName := ⟨RX0, "<init>", "(IIII)V"⟩
abbrev cX0_hasLimb : ByteArray := prog_2_method_2_code
def yX0_hasLimb : MethodName := ⟨RX0, "hasLimb", "(I)Z"⟩
abbrev cX0_grow : ByteArray := prog_2_method_3_code
def yX0_grow : MethodName := ⟨RX0, "grow", "(III)I"⟩
abbrev cX0_start : ByteArray := prog_2_method_4_code
def yX0_start : MethodName := ⟨RX0, "start", "(I)I"⟩
abbrev cX0_handsFor : ByteArray := prog_2_method_5_code
def yX0_handsFor : MethodName := ⟨RX0, "handsFor", "(I)I"⟩
def RX1 : String := "JointedShadows$Move"
def TX1 : u_T := fun k => match k with
  | 0 => ("JointedShadows$Move", "number", "I", true)
  | 1 => ("JointedShadows$Move", "beat", "I", true)
  | 2 => ("JointedShadows$Move", "figure", "I", true)
  | 3 => ("JointedShadows$Move", "limb", "I", true)
  | 4 => ("JointedShadows$Move", "eighths", "I", false)
  | 5 => ("JointedShadows$Move", "dx", "I", false)
  | 6 => ("JointedShadows$Move", "dy", "I", false)
  | _ => ("JointedShadows$Move", "dplane", "I", false)
def tyX1 : Nat → FieldType := fun k => match k with
  | 0 => .int
  | 1 => .int
  | 2 => .int
  | 3 => .int
  | 4 => .int
  | 5 => .int
  | 6 => .int
  | _ => .int
theorem nmX1 : ∀ a, a < 8 → ∀ b, b < 8 → a ≠ b → (TX1 a).2.1 ≠ (TX1 b).2.1 := by decide +kernel
theorem tyX1_ok : ∀ k, k < 8 → parseFieldDescriptor (TX1 k).2.2.1 = some (tyX1 k) := by decide +kernel
abbrev cX1_init : ByteArray := prog_3_method_1_code
def yX1_init : MethodName := ⟨RX1, "<init>", "(IIII)V"⟩
def RX2 : String := "JointedShadows$Pose"
def TX2 : u_T := fun k => match k with
  | 0 => ("JointedShadows$Pose", "direction", "[I", true)
  | 1 => ("JointedShadows$Pose", "x", "[I", true)
  | 2 => ("JointedShadows$Pose", "y", "[I", true)
  | 3 => ("JointedShadows$Pose", "total", "[I", true)
  | 4 => ("JointedShadows$Pose", "plane", "I", false)
  | 5 => ("JointedShadows$Pose", "left", "I", false)
  | 6 => ("JointedShadows$Pose", "right", "I", false)
  | 7 => ("JointedShadows$Pose", "bottom", "I", false)
  | _ => ("JointedShadows$Pose", "top", "I", false)
def tyX2 : Nat → FieldType := fun k => match k with
  | 0 => .array .int
  | 1 => .array .int
  | 2 => .array .int
  | 3 => .array .int
  | 4 => .int
  | 5 => .int
  | 6 => .int
  | 7 => .int
  | _ => .int
theorem nmX2 : ∀ a, a < 9 → ∀ b, b < 9 → a ≠ b → (TX2 a).2.1 ≠ (TX2 b).2.1 := by decide +kernel
theorem tyX2_ok : ∀ k, k < 9 → parseFieldDescriptor (TX2 k).2.2.1 = some (tyX2 k) := by decide +kernel
abbrev cX2_init : ByteArray := prog_4_method_1_code
def yX2_init : MethodName := ⟨RX2, "<init>", "()V"⟩
abbrev cX2_take : ByteArray := prog_4_method_2_code
def yX2_take : MethodName := ⟨RX2, "take", "(LJointedShadows$Figure;LJointedShadows$Script;II)LJointedShadows$Pose;"⟩
abbrev cX2_stand : ByteArray := prog_4_method_3_code
def yX2_stand : MethodName := ⟨RX2, "stand", "(LJointedShadows$Figure;I)V"⟩
abbrev cX2_follow : ByteArray := prog_4_method_4_code
def yX2_follow : MethodName := ⟨RX2, "follow", "(LJointedShadows$Move;I)V"⟩
abbrev cX2_layPoints : ByteArray := prog_4_method_5_code
def yX2_layPoints : MethodName := ⟨RX2, "layPoints", "(LJointedShadows$Figure;)V"⟩
abbrev cX2_layBox : ByteArray := prog_4_method_6_code
def yX2_layBox : MethodName := ⟨RX2, "layBox", "(I)V"⟩
abbrev cX2_height : ByteArray := prog_4_method_7_code
def yX2_height : MethodName := ⟨RX2, "height", "()I"⟩
abbrev cX2_measure : ByteArray := prog_4_method_8_code
def yX2_measure : MethodName := ⟨RX2, "measure", "(I)I"⟩
abbrev cX2_isWithin : ByteArray := prog_4_method_9_code
def yX2_isWithin : MethodName := ⟨RX2, "isWithin", "(III)Z"⟩
def RX3 : String := "JointedShadows$Scenes"
def TX3 : u_T := fun k => match k with
  | 0 => ("JointedShadows$Scenes", "cast", "[I", true)
  | 1 => ("JointedShadows$Scenes", "size", "I", false)
  | _ => ("JointedShadows$Scenes", "leastAfter", "[I", true)
def tyX3 : Nat → FieldType := fun k => match k with
  | 0 => .array .int
  | 1 => .int
  | _ => .array .int
theorem nmX3 : ∀ a, a < 3 → ∀ b, b < 3 → a ≠ b → (TX3 a).2.1 ≠ (TX3 b).2.1 := by decide +kernel
theorem tyX3_ok : ∀ k, k < 3 → parseFieldDescriptor (TX3 k).2.2.1 = some (tyX3 k) := by decide +kernel
abbrev cX3_init : ByteArray := prog_5_method_1_code
def yX3_init : MethodName := ⟨RX3, "<init>", "()V"⟩
abbrev cX3_append : ByteArray := prog_5_method_2_code
def yX3_append : MethodName := ⟨RX3, "append", "(I)I"⟩
abbrev cX3_clear : ByteArray := prog_5_method_3_code
def yX3_clear : MethodName := ⟨RX3, "clear", "()V"⟩
abbrev cX3_leastCost : ByteArray := prog_5_method_4_code
def yX3_leastCost : MethodName := ⟨RX3, "leastCost", "()I"⟩
abbrev cX3_sceneAt : ByteArray := prog_5_method_5_code
def yX3_sceneAt : MethodName := ⟨RX3, "sceneAt", "(I)I"⟩
abbrev cX3_fillLeast : ByteArray := prog_5_method_6_code
def yX3_fillLeast : MethodName := ⟨RX3, "fillLeast", "()V"⟩
abbrev cX3_firstBestNext : ByteArray := prog_5_method_7_code
def yX3_firstBestNext : MethodName := ⟨RX3, "firstBestNext", "(II)I"⟩
abbrev cX3_costVia : ByteArray := prog_5_method_8_code
def yX3_costVia : MethodName := ⟨RX3, "costVia", "(III)I"⟩
abbrev cX3_least : ByteArray := prog_5_method_9_code
def yX3_least : MethodName := ⟨RX3, "least", "(II)I"⟩
abbrev cX3_allButFirst : ByteArray := prog_5_method_10_code
def yX3_allButFirst : MethodName := ⟨RX3, "allButFirst", "()I"⟩
abbrev cX3_isIn : ByteArray := prog_5_method_11_code
def yX3_isIn : MethodName := ⟨RX3, "isIn", "(II)Z"⟩
abbrev cX3_sceneBit : ByteArray := prog_5_method_12_code
def yX3_sceneBit : MethodName := ⟨RX3, "sceneBit", "(I)I"⟩
def RX4 : String := "JointedShadows$Script"
def TX4 : u_T := fun k => match k with
  | 0 => ("JointedShadows$Script", "moves", "[LJointedShadows$Move;", true)
  | _ => ("JointedShadows$Script", "size", "I", false)
def tyX4 : Nat → FieldType := fun k => match k with
  | 0 => .array (.object "JointedShadows$Move")
  | _ => .int
theorem nmX4 : ∀ a, a < 2 → ∀ b, b < 2 → a ≠ b → (TX4 a).2.1 ≠ (TX4 b).2.1 := by decide +kernel
theorem tyX4_ok : ∀ k, k < 2 → parseFieldDescriptor (TX4 k).2.2.1 = some (tyX4 k) := by decide +kernel
abbrev cX4_init : ByteArray := prog_6_method_1_code
def yX4_init : MethodName := ⟨RX4, "<init>", "()V"⟩
abbrev cX4_insert : ByteArray := prog_6_method_2_code
def yX4_insert : MethodName := ⟨RX4, "insert", "(LJointedShadows$Move;)I"⟩
abbrev cX4_isAfter : ByteArray := prog_6_method_3_code
def yX4_isAfter : MethodName := ⟨RX4, "isAfter", "(LJointedShadows$Move;I)Z"⟩
abbrev cX4_keepFirst : ByteArray := prog_6_method_4_code
def yX4_keepFirst : MethodName := ⟨RX4, "keepFirst", "(I)V"⟩
abbrev cX4_hasMoveIn : ByteArray := prog_6_method_5_code
def yX4_hasMoveIn : MethodName := ⟨RX4, "hasMoveIn", "(I)Z"⟩
abbrev cX4_rodsMoved : ByteArray := prog_6_method_6_code
def yX4_rodsMoved : MethodName := ⟨RX4, "rodsMoved", "(II)I"⟩
abbrev cX4_rodBit : ByteArray := prog_6_method_7_code
def yX4_rodBit : MethodName := ⟨RX4, "rodBit", "(I)I"⟩
def RX5 : String := "JointedShadows$Segment"
def TX5 : u_T := fun k => match k with
  | 0 => ("JointedShadows$Segment", "startX", "J", false)
  | 1 => ("JointedShadows$Segment", "startY", "J", false)
  | 2 => ("JointedShadows$Segment", "endX", "J", false)
  | _ => ("JointedShadows$Segment", "endY", "J", false)
def tyX5 : Nat → FieldType := fun k => match k with
  | 0 => .long
  | 1 => .long
  | 2 => .long
  | _ => .long
theorem nmX5 : ∀ a, a < 4 → ∀ b, b < 4 → a ≠ b → (TX5 a).2.1 ≠ (TX5 b).2.1 := by decide +kernel
theorem tyX5_ok : ∀ k, k < 4 → parseFieldDescriptor (TX5 k).2.2.1 = some (tyX5 k) := by decide +kernel
abbrev cX5_init : ByteArray := prog_7_method_1_code
def yX5_init : MethodName := ⟨RX5, "<init>", "()V"⟩
abbrev cX5_lay : ByteArray := prog_7_method_2_code
def yX5_lay : MethodName := ⟨RX5, "lay", "(LJointedShadows$Pose;III)V"⟩
abbrev cX5_meets : ByteArray := prog_7_method_3_code
def yX5_meets : MethodName := ⟨RX5, "meets", "(LJointedShadows$Segment;)Z"⟩
abbrev cX5_rangesMeet : ByteArray := prog_7_method_4_code
def yX5_rangesMeet : MethodName := ⟨RX5, "rangesMeet", "(JJJJ)Z"⟩
abbrev cX5_lineMeets : ByteArray := prog_7_method_5_code
def yX5_lineMeets : MethodName := ⟨RX5, "lineMeets", "(LJointedShadows$Segment;)Z"⟩
abbrev cX5_side : ByteArray := prog_7_method_6_code
def yX5_side : MethodName := ⟨RX5, "side", "(JJ)I"⟩
def RX6 : String := "JointedShadows"
def TX6 : u_T := fun k => match k with
  | 0 => ("JointedShadows", "screenDistance", "I", false)
  | 1 => ("JointedShadows", "figureCount", "I", false)
  | 2 => ("JointedShadows", "figures", "[LJointedShadows$Figure;", true)
  | 3 => ("JointedShadows", "script", "LJointedShadows$Script;", true)
  | 4 => ("JointedShadows", "scenes", "LJointedShadows$Scenes;", true)
  | 5 => ("JointedShadows", "firstPose", "LJointedShadows$Pose;", true)
  | 6 => ("JointedShadows", "secondPose", "LJointedShadows$Pose;", true)
  | 7 => ("JointedShadows", "firstSegment", "LJointedShadows$Segment;", true)
  | _ => ("JointedShadows", "secondSegment", "LJointedShadows$Segment;", true)
def tyX6 : Nat → FieldType := fun k => match k with
  | 0 => .int
  | 1 => .int
  | 2 => .array (.object "JointedShadows$Figure")
  | 3 => .object "JointedShadows$Script"
  | 4 => .object "JointedShadows$Scenes"
  | 5 => .object "JointedShadows$Pose"
  | 6 => .object "JointedShadows$Pose"
  | 7 => .object "JointedShadows$Segment"
  | _ => .object "JointedShadows$Segment"
theorem nmX6 : ∀ a, a < 9 → ∀ b, b < 9 → a ≠ b → (TX6 a).2.1 ≠ (TX6 b).2.1 := by decide +kernel
theorem tyX6_ok : ∀ k, k < 9 → parseFieldDescriptor (TX6 k).2.2.1 = some (tyX6 k) := by decide +kernel
abbrev cX6_init : ByteArray := prog_1_method_1_code
def yX6_init : MethodName := ⟨RX6, "<init>", "()V"⟩
abbrev cX6_setDistance : ByteArray := prog_1_method_2_code
def yX6_setDistance : MethodName := ⟨RX6, "setDistance", "(I)I"⟩
abbrev cX6_addFigure : ByteArray := prog_1_method_3_code
def yX6_addFigure : MethodName := ⟨RX6, "addFigure", "(III)I"⟩
abbrev cX6_addLimb : ByteArray := prog_1_method_4_code
def yX6_addLimb : MethodName := ⟨RX6, "addLimb", "(IIII)I"⟩
abbrev cX6_count : ByteArray := prog_1_method_5_code
def yX6_count : MethodName := ⟨RX6, "count", "(I)I"⟩
abbrev cX6_addTurn : ByteArray := prog_1_method_6_code
def yX6_addTurn : MethodName := ⟨RX6, "addTurn", "(IIII)I"⟩
abbrev cX6_addShift : ByteArray := prog_1_method_7_code
def yX6_addShift : MethodName := ⟨RX6, "addShift", "(IIIII)I"⟩
abbrev cX6_removeMoves : ByteArray := prog_1_method_8_code
def yX6_removeMoves : MethodName := ⟨RX6, "removeMoves", "(I)I"⟩
abbrev cX6_position : ByteArray := prog_1_method_9_code
def yX6_position : MethodName := ⟨RX6, "position", "(IIII)J"⟩
abbrev cX6_box : ByteArray := prog_1_method_10_code
def yX6_box : MethodName := ⟨RX6, "box", "(IIII)J"⟩
abbrev cX6_overlap : ByteArray := prog_1_method_11_code
def yX6_overlap : MethodName := ⟨RX6, "overlap", "(IIII)J"⟩
abbrev cX6_crossings : ByteArray := prog_1_method_12_code
def yX6_crossings : MethodName := ⟨RX6, "crossings", "(III)I"⟩
abbrev cX6_nextCrossing : ByteArray := prog_1_method_13_code
def yX6_nextCrossing : MethodName := ⟨RX6, "nextCrossing", "(III)I"⟩
abbrev cX6_within : ByteArray := prog_1_method_14_code
def yX6_within : MethodName := ⟨RX6, "within", "(III)I"⟩
abbrev cX6_highest : ByteArray := prog_1_method_15_code
def yX6_highest : MethodName := ⟨RX6, "highest", "(I)I"⟩
abbrev cX6_planeFor : ByteArray := prog_1_method_16_code
def yX6_planeFor : MethodName := ⟨RX6, "planeFor", "(III)I"⟩
abbrev cX6_hands : ByteArray := prog_1_method_17_code
def yX6_hands : MethodName := ⟨RX6, "hands", "(I)I"⟩
abbrev cX6_busiestBeat : ByteArray := prog_1_method_18_code
def yX6_busiestBeat : MethodName := ⟨RX6, "busiestBeat", "()I"⟩
abbrev cX6_activeRods : ByteArray := prog_1_method_19_code
def yX6_activeRods : MethodName := ⟨RX6, "activeRods", "(II)I"⟩
abbrev cX6_addScene : ByteArray := prog_1_method_20_code
def yX6_addScene : MethodName := ⟨RX6, "addScene", "(I)I"⟩
abbrev cX6_clearScenes : ByteArray := prog_1_method_21_code
def yX6_clearScenes : MethodName := ⟨RX6, "clearScenes", "()I"⟩
abbrev cX6_bestScene : ByteArray := prog_1_method_22_code
def yX6_bestScene : MethodName := ⟨RX6, "bestScene", "(I)I"⟩
abbrev cX6_bestCost : ByteArray := prog_1_method_23_code
def yX6_bestCost : MethodName := ⟨RX6, "bestCost", "()I"⟩
abbrev cX6_inRange : ByteArray := prog_1_method_24_code
def yX6_inRange : MethodName := ⟨RX6, "inRange", "(III)Z"⟩
abbrev cX6_isBeat : ByteArray := prog_1_method_25_code
def yX6_isBeat : MethodName := ⟨RX6, "isBeat", "(I)Z"⟩
abbrev cX6_figureAt : ByteArray := prog_1_method_26_code
def yX6_figureAt : MethodName := ⟨RX6, "figureAt", "(I)LJointedShadows$Figure;"⟩
abbrev cX6_limbsOfAll : ByteArray := prog_1_method_27_code
def yX6_limbsOfAll : MethodName := ⟨RX6, "limbsOfAll", "()I"⟩
abbrev cX6_handsOfAll : ByteArray := prog_1_method_28_code
def yX6_handsOfAll : MethodName := ⟨RX6, "handsOfAll", "(I)I"⟩
abbrev cX6_isHigher : ByteArray := prog_1_method_29_code
def yX6_isHigher : MethodName := ⟨RX6, "isHigher", "(LJointedShadows$Figure;LJointedShadows$Figure;I)Z"⟩
abbrev cX6_takePoses : ByteArray := prog_1_method_30_code
def yX6_takePoses : MethodName := ⟨RX6, "takePoses", "(LJointedShadows$Figure;LJointedShadows$Figure;I)V"⟩
abbrev cX6_crossingLimbs : ByteArray := prog_1_method_31_code
def yX6_crossingLimbs : MethodName := ⟨RX6, "crossingLimbs", "(LJointedShadows$Figure;LJointedShadows$Figure;I)I"⟩
abbrev cX6_partOfFraction : ByteArray := prog_1_method_32_code
def yX6_partOfFraction : MethodName := ⟨RX6, "partOfFraction", "(JJI)J"⟩
abbrev cX6_commonDivisor : ByteArray := prog_1_method_33_code
def yX6_commonDivisor : MethodName := ⟨RX6, "commonDivisor", "(JJ)J"⟩
def RX7 : String := "JointedShadowsModel"
def TX7 : u_T := fun k => match k with
  | 0 => ("JointedShadowsModel", "screen", "I", false)
  | 1 => ("JointedShadowsModel", "figures", "I", false)
  | 2 => ("JointedShadowsModel", "baseX", "[I", true)
  | 3 => ("JointedShadowsModel", "baseY", "[I", true)
  | 4 => ("JointedShadowsModel", "baseIn", "[I", true)
  | 5 => ("JointedShadowsModel", "limbs", "[I", true)
  | 6 => ("JointedShadowsModel", "parentOf", "[I", true)
  | 7 => ("JointedShadowsModel", "lengthOf", "[I", true)
  | 8 => ("JointedShadowsModel", "directionOf", "[I", true)
  | 9 => ("JointedShadowsModel", "moves", "I", false)
  | 10 => ("JointedShadowsModel", "beatOf", "[I", true)
  | 11 => ("JointedShadowsModel", "figureOf", "[I", true)
  | 12 => ("JointedShadowsModel", "limbOf", "[I", true)
  | 13 => ("JointedShadowsModel", "addX", "[I", true)
  | 14 => ("JointedShadowsModel", "addY", "[I", true)
  | 15 => ("JointedShadowsModel", "addIn", "[I", true)
  | 16 => ("JointedShadowsModel", "planeOf", "[I", true)
  | 17 => ("JointedShadowsModel", "turnOf", "[I", true)
  | 18 => ("JointedShadowsModel", "pointX", "[J", true)
  | 19 => ("JointedShadowsModel", "pointY", "[J", true)
  | 20 => ("JointedShadowsModel", "pointTurn", "[I", true)
  | 21 => ("JointedShadowsModel", "endX", "[J", true)
  | 22 => ("JointedShadowsModel", "endY", "[J", true)
  | 23 => ("JointedShadowsModel", "scenes", "I", false)
  | 24 => ("JointedShadowsModel", "sceneOf", "[I", true)
  | 25 => ("JointedShadowsModel", "orderNow", "[I", true)
  | _ => ("JointedShadowsModel", "orderBest", "[I", true)
def tyX7 : Nat → FieldType := fun k => match k with
  | 0 => .int
  | 1 => .int
  | 2 => .array .int
  | 3 => .array .int
  | 4 => .array .int
  | 5 => .array .int
  | 6 => .array .int
  | 7 => .array .int
  | 8 => .array .int
  | 9 => .int
  | 10 => .array .int
  | 11 => .array .int
  | 12 => .array .int
  | 13 => .array .int
  | 14 => .array .int
  | 15 => .array .int
  | 16 => .array .int
  | 17 => .array .int
  | 18 => .array .long
  | 19 => .array .long
  | 20 => .array .int
  | 21 => .array .long
  | 22 => .array .long
  | 23 => .int
  | 24 => .array .int
  | 25 => .array .int
  | _ => .array .int
theorem nmX7 : ∀ a, a < 27 → ∀ b, b < 27 → a ≠ b → (TX7 a).2.1 ≠ (TX7 b).2.1 := by decide +kernel
theorem tyX7_ok : ∀ k, k < 27 → parseFieldDescriptor (TX7 k).2.2.1 = some (tyX7 k) := by decide +kernel
abbrev cX7_init : ByteArray := prog_9_method_1_code
def yX7_init : MethodName := ⟨RX7, "<init>", "()V"⟩
abbrev cX7_in : ByteArray := prog_9_method_2_code
def yX7_in : MethodName := ⟨RX7, "in", "(III)Z"⟩
abbrev cX7_lost : ByteArray := prog_9_method_3_code
def yX7_lost : MethodName := ⟨RX7, "lost", "()J"⟩
abbrev cX7_least : ByteArray := prog_9_method_4_code
def yX7_least : MethodName := ⟨RX7, "least", "(JJ)J"⟩
abbrev cX7_most : ByteArray := prog_9_method_5_code
def yX7_most : MethodName := ⟨RX7, "most", "(JJ)J"⟩
abbrev cX7_noFigure : ByteArray := prog_9_method_6_code
def yX7_noFigure : MethodName := ⟨RX7, "noFigure", "(I)Z"⟩
abbrev cX7_noLimb : ByteArray := prog_9_method_7_code
def yX7_noLimb : MethodName := ⟨RX7, "noLimb", "(II)Z"⟩
abbrev cX7_isBeat : ByteArray := prog_9_method_8_code
def yX7_isBeat : MethodName := ⟨RX7, "isBeat", "(I)Z"⟩
abbrev cX7_setDistance : ByteArray := prog_9_method_9_code
def yX7_setDistance : MethodName := ⟨RX7, "setDistance", "(I)I"⟩
abbrev cX7_addFigure : ByteArray := prog_9_method_10_code
def yX7_addFigure : MethodName := ⟨RX7, "addFigure", "(III)I"⟩
abbrev cX7_addLimb : ByteArray := prog_9_method_11_code
def yX7_addLimb : MethodName := ⟨RX7, "addLimb", "(IIII)I"⟩
abbrev cX7_count : ByteArray := prog_9_method_12_code
def yX7_count : MethodName := ⟨RX7, "count", "(I)I"⟩
abbrev cX7_addMove : ByteArray := prog_9_method_13_code
def yX7_addMove : MethodName := ⟨RX7, "addMove", "(IIIIII)I"⟩
abbrev cX7_addTurn : ByteArray := prog_9_method_14_code
def yX7_addTurn : MethodName := ⟨RX7, "addTurn", "(IIII)I"⟩
abbrev cX7_addShift : ByteArray := prog_9_method_15_code
def yX7_addShift : MethodName := ⟨RX7, "addShift", "(IIIII)I"⟩
abbrev cX7_removeMoves : ByteArray := prog_9_method_16_code
def yX7_removeMoves : MethodName := ⟨RX7, "removeMoves", "(I)I"⟩
abbrev cX7_inStage : ByteArray := prog_9_method_17_code
def yX7_inStage : MethodName := ⟨RX7, "inStage", "(I)I"⟩
abbrev cX7_doMove : ByteArray := prog_9_method_18_code
def yX7_doMove : MethodName := ⟨RX7, "doMove", "(I)V"⟩
abbrev cX7_stepX : ByteArray := prog_9_method_19_code
def yX7_stepX : MethodName := ⟨RX7, "stepX", "(I)I"⟩
abbrev cX7_stepY : ByteArray := prog_9_method_20_code
def yX7_stepY : MethodName := ⟨RX7, "stepY", "(I)I"⟩
abbrev cX7_layPoints : ByteArray := prog_9_method_21_code
def yX7_layPoints : MethodName := ⟨RX7, "layPoints", "(I)V"⟩
abbrev cX7_goTo : ByteArray := prog_9_method_22_code
def yX7_goTo : MethodName := ⟨RX7, "goTo", "(I)V"⟩
abbrev cX7_position : ByteArray := prog_9_method_23_code
def yX7_position : MethodName := ⟨RX7, "position", "(IIII)J"⟩
abbrev cX7_common : ByteArray := prog_9_method_24_code
def yX7_common : MethodName := ⟨RX7, "common", "(JJ)J"⟩
abbrev cX7_partOf : ByteArray := prog_9_method_25_code
def yX7_partOf : MethodName := ⟨RX7, "partOf", "(JJI)J"⟩
abbrev cX7_reach : ByteArray := prog_9_method_26_code
def yX7_reach : MethodName := ⟨RX7, "reach", "(IZI)J"⟩
abbrev cX7_measure : ByteArray := prog_9_method_27_code
def yX7_measure : MethodName := ⟨RX7, "measure", "(II)J"⟩
abbrev cX7_box : ByteArray := prog_9_method_28_code
def yX7_box : MethodName := ⟨RX7, "box", "(IIII)J"⟩
abbrev cX7_along : ByteArray := prog_9_method_29_code
def yX7_along : MethodName := ⟨RX7, "along", "(IIII)J"⟩
abbrev cX7_overlap : ByteArray := prog_9_method_30_code
def yX7_overlap : MethodName := ⟨RX7, "overlap", "(IIII)J"⟩
abbrev cX7_side : ByteArray := prog_9_method_31_code
def yX7_side : MethodName := ⟨RX7, "side", "(JJJJJJ)I"⟩
abbrev cX7_isBetween : ByteArray := prog_9_method_32_code
def yX7_isBetween : MethodName := ⟨RX7, "isBetween", "(JJJ)Z"⟩
abbrev cX7_isOn : ByteArray := prog_9_method_33_code
def yX7_isOn : MethodName := ⟨RX7, "isOn", "(JJJJJJ)Z"⟩
abbrev cX7_layEnds : ByteArray := prog_9_method_34_code
def yX7_layEnds : MethodName := ⟨RX7, "layEnds", "(IIIJ)V"⟩
abbrev cX7_sideOf : ByteArray := prog_9_method_35_code
def yX7_sideOf : MethodName := ⟨RX7, "sideOf", "(II)I"⟩
abbrev cX7_isOnSegment : ByteArray := prog_9_method_36_code
def yX7_isOnSegment : MethodName := ⟨RX7, "isOnSegment", "(II)Z"⟩
abbrev cX7_doMeet : ByteArray := prog_9_method_37_code
def yX7_doMeet : MethodName := ⟨RX7, "doMeet", "()Z"⟩
abbrev cX7_crossingsNow : ByteArray := prog_9_method_38_code
def yX7_crossingsNow : MethodName := ⟨RX7, "crossingsNow", "(II)I"⟩
abbrev cX7_twoBarred : ByteArray := prog_9_method_39_code
def yX7_twoBarred : MethodName := ⟨RX7, "twoBarred", "(III)I"⟩
abbrev cX7_crossings : ByteArray := prog_9_method_40_code
def yX7_crossings : MethodName := ⟨RX7, "crossings", "(III)I"⟩
abbrev cX7_nextCrossing : ByteArray := prog_9_method_41_code
def yX7_nextCrossing : MethodName := ⟨RX7, "nextCrossing", "(III)I"⟩
abbrev cX7_isWithin : ByteArray := prog_9_method_42_code
def yX7_isWithin : MethodName := ⟨RX7, "isWithin", "(IJJ)Z"⟩
abbrev cX7_within : ByteArray := prog_9_method_43_code
def yX7_within : MethodName := ⟨RX7, "within", "(III)I"⟩
abbrev cX7_highest : ByteArray := prog_9_method_44_code
def yX7_highest : MethodName := ⟨RX7, "highest", "(I)I"⟩
abbrev cX7_planeFor : ByteArray := prog_9_method_45_code
def yX7_planeFor : MethodName := ⟨RX7, "planeFor", "(III)I"⟩
abbrev cX7_activeOf : ByteArray := prog_9_method_46_code
def yX7_activeOf : MethodName := ⟨RX7, "activeOf", "(II)I"⟩
abbrev cX7_bits : ByteArray := prog_9_method_47_code
def yX7_bits : MethodName := ⟨RX7, "bits", "(I)I"⟩
abbrev cX7_handsOf : ByteArray := prog_9_method_48_code
def yX7_handsOf : MethodName := ⟨RX7, "handsOf", "(II)I"⟩
abbrev cX7_handsIn : ByteArray := prog_9_method_49_code
def yX7_handsIn : MethodName := ⟨RX7, "handsIn", "(I)I"⟩
abbrev cX7_hands : ByteArray := prog_9_method_50_code
def yX7_hands : MethodName := ⟨RX7, "hands", "(I)I"⟩
abbrev cX7_busiestBeat : ByteArray := prog_9_method_51_code
def yX7_busiestBeat : MethodName := ⟨RX7, "busiestBeat", "()I"⟩
abbrev cX7_activeRods : ByteArray := prog_9_method_52_code
def yX7_activeRods : MethodName := ⟨RX7, "activeRods", "(II)I"⟩
abbrev cX7_addScene : ByteArray := prog_9_method_53_code
def yX7_addScene : MethodName := ⟨RX7, "addScene", "(I)I"⟩
abbrev cX7_clearScenes : ByteArray := prog_9_method_54_code
def yX7_clearScenes : MethodName := ⟨RX7, "clearScenes", "()I"⟩
abbrev cX7_costNow : ByteArray := prog_9_method_55_code
def yX7_costNow : MethodName := ⟨RX7, "costNow", "()I"⟩
abbrev cX7_exchange : ByteArray := prog_9_method_56_code
def yX7_exchange : MethodName := ⟨RX7, "exchange", "(II)V"⟩
abbrev cX7_nextOrder : ByteArray := prog_9_method_57_code
def yX7_nextOrder : MethodName := ⟨RX7, "nextOrder", "()Z"⟩
abbrev cX7_findOrder : ByteArray := prog_9_method_58_code
def yX7_findOrder : MethodName := ⟨RX7, "findOrder", "()I"⟩
abbrev cX7_bestScene : ByteArray := prog_9_method_59_code
def yX7_bestScene : MethodName := ⟨RX7, "bestScene", "(I)I"⟩
abbrev cX7_bestCost : ByteArray := prog_9_method_60_code
def yX7_bestCost : MethodName := ⟨RX7, "bestCost", "()I"⟩
def RJ6 : String := "java/lang/Integer"
def TJ6 : u_T := fun k => match k with
  | _ => ("", "", "", false)
def tyJ6 : Nat → FieldType := fun k => match k with
  | _ => .int
theorem nmJ6 : ∀ a, a < 0 → ∀ b, b < 0 → a ≠ b → (TJ6 a).2.1 ≠ (TJ6 b).2.1 := by decide +kernel
theorem tyJ6_ok : ∀ k, k < 0 → parseFieldDescriptor (TJ6 k).2.2.1 = some (tyJ6 k) := by decide +kernel
abbrev cJ6_bitCount_0f7a4 : ByteArray := prog_10_method_49_code
def yJ6_bitCount_0f7a4 : MethodName := ⟨RJ6, "bitCount", "(I)I"⟩
def RJ13 : String := "java/lang/Long"
def TJ13 : u_T := fun k => match k with
  | _ => ("", "", "", false)
def tyJ13 : Nat → FieldType := fun k => match k with
  | _ => .int
theorem nmJ13 : ∀ a, a < 0 → ∀ b, b < 0 → a ≠ b → (TJ13 a).2.1 ≠ (TJ13 b).2.1 := by decide +kernel
theorem tyJ13_ok : ∀ k, k < 0 → parseFieldDescriptor (TJ13 k).2.2.1 = some (tyJ13 k) := by decide +kernel
abbrev cJ13_compare_74951 : ByteArray := prog_11_method_42_code
def yJ13_compare_74951 : MethodName := ⟨RJ13, "compare", "(JJ)I"⟩
def RJ9 : String := "java/lang/Math"
def TJ9 : u_T := fun k => match k with
  | _ => ("", "", "", false)
def tyJ9 : Nat → FieldType := fun k => match k with
  | _ => .int
theorem nmJ9 : ∀ a, a < 0 → ∀ b, b < 0 → a ≠ b → (TJ9 a).2.1 ≠ (TJ9 b).2.1 := by decide +kernel
theorem tyJ9_ok : ∀ k, k < 0 → parseFieldDescriptor (TJ9 k).2.2.1 = some (tyJ9 k) := by decide +kernel
abbrev cJ9_floorMod_7cf53 : ByteArray := prog_12_method_50_code
def yJ9_floorMod_7cf53 : MethodName := ⟨RJ9, "floorMod", "(II)I"⟩
abbrev cJ9_abs_067f4 : ByteArray := prog_12_method_61_code
def yJ9_abs_067f4 : MethodName := ⟨RJ9, "abs", "(J)J"⟩
abbrev cJ9_max_7cf53 : ByteArray := prog_12_method_65_code
def yJ9_max_7cf53 : MethodName := ⟨RJ9, "max", "(II)I"⟩
abbrev cJ9_max_f86c9 : ByteArray := prog_12_method_66_code
def yJ9_max_f86c9 : MethodName := ⟨RJ9, "max", "(JJ)J"⟩
abbrev cJ9_min_7cf53 : ByteArray := prog_12_method_69_code
def yJ9_min_7cf53 : MethodName := ⟨RJ9, "min", "(II)I"⟩
abbrev cJ9_min_f86c9 : ByteArray := prog_12_method_70_code
def yJ9_min_f86c9 : MethodName := ⟨RJ9, "min", "(JJ)J"⟩
def RJ10 : String := "java/lang/System"
def TJ10 : u_T := fun k => match k with
  | _ => ("", "", "", false)
def tyJ10 : Nat → FieldType := fun k => match k with
  | _ => .int
theorem nmJ10 : ∀ a, a < 0 → ∀ b, b < 0 → a ≠ b → (TJ10 a).2.1 ≠ (TJ10 b).2.1 := by decide +kernel
theorem tyJ10_ok : ∀ k, k < 0 → parseFieldDescriptor (TJ10 k).2.2.1 = some (tyJ10 k) := by decide +kernel
def RL : String := "JointedShadowsLaw"
abbrev cL_law : ByteArray := code
def yL_law : MethodName := ⟨RL, "law", "([I)Z"⟩
abbrev vwCl : List vw_C := [(RX0, TX0, 8), (RX1, TX1, 8), (RX2, TX2, 9), (RX3, TX3, 3), (RX4, TX4, 2), (RX5, TX5, 4), (RX6, TX6, 9), (RX7, TX7, 27)]

def GT : List Cond := lw_tbl.filter goodWord
theorem gmem0 {c : Cond} (h : c ∈ k2_sels lw_privs) (hg : goodWord c = true) : c ∈ GT := List.mem_filter.mpr ⟨List.mem_append_left _ h, hg⟩
theorem gmem1 {c : Cond} (h : c ∈ tables_1_1) (hg : goodWord c = true) : c ∈ GT := List.mem_filter.mpr ⟨List.mem_append_right _ (List.mem_append_left _ h), hg⟩
theorem gmem2 {c : Cond} (h : c ∈ tables_1_2) (hg : goodWord c = true) : c ∈ GT := List.mem_filter.mpr ⟨List.mem_append_right _ (List.mem_append_right _ (List.mem_append_left _ h)), hg⟩
theorem gmem3 {c : Cond} (h : c ∈ tables_1_3) (hg : goodWord c = true) : c ∈ GT := List.mem_filter.mpr ⟨List.mem_append_right _ (List.mem_append_right _ (List.mem_append_right _ (List.mem_append_left _ h))), hg⟩
theorem gmem4 {c : Cond} (h : c ∈ tables_1_4) (hg : goodWord c = true) : c ∈ GT := List.mem_filter.mpr ⟨List.mem_append_right _ (List.mem_append_right _ (List.mem_append_right _ (List.mem_append_right _ h))), hg⟩
theorem gt_good {w : Cond} (h : w ∈ GT) : goodWord w = true := (List.mem_filter.mp h).2
theorem gt_tbl {w : Cond} (h : w ∈ GT) : w ∈ lw_tbl := (List.mem_filter.mp h).1
theorem gt_in : GoodIn GT GT := fun w h => ⟨h, good_of_word (gt_good h)⟩

theorem gs_0 : Cond.selects "JointedShadows" (⟨"JointedShadows", "figureAt", "(I)LJointedShadows$Figure;"⟩ : MethodName) (⟨"JointedShadows", "figureAt", "(I)LJointedShadows$Figure;"⟩ : MethodName) ∈ GT := gmem0 (List.mem_of_getElem? (i := 0) rfl) rfl
theorem gs_1 : Cond.selects "JointedShadows" (⟨"JointedShadows", "limbsOfAll", "()I"⟩ : MethodName) (⟨"JointedShadows", "limbsOfAll", "()I"⟩ : MethodName) ∈ GT := gmem0 (List.mem_of_getElem? (i := 1) rfl) rfl
theorem gs_2 : Cond.selects "JointedShadows$Pose" (⟨"JointedShadows$Pose", "stand", "(LJointedShadows$Figure;I)V"⟩ : MethodName) (⟨"JointedShadows$Pose", "stand", "(LJointedShadows$Figure;I)V"⟩ : MethodName) ∈ GT := gmem0 (List.mem_of_getElem? (i := 2) rfl) rfl
theorem gs_3 : Cond.selects "JointedShadows$Pose" (⟨"JointedShadows$Pose", "follow", "(LJointedShadows$Move;I)V"⟩ : MethodName) (⟨"JointedShadows$Pose", "follow", "(LJointedShadows$Move;I)V"⟩ : MethodName) ∈ GT := gmem0 (List.mem_of_getElem? (i := 3) rfl) rfl
theorem gs_4 : Cond.selects "JointedShadows$Pose" (⟨"JointedShadows$Pose", "layPoints", "(LJointedShadows$Figure;)V"⟩ : MethodName) (⟨"JointedShadows$Pose", "layPoints", "(LJointedShadows$Figure;)V"⟩ : MethodName) ∈ GT := gmem0 (List.mem_of_getElem? (i := 4) rfl) rfl
theorem gs_5 : Cond.selects "JointedShadows$Pose" (⟨"JointedShadows$Pose", "layBox", "(I)V"⟩ : MethodName) (⟨"JointedShadows$Pose", "layBox", "(I)V"⟩ : MethodName) ∈ GT := gmem0 (List.mem_of_getElem? (i := 5) rfl) rfl
theorem gs_6 : Cond.selects "JointedShadows" (⟨"JointedShadows", "takePoses", "(LJointedShadows$Figure;LJointedShadows$Figure;I)V"⟩ : MethodName) (⟨"JointedShadows", "takePoses", "(LJointedShadows$Figure;LJointedShadows$Figure;I)V"⟩ : MethodName) ∈ GT := gmem0 (List.mem_of_getElem? (i := 6) rfl) rfl
theorem gs_7 : Cond.selects "JointedShadows" (⟨"JointedShadows", "crossingLimbs", "(LJointedShadows$Figure;LJointedShadows$Figure;I)I"⟩ : MethodName) (⟨"JointedShadows", "crossingLimbs", "(LJointedShadows$Figure;LJointedShadows$Figure;I)I"⟩ : MethodName) ∈ GT := gmem0 (List.mem_of_getElem? (i := 7) rfl) rfl
theorem gs_8 : Cond.selects "JointedShadows$Segment" (⟨"JointedShadows$Segment", "lineMeets", "(LJointedShadows$Segment;)Z"⟩ : MethodName) (⟨"JointedShadows$Segment", "lineMeets", "(LJointedShadows$Segment;)Z"⟩ : MethodName) ∈ GT := gmem0 (List.mem_of_getElem? (i := 8) rfl) rfl
theorem gs_9 : Cond.selects "JointedShadows$Segment" (⟨"JointedShadows$Segment", "side", "(JJ)I"⟩ : MethodName) (⟨"JointedShadows$Segment", "side", "(JJ)I"⟩ : MethodName) ∈ GT := gmem0 (List.mem_of_getElem? (i := 9) rfl) rfl
theorem gs_10 : Cond.selects "JointedShadows" (⟨"JointedShadows", "isHigher", "(LJointedShadows$Figure;LJointedShadows$Figure;I)Z"⟩ : MethodName) (⟨"JointedShadows", "isHigher", "(LJointedShadows$Figure;LJointedShadows$Figure;I)Z"⟩ : MethodName) ∈ GT := gmem0 (List.mem_of_getElem? (i := 10) rfl) rfl
theorem gs_11 : Cond.selects "JointedShadows" (⟨"JointedShadows", "handsOfAll", "(I)I"⟩ : MethodName) (⟨"JointedShadows", "handsOfAll", "(I)I"⟩ : MethodName) ∈ GT := gmem0 (List.mem_of_getElem? (i := 11) rfl) rfl
theorem gs_12 : Cond.selects "JointedShadows$Scenes" (⟨"JointedShadows$Scenes", "fillLeast", "()V"⟩ : MethodName) (⟨"JointedShadows$Scenes", "fillLeast", "()V"⟩ : MethodName) ∈ GT := gmem0 (List.mem_of_getElem? (i := 12) rfl) rfl
theorem gs_13 : Cond.selects "JointedShadows$Scenes" (⟨"JointedShadows$Scenes", "allButFirst", "()I"⟩ : MethodName) (⟨"JointedShadows$Scenes", "allButFirst", "()I"⟩ : MethodName) ∈ GT := gmem0 (List.mem_of_getElem? (i := 13) rfl) rfl
theorem gs_14 : Cond.selects "JointedShadows$Scenes" (⟨"JointedShadows$Scenes", "firstBestNext", "(II)I"⟩ : MethodName) (⟨"JointedShadows$Scenes", "firstBestNext", "(II)I"⟩ : MethodName) ∈ GT := gmem0 (List.mem_of_getElem? (i := 14) rfl) rfl
theorem gs_15 : Cond.selects "JointedShadows$Scenes" (⟨"JointedShadows$Scenes", "costVia", "(III)I"⟩ : MethodName) (⟨"JointedShadows$Scenes", "costVia", "(III)I"⟩ : MethodName) ∈ GT := gmem0 (List.mem_of_getElem? (i := 15) rfl) rfl
theorem gs_16 : Cond.selects "JointedShadows$Scenes" (⟨"JointedShadows$Scenes", "least", "(II)I"⟩ : MethodName) (⟨"JointedShadows$Scenes", "least", "(II)I"⟩ : MethodName) ∈ GT := gmem0 (List.mem_of_getElem? (i := 16) rfl) rfl
theorem gs_17 : Cond.selects "JointedShadowsModel" (⟨"JointedShadowsModel", "noFigure", "(I)Z"⟩ : MethodName) (⟨"JointedShadowsModel", "noFigure", "(I)Z"⟩ : MethodName) ∈ GT := gmem0 (List.mem_of_getElem? (i := 17) rfl) rfl
theorem gs_18 : Cond.selects "JointedShadowsModel" (⟨"JointedShadowsModel", "noLimb", "(II)Z"⟩ : MethodName) (⟨"JointedShadowsModel", "noLimb", "(II)Z"⟩ : MethodName) ∈ GT := gmem0 (List.mem_of_getElem? (i := 18) rfl) rfl
theorem gs_19 : Cond.selects "JointedShadowsModel" (⟨"JointedShadowsModel", "addMove", "(IIIIII)I"⟩ : MethodName) (⟨"JointedShadowsModel", "addMove", "(IIIIII)I"⟩ : MethodName) ∈ GT := gmem0 (List.mem_of_getElem? (i := 19) rfl) rfl
theorem gs_20 : Cond.selects "JointedShadowsModel" (⟨"JointedShadowsModel", "goTo", "(I)V"⟩ : MethodName) (⟨"JointedShadowsModel", "goTo", "(I)V"⟩ : MethodName) ∈ GT := gmem0 (List.mem_of_getElem? (i := 20) rfl) rfl
theorem gs_21 : Cond.selects "JointedShadowsModel" (⟨"JointedShadowsModel", "inStage", "(I)I"⟩ : MethodName) (⟨"JointedShadowsModel", "inStage", "(I)I"⟩ : MethodName) ∈ GT := gmem0 (List.mem_of_getElem? (i := 21) rfl) rfl
theorem gs_22 : Cond.selects "JointedShadowsModel" (⟨"JointedShadowsModel", "doMove", "(I)V"⟩ : MethodName) (⟨"JointedShadowsModel", "doMove", "(I)V"⟩ : MethodName) ∈ GT := gmem0 (List.mem_of_getElem? (i := 22) rfl) rfl
theorem gs_23 : Cond.selects "JointedShadowsModel" (⟨"JointedShadowsModel", "layPoints", "(I)V"⟩ : MethodName) (⟨"JointedShadowsModel", "layPoints", "(I)V"⟩ : MethodName) ∈ GT := gmem0 (List.mem_of_getElem? (i := 23) rfl) rfl
theorem gs_24 : Cond.selects "JointedShadowsModel" (⟨"JointedShadowsModel", "measure", "(II)J"⟩ : MethodName) (⟨"JointedShadowsModel", "measure", "(II)J"⟩ : MethodName) ∈ GT := gmem0 (List.mem_of_getElem? (i := 24) rfl) rfl
theorem gs_25 : Cond.selects "JointedShadowsModel" (⟨"JointedShadowsModel", "reach", "(IZI)J"⟩ : MethodName) (⟨"JointedShadowsModel", "reach", "(IZI)J"⟩ : MethodName) ∈ GT := gmem0 (List.mem_of_getElem? (i := 25) rfl) rfl
theorem gs_26 : Cond.selects "JointedShadowsModel" (⟨"JointedShadowsModel", "along", "(IIII)J"⟩ : MethodName) (⟨"JointedShadowsModel", "along", "(IIII)J"⟩ : MethodName) ∈ GT := gmem0 (List.mem_of_getElem? (i := 26) rfl) rfl
theorem gs_27 : Cond.selects "JointedShadowsModel" (⟨"JointedShadowsModel", "twoBarred", "(III)I"⟩ : MethodName) (⟨"JointedShadowsModel", "twoBarred", "(III)I"⟩ : MethodName) ∈ GT := gmem0 (List.mem_of_getElem? (i := 27) rfl) rfl
theorem gs_28 : Cond.selects "JointedShadowsModel" (⟨"JointedShadowsModel", "crossingsNow", "(II)I"⟩ : MethodName) (⟨"JointedShadowsModel", "crossingsNow", "(II)I"⟩ : MethodName) ∈ GT := gmem0 (List.mem_of_getElem? (i := 28) rfl) rfl
theorem gs_29 : Cond.selects "JointedShadowsModel" (⟨"JointedShadowsModel", "layEnds", "(IIIJ)V"⟩ : MethodName) (⟨"JointedShadowsModel", "layEnds", "(IIIJ)V"⟩ : MethodName) ∈ GT := gmem0 (List.mem_of_getElem? (i := 29) rfl) rfl
theorem gs_30 : Cond.selects "JointedShadowsModel" (⟨"JointedShadowsModel", "doMeet", "()Z"⟩ : MethodName) (⟨"JointedShadowsModel", "doMeet", "()Z"⟩ : MethodName) ∈ GT := gmem0 (List.mem_of_getElem? (i := 30) rfl) rfl
theorem gs_31 : Cond.selects "JointedShadowsModel" (⟨"JointedShadowsModel", "isOnSegment", "(II)Z"⟩ : MethodName) (⟨"JointedShadowsModel", "isOnSegment", "(II)Z"⟩ : MethodName) ∈ GT := gmem0 (List.mem_of_getElem? (i := 31) rfl) rfl
theorem gs_32 : Cond.selects "JointedShadowsModel" (⟨"JointedShadowsModel", "sideOf", "(II)I"⟩ : MethodName) (⟨"JointedShadowsModel", "sideOf", "(II)I"⟩ : MethodName) ∈ GT := gmem0 (List.mem_of_getElem? (i := 32) rfl) rfl
theorem gs_33 : Cond.selects "JointedShadowsModel" (⟨"JointedShadowsModel", "isWithin", "(IJJ)Z"⟩ : MethodName) (⟨"JointedShadowsModel", "isWithin", "(IJJ)Z"⟩ : MethodName) ∈ GT := gmem0 (List.mem_of_getElem? (i := 33) rfl) rfl
theorem gs_34 : Cond.selects "JointedShadowsModel" (⟨"JointedShadowsModel", "handsIn", "(I)I"⟩ : MethodName) (⟨"JointedShadowsModel", "handsIn", "(I)I"⟩ : MethodName) ∈ GT := gmem0 (List.mem_of_getElem? (i := 34) rfl) rfl
theorem gs_35 : Cond.selects "JointedShadowsModel" (⟨"JointedShadowsModel", "handsOf", "(II)I"⟩ : MethodName) (⟨"JointedShadowsModel", "handsOf", "(II)I"⟩ : MethodName) ∈ GT := gmem0 (List.mem_of_getElem? (i := 35) rfl) rfl
theorem gs_36 : Cond.selects "JointedShadowsModel" (⟨"JointedShadowsModel", "activeOf", "(II)I"⟩ : MethodName) (⟨"JointedShadowsModel", "activeOf", "(II)I"⟩ : MethodName) ∈ GT := gmem0 (List.mem_of_getElem? (i := 36) rfl) rfl
theorem gs_37 : Cond.selects "JointedShadowsModel" (⟨"JointedShadowsModel", "findOrder", "()I"⟩ : MethodName) (⟨"JointedShadowsModel", "findOrder", "()I"⟩ : MethodName) ∈ GT := gmem0 (List.mem_of_getElem? (i := 37) rfl) rfl
theorem gs_38 : Cond.selects "JointedShadowsModel" (⟨"JointedShadowsModel", "costNow", "()I"⟩ : MethodName) (⟨"JointedShadowsModel", "costNow", "()I"⟩ : MethodName) ∈ GT := gmem0 (List.mem_of_getElem? (i := 38) rfl) rfl
theorem gs_39 : Cond.selects "JointedShadowsModel" (⟨"JointedShadowsModel", "nextOrder", "()Z"⟩ : MethodName) (⟨"JointedShadowsModel", "nextOrder", "()Z"⟩ : MethodName) ∈ GT := gmem0 (List.mem_of_getElem? (i := 39) rfl) rfl
theorem gs_40 : Cond.selects "JointedShadowsModel" (⟨"JointedShadowsModel", "exchange", "(II)V"⟩ : MethodName) (⟨"JointedShadowsModel", "exchange", "(II)V"⟩ : MethodName) ∈ GT := gmem0 (List.mem_of_getElem? (i := 40) rfl) rfl
theorem g1_0 : (Jvm.Cond.initialized "JointedShadowsLaw") ∈ GT := gmem1 (List.mem_of_getElem? (i := 0) rfl) rfl
theorem g1_1 : (Jvm.Cond.initialized "JointedShadows") ∈ GT := gmem1 (List.mem_of_getElem? (i := 1) rfl) rfl
theorem g1_2 : (Jvm.Cond.initialized "JointedShadows$Script") ∈ GT := gmem1 (List.mem_of_getElem? (i := 2) rfl) rfl
theorem g1_3 : (Jvm.Cond.initialized "JointedShadows$Scenes") ∈ GT := gmem1 (List.mem_of_getElem? (i := 3) rfl) rfl
theorem g1_4 : (Jvm.Cond.initialized "JointedShadows$Pose") ∈ GT := gmem1 (List.mem_of_getElem? (i := 4) rfl) rfl
theorem g1_5 : (Jvm.Cond.initialized "JointedShadows$Segment") ∈ GT := gmem1 (List.mem_of_getElem? (i := 5) rfl) rfl
theorem g1_6 : (Jvm.Cond.initialized "JointedShadowsModel") ∈ GT := gmem1 (List.mem_of_getElem? (i := 6) rfl) rfl
theorem g1_7 : (Jvm.Cond.initialized "JointedShadows$Figure") ∈ GT := gmem1 (List.mem_of_getElem? (i := 7) rfl) rfl
theorem g1_8 : (Jvm.Cond.initialized "JointedShadows$Move") ∈ GT := gmem1 (List.mem_of_getElem? (i := 8) rfl) rfl
theorem g1_9 : (Jvm.Cond.initialized "java/lang/Math") ∈ GT := gmem1 (List.mem_of_getElem? (i := 9) rfl) rfl
theorem g1_10 : (Jvm.Cond.initialized "java/lang/System") ∈ GT := gmem1 (List.mem_of_getElem? (i := 10) rfl) rfl
theorem g1_11 : (Jvm.Cond.initialized "java/lang/Long") ∈ GT := gmem1 (List.mem_of_getElem? (i := 11) rfl) rfl
theorem g1_12 : (Jvm.Cond.initialized "java/lang/Integer") ∈ GT := gmem1 (List.mem_of_getElem? (i := 12) rfl) rfl
theorem g1_13 : (Jvm.Cond.classLink "JointedShadowsLaw" (7 : Nat) "JointedShadows") ∈ GT := gmem1 (List.mem_of_getElem? (i := 13) rfl) rfl
theorem g1_14 : (Jvm.Cond.instantiable "JointedShadows" (9 : Nat)) ∈ GT := gmem1 (List.mem_of_getElem? (i := 14) rfl) rfl
theorem g1_15 : (Jvm.Cond.methodLink "JointedShadowsLaw" (9 : Nat) ({ cls := "JointedShadows", name := "<init>", desc := "()V" } : Jvm.MethodName)) ∈ GT := gmem1 (List.mem_of_getElem? (i := 15) rfl) rfl
theorem g1_16 : (Jvm.Cond.instanceMethod ({ cls := "JointedShadows", name := "<init>", desc := "()V" } : Jvm.MethodName)) ∈ GT := gmem1 (List.mem_of_getElem? (i := 16) rfl) rfl
theorem g1_17 : (Jvm.Cond.code ({ cls := "JointedShadows", name := "<init>", desc := "()V" } : Jvm.MethodName) prog_1_method_1_code (1 : Nat) (Option.none : Option Jvm.ClassFile.FieldType)) ∈ GT := gmem1 (List.mem_of_getElem? (i := 17) rfl) rfl
theorem g1_18 : (Jvm.Cond.methodLink "JointedShadows" (3 : Nat) ({ cls := "java/lang/Object", name := "<init>", desc := "()V" } : Jvm.MethodName)) ∈ GT := gmem1 (List.mem_of_getElem? (i := 18) rfl) rfl
theorem g1_19 : (Jvm.Cond.instanceMethod ({ cls := "java/lang/Object", name := "<init>", desc := "()V" } : Jvm.MethodName)) ∈ GT := gmem1 (List.mem_of_getElem? (i := 19) rfl) rfl
theorem g1_20 : (Jvm.Cond.code ({ cls := "java/lang/Object", name := "<init>", desc := "()V" } : Jvm.MethodName) object_method_1_code (1 : Nat) (Option.none : Option Jvm.ClassFile.FieldType)) ∈ GT := gmem1 (List.mem_of_getElem? (i := 20) rfl) rfl
theorem g1_21 : (Jvm.Cond.classLink "JointedShadows" (18 : Nat) "JointedShadows$Figure") ∈ GT := gmem1 (List.mem_of_getElem? (i := 21) rfl) rfl
theorem g1_23 : (Jvm.Cond.classLink "JointedShadows" (24 : Nat) "JointedShadows$Script") ∈ GT := gmem1 (List.mem_of_getElem? (i := 23) rfl) rfl
theorem g1_24 : (Jvm.Cond.instantiable "JointedShadows$Script" (2 : Nat)) ∈ GT := gmem1 (List.mem_of_getElem? (i := 24) rfl) rfl
theorem g1_26 : (Jvm.Cond.instanceMethod ({ cls := "JointedShadows$Script", name := "<init>", desc := "()V" } : Jvm.MethodName)) ∈ GT := gmem1 (List.mem_of_getElem? (i := 26) rfl) rfl
theorem g1_27 : (Jvm.Cond.code ({ cls := "JointedShadows$Script", name := "<init>", desc := "()V" } : Jvm.MethodName) prog_6_method_1_code (1 : Nat) (Option.none : Option Jvm.ClassFile.FieldType)) ∈ GT := gmem1 (List.mem_of_getElem? (i := 27) rfl) rfl
theorem g1_28 : (Jvm.Cond.methodLink "JointedShadows$Script" (3 : Nat) ({ cls := "java/lang/Object", name := "<init>", desc := "()V" } : Jvm.MethodName)) ∈ GT := gmem1 (List.mem_of_getElem? (i := 28) rfl) rfl
theorem g1_29 : (Jvm.Cond.classLink "JointedShadows$Script" (9 : Nat) "JointedShadows$Move") ∈ GT := gmem1 (List.mem_of_getElem? (i := 29) rfl) rfl
theorem g1_31 : (Jvm.Cond.fieldLink "JointedShadows$Script" (11 : Nat) "JointedShadows$Script" "moves" "[LJointedShadows$Move;") ∈ GT := gmem1 (List.mem_of_getElem? (i := 31) rfl) rfl
theorem g1_32 : (Jvm.Cond.fieldLink "JointedShadows$Pose" (44 : Nat) "JointedShadows$Script" "moves" "[LJointedShadows$Move;") ∈ GT := gmem1 (List.mem_of_getElem? (i := 32) rfl) rfl
theorem g1_33 : (Jvm.Cond.fieldLink "JointedShadows$Script" (17 : Nat) "JointedShadows$Script" "size" "I") ∈ GT := gmem1 (List.mem_of_getElem? (i := 33) rfl) rfl
theorem g1_34 : (Jvm.Cond.fieldLink "JointedShadows" (77 : Nat) "JointedShadows$Script" "size" "I") ∈ GT := gmem1 (List.mem_of_getElem? (i := 34) rfl) rfl
theorem g1_35 : (Jvm.Cond.laysFinal "JointedShadows$Script" "JointedShadows$Script" "moves" "[LJointedShadows$Move;") ∈ GT := gmem1 (List.mem_of_getElem? (i := 35) rfl) rfl
theorem g1_36 : (Jvm.Cond.soleField "JointedShadows$Script" "moves") ∈ GT := gmem1 (List.mem_of_getElem? (i := 36) rfl) rfl
theorem g1_37 : (Jvm.Cond.lays "JointedShadows$Script" "JointedShadows$Script" "size" "I") ∈ GT := gmem1 (List.mem_of_getElem? (i := 37) rfl) rfl
theorem g1_38 : (Jvm.Cond.soleField "JointedShadows$Script" "size") ∈ GT := gmem1 (List.mem_of_getElem? (i := 38) rfl) rfl
theorem g1_39 : (Jvm.Cond.superclass "JointedShadows$Script" "java/lang/Object") ∈ GT := gmem1 (List.mem_of_getElem? (i := 39) rfl) rfl
theorem g1_40 : (Jvm.Cond.classLink "JointedShadows" (31 : Nat) "JointedShadows$Scenes") ∈ GT := gmem1 (List.mem_of_getElem? (i := 40) rfl) rfl
theorem g1_41 : (Jvm.Cond.instantiable "JointedShadows$Scenes" (3 : Nat)) ∈ GT := gmem1 (List.mem_of_getElem? (i := 41) rfl) rfl
theorem g1_43 : (Jvm.Cond.instanceMethod ({ cls := "JointedShadows$Scenes", name := "<init>", desc := "()V" } : Jvm.MethodName)) ∈ GT := gmem1 (List.mem_of_getElem? (i := 43) rfl) rfl
theorem g1_44 : (Jvm.Cond.code ({ cls := "JointedShadows$Scenes", name := "<init>", desc := "()V" } : Jvm.MethodName) prog_5_method_1_code (1 : Nat) (Option.none : Option Jvm.ClassFile.FieldType)) ∈ GT := gmem1 (List.mem_of_getElem? (i := 44) rfl) rfl
theorem g1_45 : (Jvm.Cond.methodLink "JointedShadows$Scenes" (3 : Nat) ({ cls := "java/lang/Object", name := "<init>", desc := "()V" } : Jvm.MethodName)) ∈ GT := gmem1 (List.mem_of_getElem? (i := 45) rfl) rfl
theorem g1_46 : (Jvm.Cond.fieldLink "JointedShadows$Scenes" (9 : Nat) "JointedShadows$Scenes" "cast" "[I") ∈ GT := gmem1 (List.mem_of_getElem? (i := 46) rfl) rfl
theorem g1_47 : (Jvm.Cond.fieldLink "JointedShadows$Scenes" (15 : Nat) "JointedShadows$Scenes" "size" "I") ∈ GT := gmem1 (List.mem_of_getElem? (i := 47) rfl) rfl
theorem g1_48 : (Jvm.Cond.fieldLink "JointedShadows" (80 : Nat) "JointedShadows$Scenes" "size" "I") ∈ GT := gmem1 (List.mem_of_getElem? (i := 48) rfl) rfl
theorem g1_49 : (Jvm.Cond.fieldLink "JointedShadows$Scenes" (19 : Nat) "JointedShadows$Scenes" "leastAfter" "[I") ∈ GT := gmem1 (List.mem_of_getElem? (i := 49) rfl) rfl
theorem g1_50 : (Jvm.Cond.laysFinal "JointedShadows$Scenes" "JointedShadows$Scenes" "cast" "[I") ∈ GT := gmem1 (List.mem_of_getElem? (i := 50) rfl) rfl
theorem g1_51 : (Jvm.Cond.soleField "JointedShadows$Scenes" "cast") ∈ GT := gmem1 (List.mem_of_getElem? (i := 51) rfl) rfl
theorem g1_52 : (Jvm.Cond.lays "JointedShadows$Scenes" "JointedShadows$Scenes" "size" "I") ∈ GT := gmem1 (List.mem_of_getElem? (i := 52) rfl) rfl
theorem g1_53 : (Jvm.Cond.soleField "JointedShadows$Scenes" "size") ∈ GT := gmem1 (List.mem_of_getElem? (i := 53) rfl) rfl
theorem g1_54 : (Jvm.Cond.laysFinal "JointedShadows$Scenes" "JointedShadows$Scenes" "leastAfter" "[I") ∈ GT := gmem1 (List.mem_of_getElem? (i := 54) rfl) rfl
theorem g1_55 : (Jvm.Cond.soleField "JointedShadows$Scenes" "leastAfter") ∈ GT := gmem1 (List.mem_of_getElem? (i := 55) rfl) rfl
theorem g1_56 : (Jvm.Cond.superclass "JointedShadows$Scenes" "java/lang/Object") ∈ GT := gmem1 (List.mem_of_getElem? (i := 56) rfl) rfl
theorem g1_57 : (Jvm.Cond.arrayClass Jvm.ClassFile.FieldType.int) ∈ GT := gmem1 (List.mem_of_getElem? (i := 57) rfl) rfl
theorem g1_58 : (Jvm.Cond.classLink "JointedShadows" (38 : Nat) "JointedShadows$Pose") ∈ GT := gmem1 (List.mem_of_getElem? (i := 58) rfl) rfl
theorem g1_59 : (Jvm.Cond.instantiable "JointedShadows$Pose" (9 : Nat)) ∈ GT := gmem1 (List.mem_of_getElem? (i := 59) rfl) rfl
theorem g1_61 : (Jvm.Cond.instanceMethod ({ cls := "JointedShadows$Pose", name := "<init>", desc := "()V" } : Jvm.MethodName)) ∈ GT := gmem1 (List.mem_of_getElem? (i := 61) rfl) rfl
theorem g1_62 : (Jvm.Cond.code ({ cls := "JointedShadows$Pose", name := "<init>", desc := "()V" } : Jvm.MethodName) prog_4_method_1_code (1 : Nat) (Option.none : Option Jvm.ClassFile.FieldType)) ∈ GT := gmem1 (List.mem_of_getElem? (i := 62) rfl) rfl
theorem g1_63 : (Jvm.Cond.methodLink "JointedShadows$Pose" (3 : Nat) ({ cls := "java/lang/Object", name := "<init>", desc := "()V" } : Jvm.MethodName)) ∈ GT := gmem1 (List.mem_of_getElem? (i := 63) rfl) rfl
theorem g1_64 : (Jvm.Cond.fieldLink "JointedShadows$Pose" (9 : Nat) "JointedShadows$Pose" "direction" "[I") ∈ GT := gmem1 (List.mem_of_getElem? (i := 64) rfl) rfl
theorem g1_65 : (Jvm.Cond.fieldLink "JointedShadows$Pose" (15 : Nat) "JointedShadows$Pose" "x" "[I") ∈ GT := gmem1 (List.mem_of_getElem? (i := 65) rfl) rfl
theorem g1_66 : (Jvm.Cond.fieldLink "JointedShadows$Segment" (22 : Nat) "JointedShadows$Pose" "x" "[I") ∈ GT := gmem1 (List.mem_of_getElem? (i := 66) rfl) rfl
theorem g1_67 : (Jvm.Cond.fieldLink "JointedShadows" (120 : Nat) "JointedShadows$Pose" "x" "[I") ∈ GT := gmem1 (List.mem_of_getElem? (i := 67) rfl) rfl
theorem g1_68 : (Jvm.Cond.fieldLink "JointedShadows$Pose" (18 : Nat) "JointedShadows$Pose" "y" "[I") ∈ GT := gmem1 (List.mem_of_getElem? (i := 68) rfl) rfl
theorem g1_69 : (Jvm.Cond.fieldLink "JointedShadows$Segment" (28 : Nat) "JointedShadows$Pose" "y" "[I") ∈ GT := gmem1 (List.mem_of_getElem? (i := 69) rfl) rfl
theorem g1_70 : (Jvm.Cond.fieldLink "JointedShadows" (124 : Nat) "JointedShadows$Pose" "y" "[I") ∈ GT := gmem1 (List.mem_of_getElem? (i := 70) rfl) rfl
theorem g1_71 : (Jvm.Cond.fieldLink "JointedShadows$Pose" (21 : Nat) "JointedShadows$Pose" "total" "[I") ∈ GT := gmem1 (List.mem_of_getElem? (i := 71) rfl) rfl
theorem g1_72 : (Jvm.Cond.fieldLink "JointedShadows" (127 : Nat) "JointedShadows$Pose" "total" "[I") ∈ GT := gmem1 (List.mem_of_getElem? (i := 72) rfl) rfl
theorem g1_73 : (Jvm.Cond.fieldLink "JointedShadows$Pose" (24 : Nat) "JointedShadows$Pose" "plane" "I") ∈ GT := gmem1 (List.mem_of_getElem? (i := 73) rfl) rfl
theorem g1_74 : (Jvm.Cond.fieldLink "JointedShadows" (130 : Nat) "JointedShadows$Pose" "plane" "I") ∈ GT := gmem1 (List.mem_of_getElem? (i := 74) rfl) rfl
theorem g1_75 : (Jvm.Cond.fieldLink "JointedShadows$Pose" (28 : Nat) "JointedShadows$Pose" "left" "I") ∈ GT := gmem1 (List.mem_of_getElem? (i := 75) rfl) rfl
theorem g1_76 : (Jvm.Cond.fieldLink "JointedShadows" (154 : Nat) "JointedShadows$Pose" "left" "I") ∈ GT := gmem1 (List.mem_of_getElem? (i := 76) rfl) rfl
theorem g1_77 : (Jvm.Cond.fieldLink "JointedShadows$Pose" (31 : Nat) "JointedShadows$Pose" "right" "I") ∈ GT := gmem1 (List.mem_of_getElem? (i := 77) rfl) rfl
theorem g1_78 : (Jvm.Cond.fieldLink "JointedShadows" (145 : Nat) "JointedShadows$Pose" "right" "I") ∈ GT := gmem1 (List.mem_of_getElem? (i := 78) rfl) rfl
theorem g1_79 : (Jvm.Cond.fieldLink "JointedShadows$Pose" (34 : Nat) "JointedShadows$Pose" "bottom" "I") ∈ GT := gmem1 (List.mem_of_getElem? (i := 79) rfl) rfl
theorem g1_80 : (Jvm.Cond.fieldLink "JointedShadows" (163 : Nat) "JointedShadows$Pose" "bottom" "I") ∈ GT := gmem1 (List.mem_of_getElem? (i := 80) rfl) rfl
theorem g1_81 : (Jvm.Cond.fieldLink "JointedShadows$Pose" (37 : Nat) "JointedShadows$Pose" "top" "I") ∈ GT := gmem1 (List.mem_of_getElem? (i := 81) rfl) rfl
theorem g1_82 : (Jvm.Cond.fieldLink "JointedShadows" (160 : Nat) "JointedShadows$Pose" "top" "I") ∈ GT := gmem1 (List.mem_of_getElem? (i := 82) rfl) rfl
theorem g1_83 : (Jvm.Cond.laysFinal "JointedShadows$Pose" "JointedShadows$Pose" "direction" "[I") ∈ GT := gmem1 (List.mem_of_getElem? (i := 83) rfl) rfl
theorem g1_84 : (Jvm.Cond.soleField "JointedShadows$Pose" "direction") ∈ GT := gmem1 (List.mem_of_getElem? (i := 84) rfl) rfl
theorem g1_85 : (Jvm.Cond.laysFinal "JointedShadows$Pose" "JointedShadows$Pose" "x" "[I") ∈ GT := gmem1 (List.mem_of_getElem? (i := 85) rfl) rfl
theorem g1_86 : (Jvm.Cond.soleField "JointedShadows$Pose" "x") ∈ GT := gmem1 (List.mem_of_getElem? (i := 86) rfl) rfl
theorem g1_87 : (Jvm.Cond.laysFinal "JointedShadows$Pose" "JointedShadows$Pose" "y" "[I") ∈ GT := gmem1 (List.mem_of_getElem? (i := 87) rfl) rfl
theorem g1_88 : (Jvm.Cond.soleField "JointedShadows$Pose" "y") ∈ GT := gmem1 (List.mem_of_getElem? (i := 88) rfl) rfl
theorem g1_89 : (Jvm.Cond.laysFinal "JointedShadows$Pose" "JointedShadows$Pose" "total" "[I") ∈ GT := gmem1 (List.mem_of_getElem? (i := 89) rfl) rfl
theorem g1_90 : (Jvm.Cond.soleField "JointedShadows$Pose" "total") ∈ GT := gmem1 (List.mem_of_getElem? (i := 90) rfl) rfl
theorem g1_91 : (Jvm.Cond.lays "JointedShadows$Pose" "JointedShadows$Pose" "plane" "I") ∈ GT := gmem1 (List.mem_of_getElem? (i := 91) rfl) rfl
theorem g1_92 : (Jvm.Cond.soleField "JointedShadows$Pose" "plane") ∈ GT := gmem1 (List.mem_of_getElem? (i := 92) rfl) rfl
theorem g1_93 : (Jvm.Cond.lays "JointedShadows$Pose" "JointedShadows$Pose" "left" "I") ∈ GT := gmem1 (List.mem_of_getElem? (i := 93) rfl) rfl
theorem g1_94 : (Jvm.Cond.soleField "JointedShadows$Pose" "left") ∈ GT := gmem1 (List.mem_of_getElem? (i := 94) rfl) rfl
theorem g1_95 : (Jvm.Cond.lays "JointedShadows$Pose" "JointedShadows$Pose" "right" "I") ∈ GT := gmem1 (List.mem_of_getElem? (i := 95) rfl) rfl
theorem g1_96 : (Jvm.Cond.soleField "JointedShadows$Pose" "right") ∈ GT := gmem1 (List.mem_of_getElem? (i := 96) rfl) rfl
theorem g1_97 : (Jvm.Cond.lays "JointedShadows$Pose" "JointedShadows$Pose" "bottom" "I") ∈ GT := gmem1 (List.mem_of_getElem? (i := 97) rfl) rfl
theorem g1_98 : (Jvm.Cond.soleField "JointedShadows$Pose" "bottom") ∈ GT := gmem1 (List.mem_of_getElem? (i := 98) rfl) rfl
theorem g1_99 : (Jvm.Cond.lays "JointedShadows$Pose" "JointedShadows$Pose" "top" "I") ∈ GT := gmem1 (List.mem_of_getElem? (i := 99) rfl) rfl
theorem g1_100 : (Jvm.Cond.soleField "JointedShadows$Pose" "top") ∈ GT := gmem1 (List.mem_of_getElem? (i := 100) rfl) rfl
theorem g1_101 : (Jvm.Cond.superclass "JointedShadows$Pose" "java/lang/Object") ∈ GT := gmem1 (List.mem_of_getElem? (i := 101) rfl) rfl
theorem g1_102 : (Jvm.Cond.classLink "JointedShadows" (48 : Nat) "JointedShadows$Segment") ∈ GT := gmem1 (List.mem_of_getElem? (i := 102) rfl) rfl
theorem g1_103 : (Jvm.Cond.instantiable "JointedShadows$Segment" (4 : Nat)) ∈ GT := gmem1 (List.mem_of_getElem? (i := 103) rfl) rfl
theorem g1_105 : (Jvm.Cond.instanceMethod ({ cls := "JointedShadows$Segment", name := "<init>", desc := "()V" } : Jvm.MethodName)) ∈ GT := gmem1 (List.mem_of_getElem? (i := 105) rfl) rfl
theorem g1_106 : (Jvm.Cond.code ({ cls := "JointedShadows$Segment", name := "<init>", desc := "()V" } : Jvm.MethodName) prog_7_method_1_code (1 : Nat) (Option.none : Option Jvm.ClassFile.FieldType)) ∈ GT := gmem1 (List.mem_of_getElem? (i := 106) rfl) rfl
theorem g1_107 : (Jvm.Cond.methodLink "JointedShadows$Segment" (1 : Nat) ({ cls := "java/lang/Object", name := "<init>", desc := "()V" } : Jvm.MethodName)) ∈ GT := gmem1 (List.mem_of_getElem? (i := 107) rfl) rfl
theorem g1_108 : (Jvm.Cond.fieldLink "JointedShadows$Segment" (7 : Nat) "JointedShadows$Segment" "startX" "J") ∈ GT := gmem1 (List.mem_of_getElem? (i := 108) rfl) rfl
theorem g1_109 : (Jvm.Cond.fieldLink "JointedShadows$Segment" (13 : Nat) "JointedShadows$Segment" "startY" "J") ∈ GT := gmem1 (List.mem_of_getElem? (i := 109) rfl) rfl
theorem g1_110 : (Jvm.Cond.fieldLink "JointedShadows$Segment" (16 : Nat) "JointedShadows$Segment" "endX" "J") ∈ GT := gmem1 (List.mem_of_getElem? (i := 110) rfl) rfl
theorem g1_111 : (Jvm.Cond.fieldLink "JointedShadows$Segment" (19 : Nat) "JointedShadows$Segment" "endY" "J") ∈ GT := gmem1 (List.mem_of_getElem? (i := 111) rfl) rfl
theorem g1_112 : (Jvm.Cond.lays "JointedShadows$Segment" "JointedShadows$Segment" "startX" "J") ∈ GT := gmem1 (List.mem_of_getElem? (i := 112) rfl) rfl
theorem g1_113 : (Jvm.Cond.soleField "JointedShadows$Segment" "startX") ∈ GT := gmem1 (List.mem_of_getElem? (i := 113) rfl) rfl
theorem g1_114 : (Jvm.Cond.lays "JointedShadows$Segment" "JointedShadows$Segment" "startY" "J") ∈ GT := gmem1 (List.mem_of_getElem? (i := 114) rfl) rfl
theorem g1_115 : (Jvm.Cond.soleField "JointedShadows$Segment" "startY") ∈ GT := gmem1 (List.mem_of_getElem? (i := 115) rfl) rfl
theorem g1_116 : (Jvm.Cond.lays "JointedShadows$Segment" "JointedShadows$Segment" "endX" "J") ∈ GT := gmem1 (List.mem_of_getElem? (i := 116) rfl) rfl
theorem g1_117 : (Jvm.Cond.soleField "JointedShadows$Segment" "endX") ∈ GT := gmem1 (List.mem_of_getElem? (i := 117) rfl) rfl
theorem g1_118 : (Jvm.Cond.lays "JointedShadows$Segment" "JointedShadows$Segment" "endY" "J") ∈ GT := gmem1 (List.mem_of_getElem? (i := 118) rfl) rfl
theorem g1_119 : (Jvm.Cond.soleField "JointedShadows$Segment" "endY") ∈ GT := gmem1 (List.mem_of_getElem? (i := 119) rfl) rfl
theorem g1_120 : (Jvm.Cond.superclass "JointedShadows$Segment" "java/lang/Object") ∈ GT := gmem1 (List.mem_of_getElem? (i := 120) rfl) rfl
theorem g1_121 : (Jvm.Cond.fieldLink "JointedShadows" (9 : Nat) "JointedShadows" "screenDistance" "I") ∈ GT := gmem1 (List.mem_of_getElem? (i := 121) rfl) rfl
theorem g1_122 : (Jvm.Cond.fieldLink "JointedShadows" (15 : Nat) "JointedShadows" "figureCount" "I") ∈ GT := gmem1 (List.mem_of_getElem? (i := 122) rfl) rfl
theorem g1_123 : (Jvm.Cond.fieldLink "JointedShadows" (20 : Nat) "JointedShadows" "figures" "[LJointedShadows$Figure;") ∈ GT := gmem1 (List.mem_of_getElem? (i := 123) rfl) rfl
theorem g1_124 : (Jvm.Cond.fieldLink "JointedShadows" (27 : Nat) "JointedShadows" "script" "LJointedShadows$Script;") ∈ GT := gmem1 (List.mem_of_getElem? (i := 124) rfl) rfl
theorem g1_125 : (Jvm.Cond.fieldLink "JointedShadows" (34 : Nat) "JointedShadows" "scenes" "LJointedShadows$Scenes;") ∈ GT := gmem1 (List.mem_of_getElem? (i := 125) rfl) rfl
theorem g1_126 : (Jvm.Cond.fieldLink "JointedShadows" (41 : Nat) "JointedShadows" "firstPose" "LJointedShadows$Pose;") ∈ GT := gmem1 (List.mem_of_getElem? (i := 126) rfl) rfl
theorem g1_127 : (Jvm.Cond.fieldLink "JointedShadows" (45 : Nat) "JointedShadows" "secondPose" "LJointedShadows$Pose;") ∈ GT := gmem1 (List.mem_of_getElem? (i := 127) rfl) rfl
theorem g1_128 : (Jvm.Cond.fieldLink "JointedShadows" (51 : Nat) "JointedShadows" "firstSegment" "LJointedShadows$Segment;") ∈ GT := gmem1 (List.mem_of_getElem? (i := 128) rfl) rfl
theorem g1_129 : (Jvm.Cond.fieldLink "JointedShadows" (55 : Nat) "JointedShadows" "secondSegment" "LJointedShadows$Segment;") ∈ GT := gmem1 (List.mem_of_getElem? (i := 129) rfl) rfl
theorem g1_130 : (Jvm.Cond.lays "JointedShadows" "JointedShadows" "screenDistance" "I") ∈ GT := gmem1 (List.mem_of_getElem? (i := 130) rfl) rfl
theorem g1_131 : (Jvm.Cond.soleField "JointedShadows" "screenDistance") ∈ GT := gmem1 (List.mem_of_getElem? (i := 131) rfl) rfl
theorem g1_132 : (Jvm.Cond.lays "JointedShadows" "JointedShadows" "figureCount" "I") ∈ GT := gmem1 (List.mem_of_getElem? (i := 132) rfl) rfl
theorem g1_133 : (Jvm.Cond.soleField "JointedShadows" "figureCount") ∈ GT := gmem1 (List.mem_of_getElem? (i := 133) rfl) rfl
theorem g1_134 : (Jvm.Cond.laysFinal "JointedShadows" "JointedShadows" "figures" "[LJointedShadows$Figure;") ∈ GT := gmem1 (List.mem_of_getElem? (i := 134) rfl) rfl
theorem g1_135 : (Jvm.Cond.soleField "JointedShadows" "figures") ∈ GT := gmem1 (List.mem_of_getElem? (i := 135) rfl) rfl
theorem g1_136 : (Jvm.Cond.laysFinal "JointedShadows" "JointedShadows" "script" "LJointedShadows$Script;") ∈ GT := gmem1 (List.mem_of_getElem? (i := 136) rfl) rfl
theorem g1_137 : (Jvm.Cond.soleField "JointedShadows" "script") ∈ GT := gmem1 (List.mem_of_getElem? (i := 137) rfl) rfl
theorem g1_138 : (Jvm.Cond.laysFinal "JointedShadows" "JointedShadows" "scenes" "LJointedShadows$Scenes;") ∈ GT := gmem1 (List.mem_of_getElem? (i := 138) rfl) rfl
theorem g1_139 : (Jvm.Cond.soleField "JointedShadows" "scenes") ∈ GT := gmem1 (List.mem_of_getElem? (i := 139) rfl) rfl
theorem g1_140 : (Jvm.Cond.laysFinal "JointedShadows" "JointedShadows" "firstPose" "LJointedShadows$Pose;") ∈ GT := gmem1 (List.mem_of_getElem? (i := 140) rfl) rfl
theorem g1_141 : (Jvm.Cond.soleField "JointedShadows" "firstPose") ∈ GT := gmem1 (List.mem_of_getElem? (i := 141) rfl) rfl
theorem g1_142 : (Jvm.Cond.laysFinal "JointedShadows" "JointedShadows" "secondPose" "LJointedShadows$Pose;") ∈ GT := gmem1 (List.mem_of_getElem? (i := 142) rfl) rfl
theorem g1_143 : (Jvm.Cond.soleField "JointedShadows" "secondPose") ∈ GT := gmem1 (List.mem_of_getElem? (i := 143) rfl) rfl
theorem g1_144 : (Jvm.Cond.laysFinal "JointedShadows" "JointedShadows" "firstSegment" "LJointedShadows$Segment;") ∈ GT := gmem1 (List.mem_of_getElem? (i := 144) rfl) rfl
theorem g1_145 : (Jvm.Cond.soleField "JointedShadows" "firstSegment") ∈ GT := gmem1 (List.mem_of_getElem? (i := 145) rfl) rfl
theorem g1_146 : (Jvm.Cond.laysFinal "JointedShadows" "JointedShadows" "secondSegment" "LJointedShadows$Segment;") ∈ GT := gmem1 (List.mem_of_getElem? (i := 146) rfl) rfl
theorem g1_147 : (Jvm.Cond.soleField "JointedShadows" "secondSegment") ∈ GT := gmem1 (List.mem_of_getElem? (i := 147) rfl) rfl
theorem g1_148 : (Jvm.Cond.superclass "JointedShadows" "java/lang/Object") ∈ GT := gmem1 (List.mem_of_getElem? (i := 148) rfl) rfl
theorem g1_149 : (Jvm.Cond.methodLink "JointedShadowsLaw" (13 : Nat) ({ cls := "JointedShadows", name := "setDistance", desc := "(I)I" } : Jvm.MethodName)) ∈ GT := gmem1 (List.mem_of_getElem? (i := 149) rfl) rfl
theorem g1_150 : (Jvm.Cond.instanceMethod ({ cls := "JointedShadows", name := "setDistance", desc := "(I)I" } : Jvm.MethodName)) ∈ GT := gmem1 (List.mem_of_getElem? (i := 150) rfl) rfl
theorem g1_151 : (Jvm.Cond.selects "JointedShadows" ({ cls := "JointedShadows", name := "setDistance", desc := "(I)I" } : Jvm.MethodName) ({ cls := "JointedShadows", name := "setDistance", desc := "(I)I" } : Jvm.MethodName)) ∈ GT := gmem1 (List.mem_of_getElem? (i := 151) rfl) rfl
theorem g1_152 : (Jvm.Cond.code ({ cls := "JointedShadows", name := "setDistance", desc := "(I)I" } : Jvm.MethodName) prog_1_method_2_code (3 : Nat) (Option.some Jvm.ClassFile.FieldType.int)) ∈ GT := gmem1 (List.mem_of_getElem? (i := 152) rfl) rfl
theorem g1_153 : (Jvm.Cond.methodLink "JointedShadows" (58 : Nat) ({ cls := "JointedShadows", name := "inRange", desc := "(III)Z" } : Jvm.MethodName)) ∈ GT := gmem1 (List.mem_of_getElem? (i := 153) rfl) rfl
theorem g1_154 : (Jvm.Cond.static ({ cls := "JointedShadows", name := "inRange", desc := "(III)Z" } : Jvm.MethodName)) ∈ GT := gmem1 (List.mem_of_getElem? (i := 154) rfl) rfl
theorem g1_155 : (Jvm.Cond.code ({ cls := "JointedShadows", name := "inRange", desc := "(III)Z" } : Jvm.MethodName) prog_1_method_24_code (3 : Nat) (Option.some Jvm.ClassFile.FieldType.boolean)) ∈ GT := gmem1 (List.mem_of_getElem? (i := 155) rfl) rfl
theorem g1_156 : (Jvm.Cond.methodLink "JointedShadowsLaw" (18 : Nat) ({ cls := "JointedShadows", name := "addFigure", desc := "(III)I" } : Jvm.MethodName)) ∈ GT := gmem1 (List.mem_of_getElem? (i := 156) rfl) rfl
theorem g1_157 : (Jvm.Cond.instanceMethod ({ cls := "JointedShadows", name := "addFigure", desc := "(III)I" } : Jvm.MethodName)) ∈ GT := gmem1 (List.mem_of_getElem? (i := 157) rfl) rfl
theorem g1_158 : (Jvm.Cond.selects "JointedShadows" ({ cls := "JointedShadows", name := "addFigure", desc := "(III)I" } : Jvm.MethodName) ({ cls := "JointedShadows", name := "addFigure", desc := "(III)I" } : Jvm.MethodName)) ∈ GT := gmem1 (List.mem_of_getElem? (i := 158) rfl) rfl
theorem g1_159 : (Jvm.Cond.code ({ cls := "JointedShadows", name := "addFigure", desc := "(III)I" } : Jvm.MethodName) prog_1_method_3_code (5 : Nat) (Option.some Jvm.ClassFile.FieldType.int)) ∈ GT := gmem1 (List.mem_of_getElem? (i := 159) rfl) rfl
theorem g1_160 : (Jvm.Cond.instantiable "JointedShadows$Figure" (8 : Nat)) ∈ GT := gmem1 (List.mem_of_getElem? (i := 160) rfl) rfl
theorem g1_161 : (Jvm.Cond.methodLink "JointedShadows" (62 : Nat) ({ cls := "JointedShadows$Figure", name := "<init>", desc := "(IIII)V" } : Jvm.MethodName)) ∈ GT := gmem1 (List.mem_of_getElem? (i := 161) rfl) rfl
theorem g1_162 : (Jvm.Cond.instanceMethod ({ cls := "JointedShadows$Figure", name := "<init>", desc := "(IIII)V" } : Jvm.MethodName)) ∈ GT := gmem1 (List.mem_of_getElem? (i := 162) rfl) rfl
theorem g1_163 : (Jvm.Cond.code ({ cls := "JointedShadows$Figure", name := "<init>", desc := "(IIII)V" } : Jvm.MethodName) prog_2_method_1_code (5 : Nat) (Option.none : Option Jvm.ClassFile.FieldType)) ∈ GT := gmem1 (List.mem_of_getElem? (i := 163) rfl) rfl
theorem g1_164 : (Jvm.Cond.methodLink "JointedShadows$Figure" (3 : Nat) ({ cls := "java/lang/Object", name := "<init>", desc := "()V" } : Jvm.MethodName)) ∈ GT := gmem1 (List.mem_of_getElem? (i := 164) rfl) rfl
theorem g1_165 : (Jvm.Cond.fieldLink "JointedShadows$Figure" (25 : Nat) "JointedShadows$Figure" "number" "I") ∈ GT := gmem1 (List.mem_of_getElem? (i := 165) rfl) rfl
theorem g1_166 : (Jvm.Cond.fieldLink "JointedShadows$Pose" (58 : Nat) "JointedShadows$Figure" "number" "I") ∈ GT := gmem1 (List.mem_of_getElem? (i := 166) rfl) rfl
theorem g1_167 : (Jvm.Cond.fieldLink "JointedShadows" (176 : Nat) "JointedShadows$Figure" "number" "I") ∈ GT := gmem1 (List.mem_of_getElem? (i := 167) rfl) rfl
theorem g1_168 : (Jvm.Cond.fieldLink "JointedShadows$Figure" (28 : Nat) "JointedShadows$Figure" "x" "I") ∈ GT := gmem1 (List.mem_of_getElem? (i := 168) rfl) rfl
theorem g1_169 : (Jvm.Cond.fieldLink "JointedShadows$Pose" (78 : Nat) "JointedShadows$Figure" "x" "I") ∈ GT := gmem1 (List.mem_of_getElem? (i := 169) rfl) rfl
theorem g1_170 : (Jvm.Cond.fieldLink "JointedShadows$Figure" (31 : Nat) "JointedShadows$Figure" "y" "I") ∈ GT := gmem1 (List.mem_of_getElem? (i := 170) rfl) rfl
theorem g1_171 : (Jvm.Cond.fieldLink "JointedShadows$Pose" (80 : Nat) "JointedShadows$Figure" "y" "I") ∈ GT := gmem1 (List.mem_of_getElem? (i := 171) rfl) rfl
theorem g1_172 : (Jvm.Cond.fieldLink "JointedShadows$Figure" (34 : Nat) "JointedShadows$Figure" "plane" "I") ∈ GT := gmem1 (List.mem_of_getElem? (i := 172) rfl) rfl
theorem g1_173 : (Jvm.Cond.fieldLink "JointedShadows$Pose" (82 : Nat) "JointedShadows$Figure" "plane" "I") ∈ GT := gmem1 (List.mem_of_getElem? (i := 173) rfl) rfl
theorem g1_174 : (Jvm.Cond.fieldLink "JointedShadows$Figure" (9 : Nat) "JointedShadows$Figure" "parent" "[I") ∈ GT := gmem1 (List.mem_of_getElem? (i := 174) rfl) rfl
theorem g1_175 : (Jvm.Cond.fieldLink "JointedShadows$Figure" (15 : Nat) "JointedShadows$Figure" "length" "[I") ∈ GT := gmem1 (List.mem_of_getElem? (i := 175) rfl) rfl
theorem g1_176 : (Jvm.Cond.fieldLink "JointedShadows$Pose" (121 : Nat) "JointedShadows$Figure" "length" "[I") ∈ GT := gmem1 (List.mem_of_getElem? (i := 176) rfl) rfl
theorem g1_177 : (Jvm.Cond.fieldLink "JointedShadows$Figure" (18 : Nat) "JointedShadows$Figure" "direction" "[I") ∈ GT := gmem1 (List.mem_of_getElem? (i := 177) rfl) rfl
theorem g1_178 : (Jvm.Cond.fieldLink "JointedShadows$Pose" (89 : Nat) "JointedShadows$Figure" "direction" "[I") ∈ GT := gmem1 (List.mem_of_getElem? (i := 178) rfl) rfl
theorem g1_179 : (Jvm.Cond.fieldLink "JointedShadows$Figure" (21 : Nat) "JointedShadows$Figure" "limbs" "I") ∈ GT := gmem1 (List.mem_of_getElem? (i := 179) rfl) rfl
theorem g1_180 : (Jvm.Cond.fieldLink "JointedShadows$Pose" (71 : Nat) "JointedShadows$Figure" "limbs" "I") ∈ GT := gmem1 (List.mem_of_getElem? (i := 180) rfl) rfl
theorem g1_181 : (Jvm.Cond.fieldLink "JointedShadows" (111 : Nat) "JointedShadows$Figure" "limbs" "I") ∈ GT := gmem1 (List.mem_of_getElem? (i := 181) rfl) rfl
theorem g1_182 : (Jvm.Cond.laysFinal "JointedShadows$Figure" "JointedShadows$Figure" "number" "I") ∈ GT := gmem1 (List.mem_of_getElem? (i := 182) rfl) rfl
theorem g1_183 : (Jvm.Cond.soleField "JointedShadows$Figure" "number") ∈ GT := gmem1 (List.mem_of_getElem? (i := 183) rfl) rfl
theorem g1_184 : (Jvm.Cond.laysFinal "JointedShadows$Figure" "JointedShadows$Figure" "x" "I") ∈ GT := gmem1 (List.mem_of_getElem? (i := 184) rfl) rfl
theorem g1_185 : (Jvm.Cond.soleField "JointedShadows$Figure" "x") ∈ GT := gmem1 (List.mem_of_getElem? (i := 185) rfl) rfl
theorem g1_186 : (Jvm.Cond.laysFinal "JointedShadows$Figure" "JointedShadows$Figure" "y" "I") ∈ GT := gmem1 (List.mem_of_getElem? (i := 186) rfl) rfl
theorem g1_187 : (Jvm.Cond.soleField "JointedShadows$Figure" "y") ∈ GT := gmem1 (List.mem_of_getElem? (i := 187) rfl) rfl
theorem g1_188 : (Jvm.Cond.laysFinal "JointedShadows$Figure" "JointedShadows$Figure" "plane" "I") ∈ GT := gmem1 (List.mem_of_getElem? (i := 188) rfl) rfl
theorem g1_189 : (Jvm.Cond.soleField "JointedShadows$Figure" "plane") ∈ GT := gmem1 (List.mem_of_getElem? (i := 189) rfl) rfl
theorem g1_190 : (Jvm.Cond.laysFinal "JointedShadows$Figure" "JointedShadows$Figure" "parent" "[I") ∈ GT := gmem1 (List.mem_of_getElem? (i := 190) rfl) rfl
theorem g1_191 : (Jvm.Cond.soleField "JointedShadows$Figure" "parent") ∈ GT := gmem1 (List.mem_of_getElem? (i := 191) rfl) rfl
theorem g1_192 : (Jvm.Cond.laysFinal "JointedShadows$Figure" "JointedShadows$Figure" "length" "[I") ∈ GT := gmem1 (List.mem_of_getElem? (i := 192) rfl) rfl
theorem g1_193 : (Jvm.Cond.soleField "JointedShadows$Figure" "length") ∈ GT := gmem1 (List.mem_of_getElem? (i := 193) rfl) rfl
theorem g1_194 : (Jvm.Cond.laysFinal "JointedShadows$Figure" "JointedShadows$Figure" "direction" "[I") ∈ GT := gmem1 (List.mem_of_getElem? (i := 194) rfl) rfl
theorem g1_195 : (Jvm.Cond.soleField "JointedShadows$Figure" "direction") ∈ GT := gmem1 (List.mem_of_getElem? (i := 195) rfl) rfl
theorem g1_196 : (Jvm.Cond.lays "JointedShadows$Figure" "JointedShadows$Figure" "limbs" "I") ∈ GT := gmem1 (List.mem_of_getElem? (i := 196) rfl) rfl
theorem g1_197 : (Jvm.Cond.soleField "JointedShadows$Figure" "limbs") ∈ GT := gmem1 (List.mem_of_getElem? (i := 197) rfl) rfl
theorem g1_198 : (Jvm.Cond.superclass "JointedShadows$Figure" "java/lang/Object") ∈ GT := gmem1 (List.mem_of_getElem? (i := 198) rfl) rfl
theorem g1_199 : (Jvm.Cond.methodLink "JointedShadowsLaw" (23 : Nat) ({ cls := "JointedShadows", name := "addLimb", desc := "(IIII)I" } : Jvm.MethodName)) ∈ GT := gmem1 (List.mem_of_getElem? (i := 199) rfl) rfl
theorem g1_200 : (Jvm.Cond.instanceMethod ({ cls := "JointedShadows", name := "addLimb", desc := "(IIII)I" } : Jvm.MethodName)) ∈ GT := gmem1 (List.mem_of_getElem? (i := 200) rfl) rfl
theorem g1_201 : (Jvm.Cond.selects "JointedShadows" ({ cls := "JointedShadows", name := "addLimb", desc := "(IIII)I" } : Jvm.MethodName) ({ cls := "JointedShadows", name := "addLimb", desc := "(IIII)I" } : Jvm.MethodName)) ∈ GT := gmem1 (List.mem_of_getElem? (i := 201) rfl) rfl
theorem g1_202 : (Jvm.Cond.code ({ cls := "JointedShadows", name := "addLimb", desc := "(IIII)I" } : Jvm.MethodName) prog_1_method_4_code (6 : Nat) (Option.some Jvm.ClassFile.FieldType.int)) ∈ GT := gmem1 (List.mem_of_getElem? (i := 202) rfl) rfl
theorem g1_203 : (Jvm.Cond.methodLink "JointedShadows" (65 : Nat) ({ cls := "JointedShadows", name := "figureAt", desc := "(I)LJointedShadows$Figure;" } : Jvm.MethodName)) ∈ GT := gmem1 (List.mem_of_getElem? (i := 203) rfl) rfl
theorem g1_205 : (Jvm.Cond.instanceMethod ({ cls := "JointedShadows", name := "figureAt", desc := "(I)LJointedShadows$Figure;" } : Jvm.MethodName)) ∈ GT := gmem1 (List.mem_of_getElem? (i := 205) rfl) rfl
theorem g1_206 : (Jvm.Cond.code ({ cls := "JointedShadows", name := "figureAt", desc := "(I)LJointedShadows$Figure;" } : Jvm.MethodName) prog_1_method_26_code (2 : Nat) (Option.some (Jvm.ClassFile.FieldType.object "JointedShadows$Figure"))) ∈ GT := gmem1 (List.mem_of_getElem? (i := 206) rfl) rfl
theorem g1_207 : (Jvm.Cond.methodLink "JointedShadows" (69 : Nat) ({ cls := "JointedShadows$Figure", name := "hasLimb", desc := "(I)Z" } : Jvm.MethodName)) ∈ GT := gmem1 (List.mem_of_getElem? (i := 207) rfl) rfl
theorem g1_208 : (Jvm.Cond.instanceMethod ({ cls := "JointedShadows$Figure", name := "hasLimb", desc := "(I)Z" } : Jvm.MethodName)) ∈ GT := gmem1 (List.mem_of_getElem? (i := 208) rfl) rfl
theorem g1_209 : (Jvm.Cond.selects "JointedShadows$Figure" ({ cls := "JointedShadows$Figure", name := "hasLimb", desc := "(I)Z" } : Jvm.MethodName) ({ cls := "JointedShadows$Figure", name := "hasLimb", desc := "(I)Z" } : Jvm.MethodName)) ∈ GT := gmem1 (List.mem_of_getElem? (i := 209) rfl) rfl
theorem g1_210 : (Jvm.Cond.code ({ cls := "JointedShadows$Figure", name := "hasLimb", desc := "(I)Z" } : Jvm.MethodName) prog_2_method_2_code (2 : Nat) (Option.some Jvm.ClassFile.FieldType.boolean)) ∈ GT := gmem1 (List.mem_of_getElem? (i := 210) rfl) rfl
theorem g1_212 : (Jvm.Cond.methodLink "JointedShadows" (73 : Nat) ({ cls := "JointedShadows$Figure", name := "grow", desc := "(III)I" } : Jvm.MethodName)) ∈ GT := gmem1 (List.mem_of_getElem? (i := 212) rfl) rfl
theorem g1_213 : (Jvm.Cond.instanceMethod ({ cls := "JointedShadows$Figure", name := "grow", desc := "(III)I" } : Jvm.MethodName)) ∈ GT := gmem1 (List.mem_of_getElem? (i := 213) rfl) rfl
theorem g1_214 : (Jvm.Cond.selects "JointedShadows$Figure" ({ cls := "JointedShadows$Figure", name := "grow", desc := "(III)I" } : Jvm.MethodName) ({ cls := "JointedShadows$Figure", name := "grow", desc := "(III)I" } : Jvm.MethodName)) ∈ GT := gmem1 (List.mem_of_getElem? (i := 214) rfl) rfl
theorem g1_215 : (Jvm.Cond.code ({ cls := "JointedShadows$Figure", name := "grow", desc := "(III)I" } : Jvm.MethodName) prog_2_method_3_code (5 : Nat) (Option.some Jvm.ClassFile.FieldType.int)) ∈ GT := gmem1 (List.mem_of_getElem? (i := 215) rfl) rfl
theorem g1_216 : (Jvm.Cond.methodLink "JointedShadowsLaw" (28 : Nat) ({ cls := "JointedShadows", name := "count", desc := "(I)I" } : Jvm.MethodName)) ∈ GT := gmem1 (List.mem_of_getElem? (i := 216) rfl) rfl
theorem g1_217 : (Jvm.Cond.instanceMethod ({ cls := "JointedShadows", name := "count", desc := "(I)I" } : Jvm.MethodName)) ∈ GT := gmem1 (List.mem_of_getElem? (i := 217) rfl) rfl
theorem g1_218 : (Jvm.Cond.selects "JointedShadows" ({ cls := "JointedShadows", name := "count", desc := "(I)I" } : Jvm.MethodName) ({ cls := "JointedShadows", name := "count", desc := "(I)I" } : Jvm.MethodName)) ∈ GT := gmem1 (List.mem_of_getElem? (i := 218) rfl) rfl
theorem g1_219 : (Jvm.Cond.code ({ cls := "JointedShadows", name := "count", desc := "(I)I" } : Jvm.MethodName) prog_1_method_5_code (2 : Nat) (Option.some Jvm.ClassFile.FieldType.int)) ∈ GT := gmem1 (List.mem_of_getElem? (i := 219) rfl) rfl
theorem g1_220 : (Jvm.Cond.methodLink "JointedShadows" (81 : Nat) ({ cls := "JointedShadows", name := "limbsOfAll", desc := "()I" } : Jvm.MethodName)) ∈ GT := gmem1 (List.mem_of_getElem? (i := 220) rfl) rfl
theorem g1_222 : (Jvm.Cond.instanceMethod ({ cls := "JointedShadows", name := "limbsOfAll", desc := "()I" } : Jvm.MethodName)) ∈ GT := gmem1 (List.mem_of_getElem? (i := 222) rfl) rfl
theorem g1_223 : (Jvm.Cond.code ({ cls := "JointedShadows", name := "limbsOfAll", desc := "()I" } : Jvm.MethodName) prog_1_method_27_code (6 : Nat) (Option.some Jvm.ClassFile.FieldType.int)) ∈ GT := gmem1 (List.mem_of_getElem? (i := 223) rfl) rfl
theorem g1_224 : (Jvm.Cond.methodLink "JointedShadowsLaw" (32 : Nat) ({ cls := "JointedShadows", name := "addTurn", desc := "(IIII)I" } : Jvm.MethodName)) ∈ GT := gmem1 (List.mem_of_getElem? (i := 224) rfl) rfl
theorem g1_225 : (Jvm.Cond.instanceMethod ({ cls := "JointedShadows", name := "addTurn", desc := "(IIII)I" } : Jvm.MethodName)) ∈ GT := gmem1 (List.mem_of_getElem? (i := 225) rfl) rfl
theorem g1_226 : (Jvm.Cond.selects "JointedShadows" ({ cls := "JointedShadows", name := "addTurn", desc := "(IIII)I" } : Jvm.MethodName) ({ cls := "JointedShadows", name := "addTurn", desc := "(IIII)I" } : Jvm.MethodName)) ∈ GT := gmem1 (List.mem_of_getElem? (i := 226) rfl) rfl
theorem g1_227 : (Jvm.Cond.code ({ cls := "JointedShadows", name := "addTurn", desc := "(IIII)I" } : Jvm.MethodName) prog_1_method_6_code (7 : Nat) (Option.some Jvm.ClassFile.FieldType.int)) ∈ GT := gmem1 (List.mem_of_getElem? (i := 227) rfl) rfl
theorem g1_228 : (Jvm.Cond.methodLink "JointedShadows" (85 : Nat) ({ cls := "JointedShadows", name := "isBeat", desc := "(I)Z" } : Jvm.MethodName)) ∈ GT := gmem1 (List.mem_of_getElem? (i := 228) rfl) rfl
theorem g1_229 : (Jvm.Cond.static ({ cls := "JointedShadows", name := "isBeat", desc := "(I)Z" } : Jvm.MethodName)) ∈ GT := gmem1 (List.mem_of_getElem? (i := 229) rfl) rfl
theorem g1_230 : (Jvm.Cond.code ({ cls := "JointedShadows", name := "isBeat", desc := "(I)Z" } : Jvm.MethodName) prog_1_method_25_code (1 : Nat) (Option.some Jvm.ClassFile.FieldType.boolean)) ∈ GT := gmem1 (List.mem_of_getElem? (i := 230) rfl) rfl
theorem g1_231 : (Jvm.Cond.classLink "JointedShadows" (88 : Nat) "JointedShadows$Move") ∈ GT := gmem1 (List.mem_of_getElem? (i := 231) rfl) rfl
theorem g1_232 : (Jvm.Cond.instantiable "JointedShadows$Move" (8 : Nat)) ∈ GT := gmem1 (List.mem_of_getElem? (i := 232) rfl) rfl
theorem g1_233 : (Jvm.Cond.methodLink "JointedShadows" (90 : Nat) ({ cls := "JointedShadows$Move", name := "<init>", desc := "(IIII)V" } : Jvm.MethodName)) ∈ GT := gmem1 (List.mem_of_getElem? (i := 233) rfl) rfl
theorem g1_234 : (Jvm.Cond.instanceMethod ({ cls := "JointedShadows$Move", name := "<init>", desc := "(IIII)V" } : Jvm.MethodName)) ∈ GT := gmem1 (List.mem_of_getElem? (i := 234) rfl) rfl
theorem g1_235 : (Jvm.Cond.code ({ cls := "JointedShadows$Move", name := "<init>", desc := "(IIII)V" } : Jvm.MethodName) prog_3_method_1_code (5 : Nat) (Option.none : Option Jvm.ClassFile.FieldType)) ∈ GT := gmem1 (List.mem_of_getElem? (i := 235) rfl) rfl
theorem g1_236 : (Jvm.Cond.methodLink "JointedShadows$Move" (1 : Nat) ({ cls := "java/lang/Object", name := "<init>", desc := "()V" } : Jvm.MethodName)) ∈ GT := gmem1 (List.mem_of_getElem? (i := 236) rfl) rfl
theorem g1_237 : (Jvm.Cond.fieldLink "JointedShadows$Move" (22 : Nat) "JointedShadows$Move" "number" "I") ∈ GT := gmem1 (List.mem_of_getElem? (i := 237) rfl) rfl
theorem g1_238 : (Jvm.Cond.fieldLink "JointedShadows$Script" (28 : Nat) "JointedShadows$Move" "number" "I") ∈ GT := gmem1 (List.mem_of_getElem? (i := 238) rfl) rfl
theorem g1_239 : (Jvm.Cond.fieldLink "JointedShadows$Move" (25 : Nat) "JointedShadows$Move" "beat" "I") ∈ GT := gmem1 (List.mem_of_getElem? (i := 239) rfl) rfl
theorem g2_0 : (Jvm.Cond.fieldLink "JointedShadows$Script" (21 : Nat) "JointedShadows$Move" "beat" "I") ∈ GT := gmem2 (List.mem_of_getElem? (i := 0) rfl) rfl
theorem g2_1 : (Jvm.Cond.fieldLink "JointedShadows$Pose" (50 : Nat) "JointedShadows$Move" "beat" "I") ∈ GT := gmem2 (List.mem_of_getElem? (i := 1) rfl) rfl
theorem g2_2 : (Jvm.Cond.fieldLink "JointedShadows$Move" (28 : Nat) "JointedShadows$Move" "figure" "I") ∈ GT := gmem2 (List.mem_of_getElem? (i := 2) rfl) rfl
theorem g2_3 : (Jvm.Cond.fieldLink "JointedShadows$Pose" (55 : Nat) "JointedShadows$Move" "figure" "I") ∈ GT := gmem2 (List.mem_of_getElem? (i := 3) rfl) rfl
theorem g2_4 : (Jvm.Cond.fieldLink "JointedShadows$Script" (31 : Nat) "JointedShadows$Move" "figure" "I") ∈ GT := gmem2 (List.mem_of_getElem? (i := 4) rfl) rfl
theorem g2_5 : (Jvm.Cond.fieldLink "JointedShadows$Move" (31 : Nat) "JointedShadows$Move" "limb" "I") ∈ GT := gmem2 (List.mem_of_getElem? (i := 5) rfl) rfl
theorem g2_6 : (Jvm.Cond.fieldLink "JointedShadows$Pose" (96 : Nat) "JointedShadows$Move" "limb" "I") ∈ GT := gmem2 (List.mem_of_getElem? (i := 6) rfl) rfl
theorem g2_7 : (Jvm.Cond.fieldLink "JointedShadows$Script" (34 : Nat) "JointedShadows$Move" "limb" "I") ∈ GT := gmem2 (List.mem_of_getElem? (i := 7) rfl) rfl
theorem g2_8 : (Jvm.Cond.fieldLink "JointedShadows$Move" (7 : Nat) "JointedShadows$Move" "eighths" "I") ∈ GT := gmem2 (List.mem_of_getElem? (i := 8) rfl) rfl
theorem g2_9 : (Jvm.Cond.fieldLink "JointedShadows$Pose" (111 : Nat) "JointedShadows$Move" "eighths" "I") ∈ GT := gmem2 (List.mem_of_getElem? (i := 9) rfl) rfl
theorem g2_10 : (Jvm.Cond.fieldLink "JointedShadows" (91 : Nat) "JointedShadows$Move" "eighths" "I") ∈ GT := gmem2 (List.mem_of_getElem? (i := 10) rfl) rfl
theorem g2_11 : (Jvm.Cond.fieldLink "JointedShadows$Move" (13 : Nat) "JointedShadows$Move" "dx" "I") ∈ GT := gmem2 (List.mem_of_getElem? (i := 11) rfl) rfl
theorem g2_12 : (Jvm.Cond.fieldLink "JointedShadows$Pose" (99 : Nat) "JointedShadows$Move" "dx" "I") ∈ GT := gmem2 (List.mem_of_getElem? (i := 12) rfl) rfl
theorem g2_13 : (Jvm.Cond.fieldLink "JointedShadows" (98 : Nat) "JointedShadows$Move" "dx" "I") ∈ GT := gmem2 (List.mem_of_getElem? (i := 13) rfl) rfl
theorem g2_14 : (Jvm.Cond.fieldLink "JointedShadows$Move" (16 : Nat) "JointedShadows$Move" "dy" "I") ∈ GT := gmem2 (List.mem_of_getElem? (i := 14) rfl) rfl
theorem g2_15 : (Jvm.Cond.fieldLink "JointedShadows$Pose" (102 : Nat) "JointedShadows$Move" "dy" "I") ∈ GT := gmem2 (List.mem_of_getElem? (i := 15) rfl) rfl
theorem g2_16 : (Jvm.Cond.fieldLink "JointedShadows" (101 : Nat) "JointedShadows$Move" "dy" "I") ∈ GT := gmem2 (List.mem_of_getElem? (i := 16) rfl) rfl
theorem g2_17 : (Jvm.Cond.fieldLink "JointedShadows$Move" (19 : Nat) "JointedShadows$Move" "dplane" "I") ∈ GT := gmem2 (List.mem_of_getElem? (i := 17) rfl) rfl
theorem g2_18 : (Jvm.Cond.fieldLink "JointedShadows$Pose" (105 : Nat) "JointedShadows$Move" "dplane" "I") ∈ GT := gmem2 (List.mem_of_getElem? (i := 18) rfl) rfl
theorem g2_19 : (Jvm.Cond.fieldLink "JointedShadows" (104 : Nat) "JointedShadows$Move" "dplane" "I") ∈ GT := gmem2 (List.mem_of_getElem? (i := 19) rfl) rfl
theorem g2_20 : (Jvm.Cond.laysFinal "JointedShadows$Move" "JointedShadows$Move" "number" "I") ∈ GT := gmem2 (List.mem_of_getElem? (i := 20) rfl) rfl
theorem g2_21 : (Jvm.Cond.soleField "JointedShadows$Move" "number") ∈ GT := gmem2 (List.mem_of_getElem? (i := 21) rfl) rfl
theorem g2_22 : (Jvm.Cond.laysFinal "JointedShadows$Move" "JointedShadows$Move" "beat" "I") ∈ GT := gmem2 (List.mem_of_getElem? (i := 22) rfl) rfl
theorem g2_23 : (Jvm.Cond.soleField "JointedShadows$Move" "beat") ∈ GT := gmem2 (List.mem_of_getElem? (i := 23) rfl) rfl
theorem g2_24 : (Jvm.Cond.laysFinal "JointedShadows$Move" "JointedShadows$Move" "figure" "I") ∈ GT := gmem2 (List.mem_of_getElem? (i := 24) rfl) rfl
theorem g2_25 : (Jvm.Cond.soleField "JointedShadows$Move" "figure") ∈ GT := gmem2 (List.mem_of_getElem? (i := 25) rfl) rfl
theorem g2_26 : (Jvm.Cond.laysFinal "JointedShadows$Move" "JointedShadows$Move" "limb" "I") ∈ GT := gmem2 (List.mem_of_getElem? (i := 26) rfl) rfl
theorem g2_27 : (Jvm.Cond.soleField "JointedShadows$Move" "limb") ∈ GT := gmem2 (List.mem_of_getElem? (i := 27) rfl) rfl
theorem g2_28 : (Jvm.Cond.lays "JointedShadows$Move" "JointedShadows$Move" "eighths" "I") ∈ GT := gmem2 (List.mem_of_getElem? (i := 28) rfl) rfl
theorem g2_29 : (Jvm.Cond.soleField "JointedShadows$Move" "eighths") ∈ GT := gmem2 (List.mem_of_getElem? (i := 29) rfl) rfl
theorem g2_30 : (Jvm.Cond.lays "JointedShadows$Move" "JointedShadows$Move" "dx" "I") ∈ GT := gmem2 (List.mem_of_getElem? (i := 30) rfl) rfl
theorem g2_31 : (Jvm.Cond.soleField "JointedShadows$Move" "dx") ∈ GT := gmem2 (List.mem_of_getElem? (i := 31) rfl) rfl
theorem g2_32 : (Jvm.Cond.lays "JointedShadows$Move" "JointedShadows$Move" "dy" "I") ∈ GT := gmem2 (List.mem_of_getElem? (i := 32) rfl) rfl
theorem g2_33 : (Jvm.Cond.soleField "JointedShadows$Move" "dy") ∈ GT := gmem2 (List.mem_of_getElem? (i := 33) rfl) rfl
theorem g2_34 : (Jvm.Cond.lays "JointedShadows$Move" "JointedShadows$Move" "dplane" "I") ∈ GT := gmem2 (List.mem_of_getElem? (i := 34) rfl) rfl
theorem g2_35 : (Jvm.Cond.soleField "JointedShadows$Move" "dplane") ∈ GT := gmem2 (List.mem_of_getElem? (i := 35) rfl) rfl
theorem g2_36 : (Jvm.Cond.superclass "JointedShadows$Move" "java/lang/Object") ∈ GT := gmem2 (List.mem_of_getElem? (i := 36) rfl) rfl
theorem g2_37 : (Jvm.Cond.methodLink "JointedShadows" (94 : Nat) ({ cls := "JointedShadows$Script", name := "insert", desc := "(LJointedShadows$Move;)I" } : Jvm.MethodName)) ∈ GT := gmem2 (List.mem_of_getElem? (i := 37) rfl) rfl
theorem g2_38 : (Jvm.Cond.instanceMethod ({ cls := "JointedShadows$Script", name := "insert", desc := "(LJointedShadows$Move;)I" } : Jvm.MethodName)) ∈ GT := gmem2 (List.mem_of_getElem? (i := 38) rfl) rfl
theorem g2_39 : (Jvm.Cond.selects "JointedShadows$Script" ({ cls := "JointedShadows$Script", name := "insert", desc := "(LJointedShadows$Move;)I" } : Jvm.MethodName) ({ cls := "JointedShadows$Script", name := "insert", desc := "(LJointedShadows$Move;)I" } : Jvm.MethodName)) ∈ GT := gmem2 (List.mem_of_getElem? (i := 39) rfl) rfl
theorem g2_40 : (Jvm.Cond.code ({ cls := "JointedShadows$Script", name := "insert", desc := "(LJointedShadows$Move;)I" } : Jvm.MethodName) prog_6_method_2_code (3 : Nat) (Option.some Jvm.ClassFile.FieldType.int)) ∈ GT := gmem2 (List.mem_of_getElem? (i := 40) rfl) rfl
theorem g2_41 : (Jvm.Cond.methodLink "JointedShadows$Script" (24 : Nat) ({ cls := "JointedShadows$Script", name := "isAfter", desc := "(LJointedShadows$Move;I)Z" } : Jvm.MethodName)) ∈ GT := gmem2 (List.mem_of_getElem? (i := 41) rfl) rfl
theorem g2_42 : (Jvm.Cond.static ({ cls := "JointedShadows$Script", name := "isAfter", desc := "(LJointedShadows$Move;I)Z" } : Jvm.MethodName)) ∈ GT := gmem2 (List.mem_of_getElem? (i := 42) rfl) rfl
theorem g2_43 : (Jvm.Cond.code ({ cls := "JointedShadows$Script", name := "isAfter", desc := "(LJointedShadows$Move;I)Z" } : Jvm.MethodName) prog_6_method_3_code (2 : Nat) (Option.some Jvm.ClassFile.FieldType.boolean)) ∈ GT := gmem2 (List.mem_of_getElem? (i := 43) rfl) rfl
theorem g2_44 : (Jvm.Cond.methodLink "JointedShadowsLaw" (36 : Nat) ({ cls := "JointedShadows", name := "addShift", desc := "(IIIII)I" } : Jvm.MethodName)) ∈ GT := gmem2 (List.mem_of_getElem? (i := 44) rfl) rfl
theorem g2_45 : (Jvm.Cond.instanceMethod ({ cls := "JointedShadows", name := "addShift", desc := "(IIIII)I" } : Jvm.MethodName)) ∈ GT := gmem2 (List.mem_of_getElem? (i := 45) rfl) rfl
theorem g2_46 : (Jvm.Cond.selects "JointedShadows" ({ cls := "JointedShadows", name := "addShift", desc := "(IIIII)I" } : Jvm.MethodName) ({ cls := "JointedShadows", name := "addShift", desc := "(IIIII)I" } : Jvm.MethodName)) ∈ GT := gmem2 (List.mem_of_getElem? (i := 46) rfl) rfl
theorem g2_47 : (Jvm.Cond.code ({ cls := "JointedShadows", name := "addShift", desc := "(IIIII)I" } : Jvm.MethodName) prog_1_method_7_code (7 : Nat) (Option.some Jvm.ClassFile.FieldType.int)) ∈ GT := gmem2 (List.mem_of_getElem? (i := 47) rfl) rfl
theorem g2_48 : (Jvm.Cond.methodLink "JointedShadowsLaw" (41 : Nat) ({ cls := "JointedShadows", name := "removeMoves", desc := "(I)I" } : Jvm.MethodName)) ∈ GT := gmem2 (List.mem_of_getElem? (i := 48) rfl) rfl
theorem g2_49 : (Jvm.Cond.instanceMethod ({ cls := "JointedShadows", name := "removeMoves", desc := "(I)I" } : Jvm.MethodName)) ∈ GT := gmem2 (List.mem_of_getElem? (i := 49) rfl) rfl
theorem g2_50 : (Jvm.Cond.selects "JointedShadows" ({ cls := "JointedShadows", name := "removeMoves", desc := "(I)I" } : Jvm.MethodName) ({ cls := "JointedShadows", name := "removeMoves", desc := "(I)I" } : Jvm.MethodName)) ∈ GT := gmem2 (List.mem_of_getElem? (i := 50) rfl) rfl
theorem g2_51 : (Jvm.Cond.code ({ cls := "JointedShadows", name := "removeMoves", desc := "(I)I" } : Jvm.MethodName) prog_1_method_8_code (2 : Nat) (Option.some Jvm.ClassFile.FieldType.int)) ∈ GT := gmem2 (List.mem_of_getElem? (i := 51) rfl) rfl
theorem g2_52 : (Jvm.Cond.methodLink "JointedShadows" (107 : Nat) ({ cls := "JointedShadows$Script", name := "keepFirst", desc := "(I)V" } : Jvm.MethodName)) ∈ GT := gmem2 (List.mem_of_getElem? (i := 52) rfl) rfl
theorem g2_53 : (Jvm.Cond.instanceMethod ({ cls := "JointedShadows$Script", name := "keepFirst", desc := "(I)V" } : Jvm.MethodName)) ∈ GT := gmem2 (List.mem_of_getElem? (i := 53) rfl) rfl
theorem g2_54 : (Jvm.Cond.selects "JointedShadows$Script" ({ cls := "JointedShadows$Script", name := "keepFirst", desc := "(I)V" } : Jvm.MethodName) ({ cls := "JointedShadows$Script", name := "keepFirst", desc := "(I)V" } : Jvm.MethodName)) ∈ GT := gmem2 (List.mem_of_getElem? (i := 54) rfl) rfl
theorem g2_55 : (Jvm.Cond.code ({ cls := "JointedShadows$Script", name := "keepFirst", desc := "(I)V" } : Jvm.MethodName) prog_6_method_4_code (5 : Nat) (Option.none : Option Jvm.ClassFile.FieldType)) ∈ GT := gmem2 (List.mem_of_getElem? (i := 55) rfl) rfl
theorem g2_56 : (Jvm.Cond.methodLink "JointedShadowsLaw" (45 : Nat) ({ cls := "JointedShadows", name := "position", desc := "(IIII)J" } : Jvm.MethodName)) ∈ GT := gmem2 (List.mem_of_getElem? (i := 56) rfl) rfl
theorem g2_57 : (Jvm.Cond.instanceMethod ({ cls := "JointedShadows", name := "position", desc := "(IIII)J" } : Jvm.MethodName)) ∈ GT := gmem2 (List.mem_of_getElem? (i := 57) rfl) rfl
theorem g2_58 : (Jvm.Cond.selects "JointedShadows" ({ cls := "JointedShadows", name := "position", desc := "(IIII)J" } : Jvm.MethodName) ({ cls := "JointedShadows", name := "position", desc := "(IIII)J" } : Jvm.MethodName)) ∈ GT := gmem2 (List.mem_of_getElem? (i := 58) rfl) rfl
theorem g2_59 : (Jvm.Cond.code ({ cls := "JointedShadows", name := "position", desc := "(IIII)J" } : Jvm.MethodName) prog_1_method_9_code (6 : Nat) (Option.some Jvm.ClassFile.FieldType.long)) ∈ GT := gmem2 (List.mem_of_getElem? (i := 59) rfl) rfl
theorem g2_60 : (Jvm.Cond.constantLong "JointedShadows" (114 : Nat) (-9223372036854775808 : Int64)) ∈ GT := gmem2 (List.mem_of_getElem? (i := 60) rfl) rfl
theorem g2_61 : (Jvm.Cond.methodLink "JointedShadows" (116 : Nat) ({ cls := "JointedShadows$Pose", name := "take", desc := "(LJointedShadows$Figure;LJointedShadows$Script;II)LJointedShadows$Pose;" } : Jvm.MethodName)) ∈ GT := gmem2 (List.mem_of_getElem? (i := 61) rfl) rfl
theorem g2_62 : (Jvm.Cond.instanceMethod ({ cls := "JointedShadows$Pose", name := "take", desc := "(LJointedShadows$Figure;LJointedShadows$Script;II)LJointedShadows$Pose;" } : Jvm.MethodName)) ∈ GT := gmem2 (List.mem_of_getElem? (i := 62) rfl) rfl
theorem g2_63 : (Jvm.Cond.selects "JointedShadows$Pose" ({ cls := "JointedShadows$Pose", name := "take", desc := "(LJointedShadows$Figure;LJointedShadows$Script;II)LJointedShadows$Pose;" } : Jvm.MethodName) ({ cls := "JointedShadows$Pose", name := "take", desc := "(LJointedShadows$Figure;LJointedShadows$Script;II)LJointedShadows$Pose;" } : Jvm.MethodName)) ∈ GT := gmem2 (List.mem_of_getElem? (i := 63) rfl) rfl
theorem g2_64 : (Jvm.Cond.code ({ cls := "JointedShadows$Pose", name := "take", desc := "(LJointedShadows$Figure;LJointedShadows$Script;II)LJointedShadows$Pose;" } : Jvm.MethodName) prog_4_method_2_code (9 : Nat) (Option.some (Jvm.ClassFile.FieldType.object "JointedShadows$Pose"))) ∈ GT := gmem2 (List.mem_of_getElem? (i := 64) rfl) rfl
theorem g2_65 : (Jvm.Cond.methodLink "JointedShadows$Pose" (40 : Nat) ({ cls := "JointedShadows$Pose", name := "stand", desc := "(LJointedShadows$Figure;I)V" } : Jvm.MethodName)) ∈ GT := gmem2 (List.mem_of_getElem? (i := 65) rfl) rfl
theorem g2_67 : (Jvm.Cond.instanceMethod ({ cls := "JointedShadows$Pose", name := "stand", desc := "(LJointedShadows$Figure;I)V" } : Jvm.MethodName)) ∈ GT := gmem2 (List.mem_of_getElem? (i := 67) rfl) rfl
theorem g2_68 : (Jvm.Cond.code ({ cls := "JointedShadows$Pose", name := "stand", desc := "(LJointedShadows$Figure;I)V" } : Jvm.MethodName) prog_4_method_3_code (3 : Nat) (Option.none : Option Jvm.ClassFile.FieldType)) ∈ GT := gmem2 (List.mem_of_getElem? (i := 68) rfl) rfl
theorem g2_69 : (Jvm.Cond.methodLink "JointedShadows$Pose" (83 : Nat) ({ cls := "java/lang/Math", name := "min", desc := "(II)I" } : Jvm.MethodName)) ∈ GT := gmem2 (List.mem_of_getElem? (i := 69) rfl) rfl
theorem g2_70 : (Jvm.Cond.static ({ cls := "java/lang/Math", name := "min", desc := "(II)I" } : Jvm.MethodName)) ∈ GT := gmem2 (List.mem_of_getElem? (i := 70) rfl) rfl
theorem g2_71 : (Jvm.Cond.code ({ cls := "java/lang/Math", name := "min", desc := "(II)I" } : Jvm.MethodName) prog_12_method_69_code (2 : Nat) (Option.some Jvm.ClassFile.FieldType.int)) ∈ GT := gmem2 (List.mem_of_getElem? (i := 71) rfl) rfl
theorem g2_72 : (Jvm.Cond.methodLink "JointedShadows$Pose" (90 : Nat) ({ cls := "java/lang/System", name := "arraycopy", desc := "(Ljava/lang/Object;ILjava/lang/Object;II)V" } : Jvm.MethodName)) ∈ GT := gmem2 (List.mem_of_getElem? (i := 72) rfl) rfl
theorem g2_73 : (Jvm.Cond.static ({ cls := "java/lang/System", name := "arraycopy", desc := "(Ljava/lang/Object;ILjava/lang/Object;II)V" } : Jvm.MethodName)) ∈ GT := gmem2 (List.mem_of_getElem? (i := 73) rfl) rfl
theorem g2_74 : (Jvm.Cond.native ({ cls := "java/lang/System", name := "arraycopy", desc := "(Ljava/lang/Object;ILjava/lang/Object;II)V" } : Jvm.MethodName)) ∈ GT := gmem2 (List.mem_of_getElem? (i := 74) rfl) rfl
theorem g2_75 : (Jvm.Cond.methodLink "JointedShadows$Pose" (63 : Nat) ({ cls := "JointedShadows$Pose", name := "follow", desc := "(LJointedShadows$Move;I)V" } : Jvm.MethodName)) ∈ GT := gmem2 (List.mem_of_getElem? (i := 75) rfl) rfl
theorem g2_77 : (Jvm.Cond.instanceMethod ({ cls := "JointedShadows$Pose", name := "follow", desc := "(LJointedShadows$Move;I)V" } : Jvm.MethodName)) ∈ GT := gmem2 (List.mem_of_getElem? (i := 77) rfl) rfl
theorem g2_78 : (Jvm.Cond.code ({ cls := "JointedShadows$Pose", name := "follow", desc := "(LJointedShadows$Move;I)V" } : Jvm.MethodName) prog_4_method_4_code (3 : Nat) (Option.none : Option Jvm.ClassFile.FieldType)) ∈ GT := gmem2 (List.mem_of_getElem? (i := 78) rfl) rfl
theorem g2_79 : (Jvm.Cond.methodLink "JointedShadows$Pose" (108 : Nat) ({ cls := "java/lang/Math", name := "max", desc := "(II)I" } : Jvm.MethodName)) ∈ GT := gmem2 (List.mem_of_getElem? (i := 79) rfl) rfl
theorem g2_80 : (Jvm.Cond.static ({ cls := "java/lang/Math", name := "max", desc := "(II)I" } : Jvm.MethodName)) ∈ GT := gmem2 (List.mem_of_getElem? (i := 80) rfl) rfl
theorem g2_81 : (Jvm.Cond.code ({ cls := "java/lang/Math", name := "max", desc := "(II)I" } : Jvm.MethodName) prog_12_method_65_code (2 : Nat) (Option.some Jvm.ClassFile.FieldType.int)) ∈ GT := gmem2 (List.mem_of_getElem? (i := 81) rfl) rfl
theorem g2_82 : (Jvm.Cond.methodLink "JointedShadows$Pose" (67 : Nat) ({ cls := "JointedShadows$Pose", name := "layPoints", desc := "(LJointedShadows$Figure;)V" } : Jvm.MethodName)) ∈ GT := gmem2 (List.mem_of_getElem? (i := 82) rfl) rfl
theorem g2_84 : (Jvm.Cond.instanceMethod ({ cls := "JointedShadows$Pose", name := "layPoints", desc := "(LJointedShadows$Figure;)V" } : Jvm.MethodName)) ∈ GT := gmem2 (List.mem_of_getElem? (i := 84) rfl) rfl
theorem g2_85 : (Jvm.Cond.code ({ cls := "JointedShadows$Pose", name := "layPoints", desc := "(LJointedShadows$Figure;)V" } : Jvm.MethodName) prog_4_method_5_code (6 : Nat) (Option.none : Option Jvm.ClassFile.FieldType)) ∈ GT := gmem2 (List.mem_of_getElem? (i := 85) rfl) rfl
theorem g2_86 : (Jvm.Cond.methodLink "JointedShadows$Pose" (114 : Nat) ({ cls := "JointedShadows$Figure", name := "start", desc := "(I)I" } : Jvm.MethodName)) ∈ GT := gmem2 (List.mem_of_getElem? (i := 86) rfl) rfl
theorem g2_87 : (Jvm.Cond.instanceMethod ({ cls := "JointedShadows$Figure", name := "start", desc := "(I)I" } : Jvm.MethodName)) ∈ GT := gmem2 (List.mem_of_getElem? (i := 87) rfl) rfl
theorem g2_88 : (Jvm.Cond.selects "JointedShadows$Figure" ({ cls := "JointedShadows$Figure", name := "start", desc := "(I)I" } : Jvm.MethodName) ({ cls := "JointedShadows$Figure", name := "start", desc := "(I)I" } : Jvm.MethodName)) ∈ GT := gmem2 (List.mem_of_getElem? (i := 88) rfl) rfl
theorem g2_89 : (Jvm.Cond.code ({ cls := "JointedShadows$Figure", name := "start", desc := "(I)I" } : Jvm.MethodName) prog_2_method_4_code (2 : Nat) (Option.some Jvm.ClassFile.FieldType.int)) ∈ GT := gmem2 (List.mem_of_getElem? (i := 89) rfl) rfl
theorem g2_90 : (Jvm.Cond.methodLink "JointedShadows$Pose" (118 : Nat) ({ cls := "java/lang/Math", name := "floorMod", desc := "(II)I" } : Jvm.MethodName)) ∈ GT := gmem2 (List.mem_of_getElem? (i := 90) rfl) rfl
theorem g2_91 : (Jvm.Cond.static ({ cls := "java/lang/Math", name := "floorMod", desc := "(II)I" } : Jvm.MethodName)) ∈ GT := gmem2 (List.mem_of_getElem? (i := 91) rfl) rfl
theorem g2_92 : (Jvm.Cond.code ({ cls := "java/lang/Math", name := "floorMod", desc := "(II)I" } : Jvm.MethodName) prog_12_method_50_code (3 : Nat) (Option.some Jvm.ClassFile.FieldType.int)) ∈ GT := gmem2 (List.mem_of_getElem? (i := 92) rfl) rfl
theorem g2_97 : (Jvm.Cond.methodLink "JointedShadows$Pose" (74 : Nat) ({ cls := "JointedShadows$Pose", name := "layBox", desc := "(I)V" } : Jvm.MethodName)) ∈ GT := gmem2 (List.mem_of_getElem? (i := 97) rfl) rfl
theorem g2_99 : (Jvm.Cond.instanceMethod ({ cls := "JointedShadows$Pose", name := "layBox", desc := "(I)V" } : Jvm.MethodName)) ∈ GT := gmem2 (List.mem_of_getElem? (i := 99) rfl) rfl
theorem g2_100 : (Jvm.Cond.code ({ cls := "JointedShadows$Pose", name := "layBox", desc := "(I)V" } : Jvm.MethodName) prog_4_method_6_code (3 : Nat) (Option.none : Option Jvm.ClassFile.FieldType)) ∈ GT := gmem2 (List.mem_of_getElem? (i := 100) rfl) rfl
theorem g2_101 : (Jvm.Cond.methodLink "JointedShadowsLaw" (50 : Nat) ({ cls := "JointedShadows", name := "box", desc := "(IIII)J" } : Jvm.MethodName)) ∈ GT := gmem2 (List.mem_of_getElem? (i := 101) rfl) rfl
theorem g2_102 : (Jvm.Cond.instanceMethod ({ cls := "JointedShadows", name := "box", desc := "(IIII)J" } : Jvm.MethodName)) ∈ GT := gmem2 (List.mem_of_getElem? (i := 102) rfl) rfl
theorem g2_103 : (Jvm.Cond.selects "JointedShadows" ({ cls := "JointedShadows", name := "box", desc := "(IIII)J" } : Jvm.MethodName) ({ cls := "JointedShadows", name := "box", desc := "(IIII)J" } : Jvm.MethodName)) ∈ GT := gmem2 (List.mem_of_getElem? (i := 103) rfl) rfl
theorem g2_104 : (Jvm.Cond.code ({ cls := "JointedShadows", name := "box", desc := "(IIII)J" } : Jvm.MethodName) prog_1_method_10_code (8 : Nat) (Option.some Jvm.ClassFile.FieldType.long)) ∈ GT := gmem2 (List.mem_of_getElem? (i := 104) rfl) rfl
theorem g2_105 : (Jvm.Cond.methodLink "JointedShadows" (133 : Nat) ({ cls := "JointedShadows$Pose", name := "measure", desc := "(I)I" } : Jvm.MethodName)) ∈ GT := gmem2 (List.mem_of_getElem? (i := 105) rfl) rfl
theorem g2_106 : (Jvm.Cond.instanceMethod ({ cls := "JointedShadows$Pose", name := "measure", desc := "(I)I" } : Jvm.MethodName)) ∈ GT := gmem2 (List.mem_of_getElem? (i := 106) rfl) rfl
theorem g2_107 : (Jvm.Cond.selects "JointedShadows$Pose" ({ cls := "JointedShadows$Pose", name := "measure", desc := "(I)I" } : Jvm.MethodName) ({ cls := "JointedShadows$Pose", name := "measure", desc := "(I)I" } : Jvm.MethodName)) ∈ GT := gmem2 (List.mem_of_getElem? (i := 107) rfl) rfl
theorem g2_108 : (Jvm.Cond.code ({ cls := "JointedShadows$Pose", name := "measure", desc := "(I)I" } : Jvm.MethodName) prog_4_method_8_code (2 : Nat) (Option.some Jvm.ClassFile.FieldType.int)) ∈ GT := gmem2 (List.mem_of_getElem? (i := 108) rfl) rfl
theorem g2_109 : (Jvm.Cond.methodLink "JointedShadows$Pose" (130 : Nat) ({ cls := "JointedShadows$Pose", name := "height", desc := "()I" } : Jvm.MethodName)) ∈ GT := gmem2 (List.mem_of_getElem? (i := 109) rfl) rfl
theorem g2_110 : (Jvm.Cond.instanceMethod ({ cls := "JointedShadows$Pose", name := "height", desc := "()I" } : Jvm.MethodName)) ∈ GT := gmem2 (List.mem_of_getElem? (i := 110) rfl) rfl
theorem g2_111 : (Jvm.Cond.selects "JointedShadows$Pose" ({ cls := "JointedShadows$Pose", name := "height", desc := "()I" } : Jvm.MethodName) ({ cls := "JointedShadows$Pose", name := "height", desc := "()I" } : Jvm.MethodName)) ∈ GT := gmem2 (List.mem_of_getElem? (i := 111) rfl) rfl
theorem g2_112 : (Jvm.Cond.code ({ cls := "JointedShadows$Pose", name := "height", desc := "()I" } : Jvm.MethodName) prog_4_method_7_code (1 : Nat) (Option.some Jvm.ClassFile.FieldType.int)) ∈ GT := gmem2 (List.mem_of_getElem? (i := 112) rfl) rfl
theorem g2_113 : (Jvm.Cond.methodLink "JointedShadows" (137 : Nat) ({ cls := "JointedShadows", name := "partOfFraction", desc := "(JJI)J" } : Jvm.MethodName)) ∈ GT := gmem2 (List.mem_of_getElem? (i := 113) rfl) rfl
theorem g2_114 : (Jvm.Cond.static ({ cls := "JointedShadows", name := "partOfFraction", desc := "(JJI)J" } : Jvm.MethodName)) ∈ GT := gmem2 (List.mem_of_getElem? (i := 114) rfl) rfl
theorem g2_115 : (Jvm.Cond.code ({ cls := "JointedShadows", name := "partOfFraction", desc := "(JJI)J" } : Jvm.MethodName) prog_1_method_32_code (7 : Nat) (Option.some Jvm.ClassFile.FieldType.long)) ∈ GT := gmem2 (List.mem_of_getElem? (i := 115) rfl) rfl
theorem g2_116 : (Jvm.Cond.methodLink "JointedShadows" (227 : Nat) ({ cls := "java/lang/Math", name := "abs", desc := "(J)J" } : Jvm.MethodName)) ∈ GT := gmem2 (List.mem_of_getElem? (i := 116) rfl) rfl
theorem g2_117 : (Jvm.Cond.static ({ cls := "java/lang/Math", name := "abs", desc := "(J)J" } : Jvm.MethodName)) ∈ GT := gmem2 (List.mem_of_getElem? (i := 117) rfl) rfl
theorem g2_118 : (Jvm.Cond.code ({ cls := "java/lang/Math", name := "abs", desc := "(J)J" } : Jvm.MethodName) prog_12_method_61_code (2 : Nat) (Option.some Jvm.ClassFile.FieldType.long)) ∈ GT := gmem2 (List.mem_of_getElem? (i := 118) rfl) rfl
theorem g2_119 : (Jvm.Cond.methodLink "JointedShadows" (231 : Nat) ({ cls := "JointedShadows", name := "commonDivisor", desc := "(JJ)J" } : Jvm.MethodName)) ∈ GT := gmem2 (List.mem_of_getElem? (i := 119) rfl) rfl
theorem g2_120 : (Jvm.Cond.static ({ cls := "JointedShadows", name := "commonDivisor", desc := "(JJ)J" } : Jvm.MethodName)) ∈ GT := gmem2 (List.mem_of_getElem? (i := 120) rfl) rfl
theorem g2_121 : (Jvm.Cond.code ({ cls := "JointedShadows", name := "commonDivisor", desc := "(JJ)J" } : Jvm.MethodName) prog_1_method_33_code (11 : Nat) (Option.some Jvm.ClassFile.FieldType.long)) ∈ GT := gmem2 (List.mem_of_getElem? (i := 121) rfl) rfl
theorem g2_122 : (Jvm.Cond.methodLink "JointedShadows" (157 : Nat) ({ cls := "java/lang/Math", name := "max", desc := "(JJ)J" } : Jvm.MethodName)) ∈ GT := gmem2 (List.mem_of_getElem? (i := 122) rfl) rfl
theorem g2_123 : (Jvm.Cond.static ({ cls := "java/lang/Math", name := "max", desc := "(JJ)J" } : Jvm.MethodName)) ∈ GT := gmem2 (List.mem_of_getElem? (i := 123) rfl) rfl
theorem g2_124 : (Jvm.Cond.code ({ cls := "java/lang/Math", name := "max", desc := "(JJ)J" } : Jvm.MethodName) prog_12_method_66_code (4 : Nat) (Option.some Jvm.ClassFile.FieldType.long)) ∈ GT := gmem2 (List.mem_of_getElem? (i := 124) rfl) rfl
theorem g2_125 : (Jvm.Cond.methodLink "JointedShadowsLaw" (54 : Nat) ({ cls := "JointedShadows", name := "overlap", desc := "(IIII)J" } : Jvm.MethodName)) ∈ GT := gmem2 (List.mem_of_getElem? (i := 125) rfl) rfl
theorem g2_126 : (Jvm.Cond.instanceMethod ({ cls := "JointedShadows", name := "overlap", desc := "(IIII)J" } : Jvm.MethodName)) ∈ GT := gmem2 (List.mem_of_getElem? (i := 126) rfl) rfl
theorem g2_127 : (Jvm.Cond.selects "JointedShadows" ({ cls := "JointedShadows", name := "overlap", desc := "(IIII)J" } : Jvm.MethodName) ({ cls := "JointedShadows", name := "overlap", desc := "(IIII)J" } : Jvm.MethodName)) ∈ GT := gmem2 (List.mem_of_getElem? (i := 127) rfl) rfl
theorem g2_128 : (Jvm.Cond.code ({ cls := "JointedShadows", name := "overlap", desc := "(IIII)J" } : Jvm.MethodName) prog_1_method_11_code (17 : Nat) (Option.some Jvm.ClassFile.FieldType.long)) ∈ GT := gmem2 (List.mem_of_getElem? (i := 128) rfl) rfl
theorem g2_129 : (Jvm.Cond.methodLink "JointedShadows" (141 : Nat) ({ cls := "JointedShadows", name := "takePoses", desc := "(LJointedShadows$Figure;LJointedShadows$Figure;I)V" } : Jvm.MethodName)) ∈ GT := gmem2 (List.mem_of_getElem? (i := 129) rfl) rfl
theorem g2_131 : (Jvm.Cond.instanceMethod ({ cls := "JointedShadows", name := "takePoses", desc := "(LJointedShadows$Figure;LJointedShadows$Figure;I)V" } : Jvm.MethodName)) ∈ GT := gmem2 (List.mem_of_getElem? (i := 131) rfl) rfl
theorem g2_132 : (Jvm.Cond.code ({ cls := "JointedShadows", name := "takePoses", desc := "(LJointedShadows$Figure;LJointedShadows$Figure;I)V" } : Jvm.MethodName) prog_1_method_30_code (4 : Nat) (Option.none : Option Jvm.ClassFile.FieldType)) ∈ GT := gmem2 (List.mem_of_getElem? (i := 132) rfl) rfl
theorem g2_133 : (Jvm.Cond.methodLink "JointedShadows" (148 : Nat) ({ cls := "java/lang/Math", name := "min", desc := "(JJ)J" } : Jvm.MethodName)) ∈ GT := gmem2 (List.mem_of_getElem? (i := 133) rfl) rfl
theorem g2_134 : (Jvm.Cond.static ({ cls := "java/lang/Math", name := "min", desc := "(JJ)J" } : Jvm.MethodName)) ∈ GT := gmem2 (List.mem_of_getElem? (i := 134) rfl) rfl
theorem g2_135 : (Jvm.Cond.code ({ cls := "java/lang/Math", name := "min", desc := "(JJ)J" } : Jvm.MethodName) prog_12_method_70_code (4 : Nat) (Option.some Jvm.ClassFile.FieldType.long)) ∈ GT := gmem2 (List.mem_of_getElem? (i := 135) rfl) rfl
theorem g2_136 : (Jvm.Cond.methodLink "JointedShadowsLaw" (58 : Nat) ({ cls := "JointedShadows", name := "crossings", desc := "(III)I" } : Jvm.MethodName)) ∈ GT := gmem2 (List.mem_of_getElem? (i := 136) rfl) rfl
theorem g2_137 : (Jvm.Cond.instanceMethod ({ cls := "JointedShadows", name := "crossings", desc := "(III)I" } : Jvm.MethodName)) ∈ GT := gmem2 (List.mem_of_getElem? (i := 137) rfl) rfl
theorem g2_138 : (Jvm.Cond.selects "JointedShadows" ({ cls := "JointedShadows", name := "crossings", desc := "(III)I" } : Jvm.MethodName) ({ cls := "JointedShadows", name := "crossings", desc := "(III)I" } : Jvm.MethodName)) ∈ GT := gmem2 (List.mem_of_getElem? (i := 138) rfl) rfl
theorem g2_139 : (Jvm.Cond.code ({ cls := "JointedShadows", name := "crossings", desc := "(III)I" } : Jvm.MethodName) prog_1_method_12_code (6 : Nat) (Option.some Jvm.ClassFile.FieldType.int)) ∈ GT := gmem2 (List.mem_of_getElem? (i := 139) rfl) rfl
theorem g2_140 : (Jvm.Cond.methodLink "JointedShadows" (166 : Nat) ({ cls := "JointedShadows", name := "crossingLimbs", desc := "(LJointedShadows$Figure;LJointedShadows$Figure;I)I" } : Jvm.MethodName)) ∈ GT := gmem2 (List.mem_of_getElem? (i := 140) rfl) rfl
theorem g2_142 : (Jvm.Cond.instanceMethod ({ cls := "JointedShadows", name := "crossingLimbs", desc := "(LJointedShadows$Figure;LJointedShadows$Figure;I)I" } : Jvm.MethodName)) ∈ GT := gmem2 (List.mem_of_getElem? (i := 142) rfl) rfl
theorem g2_143 : (Jvm.Cond.code ({ cls := "JointedShadows", name := "crossingLimbs", desc := "(LJointedShadows$Figure;LJointedShadows$Figure;I)I" } : Jvm.MethodName) prog_1_method_31_code (7 : Nat) (Option.some Jvm.ClassFile.FieldType.int)) ∈ GT := gmem2 (List.mem_of_getElem? (i := 143) rfl) rfl
theorem g2_144 : (Jvm.Cond.methodLink "JointedShadows" (216 : Nat) ({ cls := "JointedShadows$Figure", name := "start", desc := "(I)I" } : Jvm.MethodName)) ∈ GT := gmem2 (List.mem_of_getElem? (i := 144) rfl) rfl
theorem g2_145 : (Jvm.Cond.methodLink "JointedShadows" (219 : Nat) ({ cls := "JointedShadows$Segment", name := "lay", desc := "(LJointedShadows$Pose;III)V" } : Jvm.MethodName)) ∈ GT := gmem2 (List.mem_of_getElem? (i := 145) rfl) rfl
theorem g2_146 : (Jvm.Cond.instanceMethod ({ cls := "JointedShadows$Segment", name := "lay", desc := "(LJointedShadows$Pose;III)V" } : Jvm.MethodName)) ∈ GT := gmem2 (List.mem_of_getElem? (i := 146) rfl) rfl
theorem g2_147 : (Jvm.Cond.selects "JointedShadows$Segment" ({ cls := "JointedShadows$Segment", name := "lay", desc := "(LJointedShadows$Pose;III)V" } : Jvm.MethodName) ({ cls := "JointedShadows$Segment", name := "lay", desc := "(LJointedShadows$Pose;III)V" } : Jvm.MethodName)) ∈ GT := gmem2 (List.mem_of_getElem? (i := 147) rfl) rfl
theorem g2_148 : (Jvm.Cond.code ({ cls := "JointedShadows$Segment", name := "lay", desc := "(LJointedShadows$Pose;III)V" } : Jvm.MethodName) prog_7_method_2_code (5 : Nat) (Option.none : Option Jvm.ClassFile.FieldType)) ∈ GT := gmem2 (List.mem_of_getElem? (i := 148) rfl) rfl
theorem g2_149 : (Jvm.Cond.methodLink "JointedShadows" (223 : Nat) ({ cls := "JointedShadows$Segment", name := "meets", desc := "(LJointedShadows$Segment;)Z" } : Jvm.MethodName)) ∈ GT := gmem2 (List.mem_of_getElem? (i := 149) rfl) rfl
theorem g2_150 : (Jvm.Cond.instanceMethod ({ cls := "JointedShadows$Segment", name := "meets", desc := "(LJointedShadows$Segment;)Z" } : Jvm.MethodName)) ∈ GT := gmem2 (List.mem_of_getElem? (i := 150) rfl) rfl
theorem g2_151 : (Jvm.Cond.selects "JointedShadows$Segment" ({ cls := "JointedShadows$Segment", name := "meets", desc := "(LJointedShadows$Segment;)Z" } : Jvm.MethodName) ({ cls := "JointedShadows$Segment", name := "meets", desc := "(LJointedShadows$Segment;)Z" } : Jvm.MethodName)) ∈ GT := gmem2 (List.mem_of_getElem? (i := 151) rfl) rfl
theorem g2_152 : (Jvm.Cond.code ({ cls := "JointedShadows$Segment", name := "meets", desc := "(LJointedShadows$Segment;)Z" } : Jvm.MethodName) prog_7_method_3_code (2 : Nat) (Option.some Jvm.ClassFile.FieldType.boolean)) ∈ GT := gmem2 (List.mem_of_getElem? (i := 152) rfl) rfl
theorem g2_153 : (Jvm.Cond.methodLink "JointedShadows$Segment" (31 : Nat) ({ cls := "JointedShadows$Segment", name := "rangesMeet", desc := "(JJJJ)Z" } : Jvm.MethodName)) ∈ GT := gmem2 (List.mem_of_getElem? (i := 153) rfl) rfl
theorem g2_154 : (Jvm.Cond.static ({ cls := "JointedShadows$Segment", name := "rangesMeet", desc := "(JJJJ)Z" } : Jvm.MethodName)) ∈ GT := gmem2 (List.mem_of_getElem? (i := 154) rfl) rfl
theorem g2_155 : (Jvm.Cond.code ({ cls := "JointedShadows$Segment", name := "rangesMeet", desc := "(JJJJ)Z" } : Jvm.MethodName) prog_7_method_4_code (8 : Nat) (Option.some Jvm.ClassFile.FieldType.boolean)) ∈ GT := gmem2 (List.mem_of_getElem? (i := 155) rfl) rfl
theorem g2_156 : (Jvm.Cond.methodLink "JointedShadows$Segment" (39 : Nat) ({ cls := "java/lang/Math", name := "max", desc := "(JJ)J" } : Jvm.MethodName)) ∈ GT := gmem2 (List.mem_of_getElem? (i := 156) rfl) rfl
theorem g2_157 : (Jvm.Cond.methodLink "JointedShadows$Segment" (45 : Nat) ({ cls := "java/lang/Math", name := "min", desc := "(JJ)J" } : Jvm.MethodName)) ∈ GT := gmem2 (List.mem_of_getElem? (i := 157) rfl) rfl
theorem g2_158 : (Jvm.Cond.methodLink "JointedShadows$Segment" (35 : Nat) ({ cls := "JointedShadows$Segment", name := "lineMeets", desc := "(LJointedShadows$Segment;)Z" } : Jvm.MethodName)) ∈ GT := gmem2 (List.mem_of_getElem? (i := 158) rfl) rfl
theorem g2_160 : (Jvm.Cond.instanceMethod ({ cls := "JointedShadows$Segment", name := "lineMeets", desc := "(LJointedShadows$Segment;)Z" } : Jvm.MethodName)) ∈ GT := gmem2 (List.mem_of_getElem? (i := 160) rfl) rfl
theorem g2_161 : (Jvm.Cond.code ({ cls := "JointedShadows$Segment", name := "lineMeets", desc := "(LJointedShadows$Segment;)Z" } : Jvm.MethodName) prog_7_method_5_code (2 : Nat) (Option.some Jvm.ClassFile.FieldType.boolean)) ∈ GT := gmem2 (List.mem_of_getElem? (i := 161) rfl) rfl
theorem g2_162 : (Jvm.Cond.methodLink "JointedShadows$Segment" (48 : Nat) ({ cls := "JointedShadows$Segment", name := "side", desc := "(JJ)I" } : Jvm.MethodName)) ∈ GT := gmem2 (List.mem_of_getElem? (i := 162) rfl) rfl
theorem g2_164 : (Jvm.Cond.instanceMethod ({ cls := "JointedShadows$Segment", name := "side", desc := "(JJ)I" } : Jvm.MethodName)) ∈ GT := gmem2 (List.mem_of_getElem? (i := 164) rfl) rfl
theorem g2_165 : (Jvm.Cond.code ({ cls := "JointedShadows$Segment", name := "side", desc := "(JJ)I" } : Jvm.MethodName) prog_7_method_6_code (7 : Nat) (Option.some Jvm.ClassFile.FieldType.int)) ∈ GT := gmem2 (List.mem_of_getElem? (i := 165) rfl) rfl
theorem g2_166 : (Jvm.Cond.methodLink "JointedShadows$Segment" (52 : Nat) ({ cls := "java/lang/Long", name := "compare", desc := "(JJ)I" } : Jvm.MethodName)) ∈ GT := gmem2 (List.mem_of_getElem? (i := 166) rfl) rfl
theorem g2_167 : (Jvm.Cond.static ({ cls := "java/lang/Long", name := "compare", desc := "(JJ)I" } : Jvm.MethodName)) ∈ GT := gmem2 (List.mem_of_getElem? (i := 167) rfl) rfl
theorem g2_168 : (Jvm.Cond.code ({ cls := "java/lang/Long", name := "compare", desc := "(JJ)I" } : Jvm.MethodName) prog_11_method_42_code (4 : Nat) (Option.some Jvm.ClassFile.FieldType.int)) ∈ GT := gmem2 (List.mem_of_getElem? (i := 168) rfl) rfl
theorem g2_169 : (Jvm.Cond.methodLink "JointedShadowsLaw" (62 : Nat) ({ cls := "JointedShadows", name := "nextCrossing", desc := "(III)I" } : Jvm.MethodName)) ∈ GT := gmem2 (List.mem_of_getElem? (i := 169) rfl) rfl
theorem g2_170 : (Jvm.Cond.instanceMethod ({ cls := "JointedShadows", name := "nextCrossing", desc := "(III)I" } : Jvm.MethodName)) ∈ GT := gmem2 (List.mem_of_getElem? (i := 170) rfl) rfl
theorem g2_171 : (Jvm.Cond.selects "JointedShadows" ({ cls := "JointedShadows", name := "nextCrossing", desc := "(III)I" } : Jvm.MethodName) ({ cls := "JointedShadows", name := "nextCrossing", desc := "(III)I" } : Jvm.MethodName)) ∈ GT := gmem2 (List.mem_of_getElem? (i := 171) rfl) rfl
theorem g2_172 : (Jvm.Cond.code ({ cls := "JointedShadows", name := "nextCrossing", desc := "(III)I" } : Jvm.MethodName) prog_1_method_13_code (8 : Nat) (Option.some Jvm.ClassFile.FieldType.int)) ∈ GT := gmem2 (List.mem_of_getElem? (i := 172) rfl) rfl
theorem g2_173 : (Jvm.Cond.methodLink "JointedShadows" (170 : Nat) ({ cls := "JointedShadows$Script", name := "hasMoveIn", desc := "(I)Z" } : Jvm.MethodName)) ∈ GT := gmem2 (List.mem_of_getElem? (i := 173) rfl) rfl
theorem g2_174 : (Jvm.Cond.instanceMethod ({ cls := "JointedShadows$Script", name := "hasMoveIn", desc := "(I)Z" } : Jvm.MethodName)) ∈ GT := gmem2 (List.mem_of_getElem? (i := 174) rfl) rfl
theorem g2_175 : (Jvm.Cond.selects "JointedShadows$Script" ({ cls := "JointedShadows$Script", name := "hasMoveIn", desc := "(I)Z" } : Jvm.MethodName) ({ cls := "JointedShadows$Script", name := "hasMoveIn", desc := "(I)Z" } : Jvm.MethodName)) ∈ GT := gmem2 (List.mem_of_getElem? (i := 175) rfl) rfl
theorem g2_176 : (Jvm.Cond.code ({ cls := "JointedShadows$Script", name := "hasMoveIn", desc := "(I)Z" } : Jvm.MethodName) prog_6_method_5_code (6 : Nat) (Option.some Jvm.ClassFile.FieldType.boolean)) ∈ GT := gmem2 (List.mem_of_getElem? (i := 176) rfl) rfl
theorem g2_177 : (Jvm.Cond.methodLink "JointedShadowsLaw" (66 : Nat) ({ cls := "JointedShadows", name := "within", desc := "(III)I" } : Jvm.MethodName)) ∈ GT := gmem2 (List.mem_of_getElem? (i := 177) rfl) rfl
theorem g2_178 : (Jvm.Cond.instanceMethod ({ cls := "JointedShadows", name := "within", desc := "(III)I" } : Jvm.MethodName)) ∈ GT := gmem2 (List.mem_of_getElem? (i := 178) rfl) rfl
theorem g2_179 : (Jvm.Cond.selects "JointedShadows" ({ cls := "JointedShadows", name := "within", desc := "(III)I" } : Jvm.MethodName) ({ cls := "JointedShadows", name := "within", desc := "(III)I" } : Jvm.MethodName)) ∈ GT := gmem2 (List.mem_of_getElem? (i := 179) rfl) rfl
theorem g2_180 : (Jvm.Cond.code ({ cls := "JointedShadows", name := "within", desc := "(III)I" } : Jvm.MethodName) prog_1_method_14_code (9 : Nat) (Option.some Jvm.ClassFile.FieldType.int)) ∈ GT := gmem2 (List.mem_of_getElem? (i := 180) rfl) rfl
theorem g2_181 : (Jvm.Cond.methodLink "JointedShadows" (173 : Nat) ({ cls := "JointedShadows$Pose", name := "isWithin", desc := "(III)Z" } : Jvm.MethodName)) ∈ GT := gmem2 (List.mem_of_getElem? (i := 181) rfl) rfl
theorem g2_182 : (Jvm.Cond.instanceMethod ({ cls := "JointedShadows$Pose", name := "isWithin", desc := "(III)Z" } : Jvm.MethodName)) ∈ GT := gmem2 (List.mem_of_getElem? (i := 182) rfl) rfl
theorem g2_183 : (Jvm.Cond.selects "JointedShadows$Pose" ({ cls := "JointedShadows$Pose", name := "isWithin", desc := "(III)Z" } : Jvm.MethodName) ({ cls := "JointedShadows$Pose", name := "isWithin", desc := "(III)Z" } : Jvm.MethodName)) ∈ GT := gmem2 (List.mem_of_getElem? (i := 183) rfl) rfl
theorem g2_184 : (Jvm.Cond.code ({ cls := "JointedShadows$Pose", name := "isWithin", desc := "(III)Z" } : Jvm.MethodName) prog_4_method_9_code (6 : Nat) (Option.some Jvm.ClassFile.FieldType.boolean)) ∈ GT := gmem2 (List.mem_of_getElem? (i := 184) rfl) rfl
theorem g2_185 : (Jvm.Cond.methodLink "JointedShadowsLaw" (70 : Nat) ({ cls := "JointedShadows", name := "highest", desc := "(I)I" } : Jvm.MethodName)) ∈ GT := gmem2 (List.mem_of_getElem? (i := 185) rfl) rfl
theorem g2_186 : (Jvm.Cond.instanceMethod ({ cls := "JointedShadows", name := "highest", desc := "(I)I" } : Jvm.MethodName)) ∈ GT := gmem2 (List.mem_of_getElem? (i := 186) rfl) rfl
theorem g2_187 : (Jvm.Cond.selects "JointedShadows" ({ cls := "JointedShadows", name := "highest", desc := "(I)I" } : Jvm.MethodName) ({ cls := "JointedShadows", name := "highest", desc := "(I)I" } : Jvm.MethodName)) ∈ GT := gmem2 (List.mem_of_getElem? (i := 187) rfl) rfl
theorem g2_188 : (Jvm.Cond.code ({ cls := "JointedShadows", name := "highest", desc := "(I)I" } : Jvm.MethodName) prog_1_method_15_code (7 : Nat) (Option.some Jvm.ClassFile.FieldType.int)) ∈ GT := gmem2 (List.mem_of_getElem? (i := 188) rfl) rfl
theorem g2_189 : (Jvm.Cond.methodLink "JointedShadows" (179 : Nat) ({ cls := "JointedShadows", name := "isHigher", desc := "(LJointedShadows$Figure;LJointedShadows$Figure;I)Z" } : Jvm.MethodName)) ∈ GT := gmem2 (List.mem_of_getElem? (i := 189) rfl) rfl
theorem g2_191 : (Jvm.Cond.instanceMethod ({ cls := "JointedShadows", name := "isHigher", desc := "(LJointedShadows$Figure;LJointedShadows$Figure;I)Z" } : Jvm.MethodName)) ∈ GT := gmem2 (List.mem_of_getElem? (i := 191) rfl) rfl
theorem g2_192 : (Jvm.Cond.code ({ cls := "JointedShadows", name := "isHigher", desc := "(LJointedShadows$Figure;LJointedShadows$Figure;I)Z" } : Jvm.MethodName) prog_1_method_29_code (4 : Nat) (Option.some Jvm.ClassFile.FieldType.boolean)) ∈ GT := gmem2 (List.mem_of_getElem? (i := 192) rfl) rfl
theorem g2_193 : (Jvm.Cond.methodLink "JointedShadows" (184 : Nat) ({ cls := "JointedShadows$Pose", name := "height", desc := "()I" } : Jvm.MethodName)) ∈ GT := gmem2 (List.mem_of_getElem? (i := 193) rfl) rfl
theorem g2_194 : (Jvm.Cond.methodLink "JointedShadowsLaw" (74 : Nat) ({ cls := "JointedShadows", name := "planeFor", desc := "(III)I" } : Jvm.MethodName)) ∈ GT := gmem2 (List.mem_of_getElem? (i := 194) rfl) rfl
theorem g2_195 : (Jvm.Cond.instanceMethod ({ cls := "JointedShadows", name := "planeFor", desc := "(III)I" } : Jvm.MethodName)) ∈ GT := gmem2 (List.mem_of_getElem? (i := 195) rfl) rfl
theorem g2_196 : (Jvm.Cond.selects "JointedShadows" ({ cls := "JointedShadows", name := "planeFor", desc := "(III)I" } : Jvm.MethodName) ({ cls := "JointedShadows", name := "planeFor", desc := "(III)I" } : Jvm.MethodName)) ∈ GT := gmem2 (List.mem_of_getElem? (i := 196) rfl) rfl
theorem g2_197 : (Jvm.Cond.code ({ cls := "JointedShadows", name := "planeFor", desc := "(III)I" } : Jvm.MethodName) prog_1_method_16_code (6 : Nat) (Option.some Jvm.ClassFile.FieldType.int)) ∈ GT := gmem2 (List.mem_of_getElem? (i := 197) rfl) rfl
theorem g2_198 : (Jvm.Cond.constant "JointedShadows" (183 : Nat) (100000 : Int32)) ∈ GT := gmem2 (List.mem_of_getElem? (i := 198) rfl) rfl
theorem g2_199 : (Jvm.Cond.methodLink "JointedShadows" (187 : Nat) ({ cls := "java/lang/Math", name := "min", desc := "(II)I" } : Jvm.MethodName)) ∈ GT := gmem2 (List.mem_of_getElem? (i := 199) rfl) rfl
theorem g2_200 : (Jvm.Cond.methodLink "JointedShadowsLaw" (78 : Nat) ({ cls := "JointedShadows", name := "hands", desc := "(I)I" } : Jvm.MethodName)) ∈ GT := gmem2 (List.mem_of_getElem? (i := 200) rfl) rfl
theorem g2_201 : (Jvm.Cond.instanceMethod ({ cls := "JointedShadows", name := "hands", desc := "(I)I" } : Jvm.MethodName)) ∈ GT := gmem2 (List.mem_of_getElem? (i := 201) rfl) rfl
theorem g2_202 : (Jvm.Cond.selects "JointedShadows" ({ cls := "JointedShadows", name := "hands", desc := "(I)I" } : Jvm.MethodName) ({ cls := "JointedShadows", name := "hands", desc := "(I)I" } : Jvm.MethodName)) ∈ GT := gmem2 (List.mem_of_getElem? (i := 202) rfl) rfl
theorem g2_203 : (Jvm.Cond.code ({ cls := "JointedShadows", name := "hands", desc := "(I)I" } : Jvm.MethodName) prog_1_method_17_code (2 : Nat) (Option.some Jvm.ClassFile.FieldType.int)) ∈ GT := gmem2 (List.mem_of_getElem? (i := 203) rfl) rfl
theorem g2_204 : (Jvm.Cond.methodLink "JointedShadows" (190 : Nat) ({ cls := "JointedShadows", name := "handsOfAll", desc := "(I)I" } : Jvm.MethodName)) ∈ GT := gmem2 (List.mem_of_getElem? (i := 204) rfl) rfl
theorem g2_206 : (Jvm.Cond.instanceMethod ({ cls := "JointedShadows", name := "handsOfAll", desc := "(I)I" } : Jvm.MethodName)) ∈ GT := gmem2 (List.mem_of_getElem? (i := 206) rfl) rfl
theorem g2_207 : (Jvm.Cond.code ({ cls := "JointedShadows", name := "handsOfAll", desc := "(I)I" } : Jvm.MethodName) prog_1_method_28_code (7 : Nat) (Option.some Jvm.ClassFile.FieldType.int)) ∈ GT := gmem2 (List.mem_of_getElem? (i := 207) rfl) rfl
theorem g2_208 : (Jvm.Cond.methodLink "JointedShadows" (193 : Nat) ({ cls := "JointedShadows$Script", name := "rodsMoved", desc := "(II)I" } : Jvm.MethodName)) ∈ GT := gmem2 (List.mem_of_getElem? (i := 208) rfl) rfl
theorem g2_209 : (Jvm.Cond.instanceMethod ({ cls := "JointedShadows$Script", name := "rodsMoved", desc := "(II)I" } : Jvm.MethodName)) ∈ GT := gmem2 (List.mem_of_getElem? (i := 209) rfl) rfl
theorem g2_210 : (Jvm.Cond.selects "JointedShadows$Script" ({ cls := "JointedShadows$Script", name := "rodsMoved", desc := "(II)I" } : Jvm.MethodName) ({ cls := "JointedShadows$Script", name := "rodsMoved", desc := "(II)I" } : Jvm.MethodName)) ∈ GT := gmem2 (List.mem_of_getElem? (i := 210) rfl) rfl
theorem g2_211 : (Jvm.Cond.code ({ cls := "JointedShadows$Script", name := "rodsMoved", desc := "(II)I" } : Jvm.MethodName) prog_6_method_6_code (8 : Nat) (Option.some Jvm.ClassFile.FieldType.int)) ∈ GT := gmem2 (List.mem_of_getElem? (i := 211) rfl) rfl
theorem g2_212 : (Jvm.Cond.methodLink "JointedShadows$Script" (37 : Nat) ({ cls := "JointedShadows$Script", name := "rodBit", desc := "(I)I" } : Jvm.MethodName)) ∈ GT := gmem2 (List.mem_of_getElem? (i := 212) rfl) rfl
theorem g2_213 : (Jvm.Cond.static ({ cls := "JointedShadows$Script", name := "rodBit", desc := "(I)I" } : Jvm.MethodName)) ∈ GT := gmem2 (List.mem_of_getElem? (i := 213) rfl) rfl
theorem g2_214 : (Jvm.Cond.code ({ cls := "JointedShadows$Script", name := "rodBit", desc := "(I)I" } : Jvm.MethodName) prog_6_method_7_code (1 : Nat) (Option.some Jvm.ClassFile.FieldType.int)) ∈ GT := gmem2 (List.mem_of_getElem? (i := 214) rfl) rfl
theorem g2_215 : (Jvm.Cond.methodLink "JointedShadows" (213 : Nat) ({ cls := "JointedShadows$Figure", name := "handsFor", desc := "(I)I" } : Jvm.MethodName)) ∈ GT := gmem2 (List.mem_of_getElem? (i := 215) rfl) rfl
theorem g2_216 : (Jvm.Cond.instanceMethod ({ cls := "JointedShadows$Figure", name := "handsFor", desc := "(I)I" } : Jvm.MethodName)) ∈ GT := gmem2 (List.mem_of_getElem? (i := 216) rfl) rfl
theorem g2_217 : (Jvm.Cond.selects "JointedShadows$Figure" ({ cls := "JointedShadows$Figure", name := "handsFor", desc := "(I)I" } : Jvm.MethodName) ({ cls := "JointedShadows$Figure", name := "handsFor", desc := "(I)I" } : Jvm.MethodName)) ∈ GT := gmem2 (List.mem_of_getElem? (i := 217) rfl) rfl
theorem g2_218 : (Jvm.Cond.code ({ cls := "JointedShadows$Figure", name := "handsFor", desc := "(I)I" } : Jvm.MethodName) prog_2_method_5_code (6 : Nat) (Option.some Jvm.ClassFile.FieldType.int)) ∈ GT := gmem2 (List.mem_of_getElem? (i := 218) rfl) rfl
theorem g2_219 : (Jvm.Cond.methodLink "JointedShadows$Figure" (41 : Nat) ({ cls := "java/lang/Integer", name := "bitCount", desc := "(I)I" } : Jvm.MethodName)) ∈ GT := gmem2 (List.mem_of_getElem? (i := 219) rfl) rfl
theorem g2_220 : (Jvm.Cond.static ({ cls := "java/lang/Integer", name := "bitCount", desc := "(I)I" } : Jvm.MethodName)) ∈ GT := gmem2 (List.mem_of_getElem? (i := 220) rfl) rfl
theorem g2_221 : (Jvm.Cond.code ({ cls := "java/lang/Integer", name := "bitCount", desc := "(I)I" } : Jvm.MethodName) prog_10_method_49_code (1 : Nat) (Option.some Jvm.ClassFile.FieldType.int)) ∈ GT := gmem2 (List.mem_of_getElem? (i := 221) rfl) rfl
theorem g2_222 : (Jvm.Cond.constant "java/lang/Integer" (265 : Nat) (1431655765 : Int32)) ∈ GT := gmem2 (List.mem_of_getElem? (i := 222) rfl) rfl
theorem g2_223 : (Jvm.Cond.constant "java/lang/Integer" (266 : Nat) (858993459 : Int32)) ∈ GT := gmem2 (List.mem_of_getElem? (i := 223) rfl) rfl
theorem g2_224 : (Jvm.Cond.constant "java/lang/Integer" (267 : Nat) (252645135 : Int32)) ∈ GT := gmem2 (List.mem_of_getElem? (i := 224) rfl) rfl
theorem g2_225 : (Jvm.Cond.methodLink "JointedShadows$Figure" (47 : Nat) ({ cls := "JointedShadows$Script", name := "rodBit", desc := "(I)I" } : Jvm.MethodName)) ∈ GT := gmem2 (List.mem_of_getElem? (i := 225) rfl) rfl
theorem g2_226 : (Jvm.Cond.methodLink "JointedShadowsLaw" (82 : Nat) ({ cls := "JointedShadows", name := "busiestBeat", desc := "()I" } : Jvm.MethodName)) ∈ GT := gmem2 (List.mem_of_getElem? (i := 226) rfl) rfl
theorem g2_227 : (Jvm.Cond.instanceMethod ({ cls := "JointedShadows", name := "busiestBeat", desc := "()I" } : Jvm.MethodName)) ∈ GT := gmem2 (List.mem_of_getElem? (i := 227) rfl) rfl
theorem g2_228 : (Jvm.Cond.selects "JointedShadows" ({ cls := "JointedShadows", name := "busiestBeat", desc := "()I" } : Jvm.MethodName) ({ cls := "JointedShadows", name := "busiestBeat", desc := "()I" } : Jvm.MethodName)) ∈ GT := gmem2 (List.mem_of_getElem? (i := 228) rfl) rfl
theorem g2_229 : (Jvm.Cond.code ({ cls := "JointedShadows", name := "busiestBeat", desc := "()I" } : Jvm.MethodName) prog_1_method_18_code (5 : Nat) (Option.some Jvm.ClassFile.FieldType.int)) ∈ GT := gmem2 (List.mem_of_getElem? (i := 229) rfl) rfl
theorem g2_230 : (Jvm.Cond.methodLink "JointedShadowsLaw" (87 : Nat) ({ cls := "JointedShadows", name := "activeRods", desc := "(II)I" } : Jvm.MethodName)) ∈ GT := gmem2 (List.mem_of_getElem? (i := 230) rfl) rfl
theorem g2_231 : (Jvm.Cond.instanceMethod ({ cls := "JointedShadows", name := "activeRods", desc := "(II)I" } : Jvm.MethodName)) ∈ GT := gmem2 (List.mem_of_getElem? (i := 231) rfl) rfl
theorem g2_232 : (Jvm.Cond.selects "JointedShadows" ({ cls := "JointedShadows", name := "activeRods", desc := "(II)I" } : Jvm.MethodName) ({ cls := "JointedShadows", name := "activeRods", desc := "(II)I" } : Jvm.MethodName)) ∈ GT := gmem2 (List.mem_of_getElem? (i := 232) rfl) rfl
theorem g2_233 : (Jvm.Cond.code ({ cls := "JointedShadows", name := "activeRods", desc := "(II)I" } : Jvm.MethodName) prog_1_method_19_code (3 : Nat) (Option.some Jvm.ClassFile.FieldType.int)) ∈ GT := gmem2 (List.mem_of_getElem? (i := 233) rfl) rfl
theorem g2_234 : (Jvm.Cond.methodLink "JointedShadows" (196 : Nat) ({ cls := "java/lang/Integer", name := "bitCount", desc := "(I)I" } : Jvm.MethodName)) ∈ GT := gmem2 (List.mem_of_getElem? (i := 234) rfl) rfl
theorem g2_235 : (Jvm.Cond.methodLink "JointedShadowsLaw" (92 : Nat) ({ cls := "JointedShadows", name := "addScene", desc := "(I)I" } : Jvm.MethodName)) ∈ GT := gmem2 (List.mem_of_getElem? (i := 235) rfl) rfl
theorem g2_236 : (Jvm.Cond.instanceMethod ({ cls := "JointedShadows", name := "addScene", desc := "(I)I" } : Jvm.MethodName)) ∈ GT := gmem2 (List.mem_of_getElem? (i := 236) rfl) rfl
theorem g2_237 : (Jvm.Cond.selects "JointedShadows" ({ cls := "JointedShadows", name := "addScene", desc := "(I)I" } : Jvm.MethodName) ({ cls := "JointedShadows", name := "addScene", desc := "(I)I" } : Jvm.MethodName)) ∈ GT := gmem2 (List.mem_of_getElem? (i := 237) rfl) rfl
theorem g2_238 : (Jvm.Cond.code ({ cls := "JointedShadows", name := "addScene", desc := "(I)I" } : Jvm.MethodName) prog_1_method_20_code (2 : Nat) (Option.some Jvm.ClassFile.FieldType.int)) ∈ GT := gmem2 (List.mem_of_getElem? (i := 238) rfl) rfl
theorem g2_239 : (Jvm.Cond.methodLink "JointedShadows" (201 : Nat) ({ cls := "JointedShadows$Scenes", name := "append", desc := "(I)I" } : Jvm.MethodName)) ∈ GT := gmem2 (List.mem_of_getElem? (i := 239) rfl) rfl
theorem g3_0 : (Jvm.Cond.instanceMethod ({ cls := "JointedShadows$Scenes", name := "append", desc := "(I)I" } : Jvm.MethodName)) ∈ GT := gmem3 (List.mem_of_getElem? (i := 0) rfl) rfl
theorem g3_1 : (Jvm.Cond.selects "JointedShadows$Scenes" ({ cls := "JointedShadows$Scenes", name := "append", desc := "(I)I" } : Jvm.MethodName) ({ cls := "JointedShadows$Scenes", name := "append", desc := "(I)I" } : Jvm.MethodName)) ∈ GT := gmem3 (List.mem_of_getElem? (i := 1) rfl) rfl
theorem g3_2 : (Jvm.Cond.code ({ cls := "JointedShadows$Scenes", name := "append", desc := "(I)I" } : Jvm.MethodName) prog_5_method_2_code (3 : Nat) (Option.some Jvm.ClassFile.FieldType.int)) ∈ GT := gmem3 (List.mem_of_getElem? (i := 2) rfl) rfl
theorem g3_3 : (Jvm.Cond.methodLink "JointedShadows$Scenes" (22 : Nat) ({ cls := "JointedShadows$Scenes", name := "fillLeast", desc := "()V" } : Jvm.MethodName)) ∈ GT := gmem3 (List.mem_of_getElem? (i := 3) rfl) rfl
theorem g3_5 : (Jvm.Cond.instanceMethod ({ cls := "JointedShadows$Scenes", name := "fillLeast", desc := "()V" } : Jvm.MethodName)) ∈ GT := gmem3 (List.mem_of_getElem? (i := 5) rfl) rfl
theorem g3_6 : (Jvm.Cond.code ({ cls := "JointedShadows$Scenes", name := "fillLeast", desc := "()V" } : Jvm.MethodName) prog_5_method_6_code (3 : Nat) (Option.none : Option Jvm.ClassFile.FieldType)) ∈ GT := gmem3 (List.mem_of_getElem? (i := 6) rfl) rfl
theorem g3_7 : (Jvm.Cond.methodLink "JointedShadows$Scenes" (25 : Nat) ({ cls := "JointedShadows$Scenes", name := "allButFirst", desc := "()I" } : Jvm.MethodName)) ∈ GT := gmem3 (List.mem_of_getElem? (i := 7) rfl) rfl
theorem g3_9 : (Jvm.Cond.instanceMethod ({ cls := "JointedShadows$Scenes", name := "allButFirst", desc := "()I" } : Jvm.MethodName)) ∈ GT := gmem3 (List.mem_of_getElem? (i := 9) rfl) rfl
theorem g3_10 : (Jvm.Cond.code ({ cls := "JointedShadows$Scenes", name := "allButFirst", desc := "()I" } : Jvm.MethodName) prog_5_method_10_code (1 : Nat) (Option.some Jvm.ClassFile.FieldType.int)) ∈ GT := gmem3 (List.mem_of_getElem? (i := 10) rfl) rfl
theorem g3_11 : (Jvm.Cond.methodLink "JointedShadows$Scenes" (40 : Nat) ({ cls := "JointedShadows$Scenes", name := "isIn", desc := "(II)Z" } : Jvm.MethodName)) ∈ GT := gmem3 (List.mem_of_getElem? (i := 11) rfl) rfl
theorem g3_12 : (Jvm.Cond.static ({ cls := "JointedShadows$Scenes", name := "isIn", desc := "(II)Z" } : Jvm.MethodName)) ∈ GT := gmem3 (List.mem_of_getElem? (i := 12) rfl) rfl
theorem g3_13 : (Jvm.Cond.code ({ cls := "JointedShadows$Scenes", name := "isIn", desc := "(II)Z" } : Jvm.MethodName) prog_5_method_11_code (2 : Nat) (Option.some Jvm.ClassFile.FieldType.boolean)) ∈ GT := gmem3 (List.mem_of_getElem? (i := 13) rfl) rfl
theorem g3_14 : (Jvm.Cond.methodLink "JointedShadows$Scenes" (36 : Nat) ({ cls := "JointedShadows$Scenes", name := "sceneBit", desc := "(I)I" } : Jvm.MethodName)) ∈ GT := gmem3 (List.mem_of_getElem? (i := 14) rfl) rfl
theorem g3_15 : (Jvm.Cond.static ({ cls := "JointedShadows$Scenes", name := "sceneBit", desc := "(I)I" } : Jvm.MethodName)) ∈ GT := gmem3 (List.mem_of_getElem? (i := 15) rfl) rfl
theorem g3_16 : (Jvm.Cond.code ({ cls := "JointedShadows$Scenes", name := "sceneBit", desc := "(I)I" } : Jvm.MethodName) prog_5_method_12_code (1 : Nat) (Option.some Jvm.ClassFile.FieldType.int)) ∈ GT := gmem3 (List.mem_of_getElem? (i := 16) rfl) rfl
theorem g3_17 : (Jvm.Cond.methodLink "JointedShadows$Scenes" (33 : Nat) ({ cls := "JointedShadows$Scenes", name := "firstBestNext", desc := "(II)I" } : Jvm.MethodName)) ∈ GT := gmem3 (List.mem_of_getElem? (i := 17) rfl) rfl
theorem g3_19 : (Jvm.Cond.instanceMethod ({ cls := "JointedShadows$Scenes", name := "firstBestNext", desc := "(II)I" } : Jvm.MethodName)) ∈ GT := gmem3 (List.mem_of_getElem? (i := 19) rfl) rfl
theorem g3_20 : (Jvm.Cond.code ({ cls := "JointedShadows$Scenes", name := "firstBestNext", desc := "(II)I" } : Jvm.MethodName) prog_5_method_7_code (7 : Nat) (Option.some Jvm.ClassFile.FieldType.int)) ∈ GT := gmem3 (List.mem_of_getElem? (i := 20) rfl) rfl
theorem g3_21 : (Jvm.Cond.constant "JointedShadows$Scenes" (50 : Nat) (2147483647 : Int32)) ∈ GT := gmem3 (List.mem_of_getElem? (i := 21) rfl) rfl
theorem g3_22 : (Jvm.Cond.methodLink "JointedShadows$Scenes" (44 : Nat) ({ cls := "JointedShadows$Scenes", name := "costVia", desc := "(III)I" } : Jvm.MethodName)) ∈ GT := gmem3 (List.mem_of_getElem? (i := 22) rfl) rfl
theorem g3_24 : (Jvm.Cond.instanceMethod ({ cls := "JointedShadows$Scenes", name := "costVia", desc := "(III)I" } : Jvm.MethodName)) ∈ GT := gmem3 (List.mem_of_getElem? (i := 24) rfl) rfl
theorem g3_25 : (Jvm.Cond.code ({ cls := "JointedShadows$Scenes", name := "costVia", desc := "(III)I" } : Jvm.MethodName) prog_5_method_8_code (4 : Nat) (Option.some Jvm.ClassFile.FieldType.int)) ∈ GT := gmem3 (List.mem_of_getElem? (i := 25) rfl) rfl
theorem g3_26 : (Jvm.Cond.methodLink "JointedShadows$Scenes" (51 : Nat) ({ cls := "java/lang/Integer", name := "bitCount", desc := "(I)I" } : Jvm.MethodName)) ∈ GT := gmem3 (List.mem_of_getElem? (i := 26) rfl) rfl
theorem g3_27 : (Jvm.Cond.methodLink "JointedShadows$Scenes" (29 : Nat) ({ cls := "JointedShadows$Scenes", name := "least", desc := "(II)I" } : Jvm.MethodName)) ∈ GT := gmem3 (List.mem_of_getElem? (i := 27) rfl) rfl
theorem g3_29 : (Jvm.Cond.instanceMethod ({ cls := "JointedShadows$Scenes", name := "least", desc := "(II)I" } : Jvm.MethodName)) ∈ GT := gmem3 (List.mem_of_getElem? (i := 29) rfl) rfl
theorem g3_30 : (Jvm.Cond.code ({ cls := "JointedShadows$Scenes", name := "least", desc := "(II)I" } : Jvm.MethodName) prog_5_method_9_code (3 : Nat) (Option.some Jvm.ClassFile.FieldType.int)) ∈ GT := gmem3 (List.mem_of_getElem? (i := 30) rfl) rfl
theorem g3_31 : (Jvm.Cond.methodLink "JointedShadowsLaw" (96 : Nat) ({ cls := "JointedShadows", name := "clearScenes", desc := "()I" } : Jvm.MethodName)) ∈ GT := gmem3 (List.mem_of_getElem? (i := 31) rfl) rfl
theorem g3_32 : (Jvm.Cond.instanceMethod ({ cls := "JointedShadows", name := "clearScenes", desc := "()I" } : Jvm.MethodName)) ∈ GT := gmem3 (List.mem_of_getElem? (i := 32) rfl) rfl
theorem g3_33 : (Jvm.Cond.selects "JointedShadows" ({ cls := "JointedShadows", name := "clearScenes", desc := "()I" } : Jvm.MethodName) ({ cls := "JointedShadows", name := "clearScenes", desc := "()I" } : Jvm.MethodName)) ∈ GT := gmem3 (List.mem_of_getElem? (i := 33) rfl) rfl
theorem g3_34 : (Jvm.Cond.code ({ cls := "JointedShadows", name := "clearScenes", desc := "()I" } : Jvm.MethodName) prog_1_method_21_code (2 : Nat) (Option.some Jvm.ClassFile.FieldType.int)) ∈ GT := gmem3 (List.mem_of_getElem? (i := 34) rfl) rfl
theorem g3_35 : (Jvm.Cond.methodLink "JointedShadows" (204 : Nat) ({ cls := "JointedShadows$Scenes", name := "clear", desc := "()V" } : Jvm.MethodName)) ∈ GT := gmem3 (List.mem_of_getElem? (i := 35) rfl) rfl
theorem g3_36 : (Jvm.Cond.instanceMethod ({ cls := "JointedShadows$Scenes", name := "clear", desc := "()V" } : Jvm.MethodName)) ∈ GT := gmem3 (List.mem_of_getElem? (i := 36) rfl) rfl
theorem g3_37 : (Jvm.Cond.selects "JointedShadows$Scenes" ({ cls := "JointedShadows$Scenes", name := "clear", desc := "()V" } : Jvm.MethodName) ({ cls := "JointedShadows$Scenes", name := "clear", desc := "()V" } : Jvm.MethodName)) ∈ GT := gmem3 (List.mem_of_getElem? (i := 37) rfl) rfl
theorem g3_38 : (Jvm.Cond.code ({ cls := "JointedShadows$Scenes", name := "clear", desc := "()V" } : Jvm.MethodName) prog_5_method_3_code (1 : Nat) (Option.none : Option Jvm.ClassFile.FieldType)) ∈ GT := gmem3 (List.mem_of_getElem? (i := 38) rfl) rfl
theorem g3_39 : (Jvm.Cond.methodLink "JointedShadowsLaw" (100 : Nat) ({ cls := "JointedShadows", name := "bestScene", desc := "(I)I" } : Jvm.MethodName)) ∈ GT := gmem3 (List.mem_of_getElem? (i := 39) rfl) rfl
theorem g3_40 : (Jvm.Cond.instanceMethod ({ cls := "JointedShadows", name := "bestScene", desc := "(I)I" } : Jvm.MethodName)) ∈ GT := gmem3 (List.mem_of_getElem? (i := 40) rfl) rfl
theorem g3_41 : (Jvm.Cond.selects "JointedShadows" ({ cls := "JointedShadows", name := "bestScene", desc := "(I)I" } : Jvm.MethodName) ({ cls := "JointedShadows", name := "bestScene", desc := "(I)I" } : Jvm.MethodName)) ∈ GT := gmem3 (List.mem_of_getElem? (i := 41) rfl) rfl
theorem g3_42 : (Jvm.Cond.code ({ cls := "JointedShadows", name := "bestScene", desc := "(I)I" } : Jvm.MethodName) prog_1_method_22_code (2 : Nat) (Option.some Jvm.ClassFile.FieldType.int)) ∈ GT := gmem3 (List.mem_of_getElem? (i := 42) rfl) rfl
theorem g3_43 : (Jvm.Cond.methodLink "JointedShadows" (207 : Nat) ({ cls := "JointedShadows$Scenes", name := "sceneAt", desc := "(I)I" } : Jvm.MethodName)) ∈ GT := gmem3 (List.mem_of_getElem? (i := 43) rfl) rfl
theorem g3_44 : (Jvm.Cond.instanceMethod ({ cls := "JointedShadows$Scenes", name := "sceneAt", desc := "(I)I" } : Jvm.MethodName)) ∈ GT := gmem3 (List.mem_of_getElem? (i := 44) rfl) rfl
theorem g3_45 : (Jvm.Cond.selects "JointedShadows$Scenes" ({ cls := "JointedShadows$Scenes", name := "sceneAt", desc := "(I)I" } : Jvm.MethodName) ({ cls := "JointedShadows$Scenes", name := "sceneAt", desc := "(I)I" } : Jvm.MethodName)) ∈ GT := gmem3 (List.mem_of_getElem? (i := 45) rfl) rfl
theorem g3_46 : (Jvm.Cond.code ({ cls := "JointedShadows$Scenes", name := "sceneAt", desc := "(I)I" } : Jvm.MethodName) prog_5_method_5_code (5 : Nat) (Option.some Jvm.ClassFile.FieldType.int)) ∈ GT := gmem3 (List.mem_of_getElem? (i := 46) rfl) rfl
theorem g3_47 : (Jvm.Cond.methodLink "JointedShadowsLaw" (104 : Nat) ({ cls := "JointedShadows", name := "bestCost", desc := "()I" } : Jvm.MethodName)) ∈ GT := gmem3 (List.mem_of_getElem? (i := 47) rfl) rfl
theorem g3_48 : (Jvm.Cond.instanceMethod ({ cls := "JointedShadows", name := "bestCost", desc := "()I" } : Jvm.MethodName)) ∈ GT := gmem3 (List.mem_of_getElem? (i := 48) rfl) rfl
theorem g3_49 : (Jvm.Cond.selects "JointedShadows" ({ cls := "JointedShadows", name := "bestCost", desc := "()I" } : Jvm.MethodName) ({ cls := "JointedShadows", name := "bestCost", desc := "()I" } : Jvm.MethodName)) ∈ GT := gmem3 (List.mem_of_getElem? (i := 49) rfl) rfl
theorem g3_50 : (Jvm.Cond.code ({ cls := "JointedShadows", name := "bestCost", desc := "()I" } : Jvm.MethodName) prog_1_method_23_code (1 : Nat) (Option.some Jvm.ClassFile.FieldType.int)) ∈ GT := gmem3 (List.mem_of_getElem? (i := 50) rfl) rfl
theorem g3_51 : (Jvm.Cond.methodLink "JointedShadows" (210 : Nat) ({ cls := "JointedShadows$Scenes", name := "leastCost", desc := "()I" } : Jvm.MethodName)) ∈ GT := gmem3 (List.mem_of_getElem? (i := 51) rfl) rfl
theorem g3_52 : (Jvm.Cond.instanceMethod ({ cls := "JointedShadows$Scenes", name := "leastCost", desc := "()I" } : Jvm.MethodName)) ∈ GT := gmem3 (List.mem_of_getElem? (i := 52) rfl) rfl
theorem g3_53 : (Jvm.Cond.selects "JointedShadows$Scenes" ({ cls := "JointedShadows$Scenes", name := "leastCost", desc := "()I" } : Jvm.MethodName) ({ cls := "JointedShadows$Scenes", name := "leastCost", desc := "()I" } : Jvm.MethodName)) ∈ GT := gmem3 (List.mem_of_getElem? (i := 53) rfl) rfl
theorem g3_54 : (Jvm.Cond.code ({ cls := "JointedShadows$Scenes", name := "leastCost", desc := "()I" } : Jvm.MethodName) prog_5_method_4_code (1 : Nat) (Option.some Jvm.ClassFile.FieldType.int)) ∈ GT := gmem3 (List.mem_of_getElem? (i := 54) rfl) rfl
theorem g3_55 : (Jvm.Cond.classLink "JointedShadowsLaw" (10 : Nat) "JointedShadowsModel") ∈ GT := gmem3 (List.mem_of_getElem? (i := 55) rfl) rfl
theorem g3_56 : (Jvm.Cond.instantiable "JointedShadowsModel" (27 : Nat)) ∈ GT := gmem3 (List.mem_of_getElem? (i := 56) rfl) rfl
theorem g3_57 : (Jvm.Cond.methodLink "JointedShadowsLaw" (12 : Nat) ({ cls := "JointedShadowsModel", name := "<init>", desc := "()V" } : Jvm.MethodName)) ∈ GT := gmem3 (List.mem_of_getElem? (i := 57) rfl) rfl
theorem g3_58 : (Jvm.Cond.instanceMethod ({ cls := "JointedShadowsModel", name := "<init>", desc := "()V" } : Jvm.MethodName)) ∈ GT := gmem3 (List.mem_of_getElem? (i := 58) rfl) rfl
theorem g3_59 : (Jvm.Cond.code ({ cls := "JointedShadowsModel", name := "<init>", desc := "()V" } : Jvm.MethodName) prog_9_method_1_code (1 : Nat) (Option.none : Option Jvm.ClassFile.FieldType)) ∈ GT := gmem3 (List.mem_of_getElem? (i := 59) rfl) rfl
theorem g3_60 : (Jvm.Cond.methodLink "JointedShadowsModel" (1 : Nat) ({ cls := "java/lang/Object", name := "<init>", desc := "()V" } : Jvm.MethodName)) ∈ GT := gmem3 (List.mem_of_getElem? (i := 60) rfl) rfl
theorem g3_61 : (Jvm.Cond.fieldLink "JointedShadowsModel" (80 : Nat) "JointedShadowsModel" "screen" "I") ∈ GT := gmem3 (List.mem_of_getElem? (i := 61) rfl) rfl
theorem g3_62 : (Jvm.Cond.fieldLink "JointedShadowsModel" (86 : Nat) "JointedShadowsModel" "figures" "I") ∈ GT := gmem3 (List.mem_of_getElem? (i := 62) rfl) rfl
theorem g3_63 : (Jvm.Cond.fieldLink "JointedShadowsModel" (7 : Nat) "JointedShadowsModel" "baseX" "[I") ∈ GT := gmem3 (List.mem_of_getElem? (i := 63) rfl) rfl
theorem g3_64 : (Jvm.Cond.fieldLink "JointedShadowsModel" (13 : Nat) "JointedShadowsModel" "baseY" "[I") ∈ GT := gmem3 (List.mem_of_getElem? (i := 64) rfl) rfl
theorem g3_65 : (Jvm.Cond.fieldLink "JointedShadowsModel" (16 : Nat) "JointedShadowsModel" "baseIn" "[I") ∈ GT := gmem3 (List.mem_of_getElem? (i := 65) rfl) rfl
theorem g3_66 : (Jvm.Cond.fieldLink "JointedShadowsModel" (19 : Nat) "JointedShadowsModel" "limbs" "[I") ∈ GT := gmem3 (List.mem_of_getElem? (i := 66) rfl) rfl
theorem g3_67 : (Jvm.Cond.fieldLink "JointedShadowsModel" (22 : Nat) "JointedShadowsModel" "parentOf" "[I") ∈ GT := gmem3 (List.mem_of_getElem? (i := 67) rfl) rfl
theorem g3_68 : (Jvm.Cond.fieldLink "JointedShadowsModel" (25 : Nat) "JointedShadowsModel" "lengthOf" "[I") ∈ GT := gmem3 (List.mem_of_getElem? (i := 68) rfl) rfl
theorem g3_69 : (Jvm.Cond.fieldLink "JointedShadowsModel" (28 : Nat) "JointedShadowsModel" "directionOf" "[I") ∈ GT := gmem3 (List.mem_of_getElem? (i := 69) rfl) rfl
theorem g3_70 : (Jvm.Cond.fieldLink "JointedShadowsModel" (101 : Nat) "JointedShadowsModel" "moves" "I") ∈ GT := gmem3 (List.mem_of_getElem? (i := 70) rfl) rfl
theorem g3_71 : (Jvm.Cond.fieldLink "JointedShadowsModel" (31 : Nat) "JointedShadowsModel" "beatOf" "[I") ∈ GT := gmem3 (List.mem_of_getElem? (i := 71) rfl) rfl
theorem g3_72 : (Jvm.Cond.fieldLink "JointedShadowsModel" (34 : Nat) "JointedShadowsModel" "figureOf" "[I") ∈ GT := gmem3 (List.mem_of_getElem? (i := 72) rfl) rfl
theorem g3_73 : (Jvm.Cond.fieldLink "JointedShadowsModel" (37 : Nat) "JointedShadowsModel" "limbOf" "[I") ∈ GT := gmem3 (List.mem_of_getElem? (i := 73) rfl) rfl
theorem g3_74 : (Jvm.Cond.fieldLink "JointedShadowsModel" (40 : Nat) "JointedShadowsModel" "addX" "[I") ∈ GT := gmem3 (List.mem_of_getElem? (i := 74) rfl) rfl
theorem g3_75 : (Jvm.Cond.fieldLink "JointedShadowsModel" (43 : Nat) "JointedShadowsModel" "addY" "[I") ∈ GT := gmem3 (List.mem_of_getElem? (i := 75) rfl) rfl
theorem g3_76 : (Jvm.Cond.fieldLink "JointedShadowsModel" (46 : Nat) "JointedShadowsModel" "addIn" "[I") ∈ GT := gmem3 (List.mem_of_getElem? (i := 76) rfl) rfl
theorem g3_77 : (Jvm.Cond.fieldLink "JointedShadowsModel" (49 : Nat) "JointedShadowsModel" "planeOf" "[I") ∈ GT := gmem3 (List.mem_of_getElem? (i := 77) rfl) rfl
theorem g3_78 : (Jvm.Cond.fieldLink "JointedShadowsModel" (52 : Nat) "JointedShadowsModel" "turnOf" "[I") ∈ GT := gmem3 (List.mem_of_getElem? (i := 78) rfl) rfl
theorem g3_79 : (Jvm.Cond.fieldLink "JointedShadowsModel" (55 : Nat) "JointedShadowsModel" "pointX" "[J") ∈ GT := gmem3 (List.mem_of_getElem? (i := 79) rfl) rfl
theorem g3_80 : (Jvm.Cond.fieldLink "JointedShadowsModel" (59 : Nat) "JointedShadowsModel" "pointY" "[J") ∈ GT := gmem3 (List.mem_of_getElem? (i := 80) rfl) rfl
theorem g3_81 : (Jvm.Cond.fieldLink "JointedShadowsModel" (62 : Nat) "JointedShadowsModel" "pointTurn" "[I") ∈ GT := gmem3 (List.mem_of_getElem? (i := 81) rfl) rfl
theorem g3_82 : (Jvm.Cond.fieldLink "JointedShadowsModel" (65 : Nat) "JointedShadowsModel" "endX" "[J") ∈ GT := gmem3 (List.mem_of_getElem? (i := 82) rfl) rfl
theorem g3_83 : (Jvm.Cond.fieldLink "JointedShadowsModel" (68 : Nat) "JointedShadowsModel" "endY" "[J") ∈ GT := gmem3 (List.mem_of_getElem? (i := 83) rfl) rfl
theorem g3_84 : (Jvm.Cond.fieldLink "JointedShadowsModel" (104 : Nat) "JointedShadowsModel" "scenes" "I") ∈ GT := gmem3 (List.mem_of_getElem? (i := 84) rfl) rfl
theorem g3_85 : (Jvm.Cond.fieldLink "JointedShadowsModel" (71 : Nat) "JointedShadowsModel" "sceneOf" "[I") ∈ GT := gmem3 (List.mem_of_getElem? (i := 85) rfl) rfl
theorem g3_86 : (Jvm.Cond.fieldLink "JointedShadowsModel" (74 : Nat) "JointedShadowsModel" "orderNow" "[I") ∈ GT := gmem3 (List.mem_of_getElem? (i := 86) rfl) rfl
theorem g3_87 : (Jvm.Cond.fieldLink "JointedShadowsModel" (77 : Nat) "JointedShadowsModel" "orderBest" "[I") ∈ GT := gmem3 (List.mem_of_getElem? (i := 87) rfl) rfl
theorem g3_88 : (Jvm.Cond.lays "JointedShadowsModel" "JointedShadowsModel" "screen" "I") ∈ GT := gmem3 (List.mem_of_getElem? (i := 88) rfl) rfl
theorem g3_89 : (Jvm.Cond.soleField "JointedShadowsModel" "screen") ∈ GT := gmem3 (List.mem_of_getElem? (i := 89) rfl) rfl
theorem g3_90 : (Jvm.Cond.lays "JointedShadowsModel" "JointedShadowsModel" "figures" "I") ∈ GT := gmem3 (List.mem_of_getElem? (i := 90) rfl) rfl
theorem g3_91 : (Jvm.Cond.soleField "JointedShadowsModel" "figures") ∈ GT := gmem3 (List.mem_of_getElem? (i := 91) rfl) rfl
theorem g3_92 : (Jvm.Cond.laysFinal "JointedShadowsModel" "JointedShadowsModel" "baseX" "[I") ∈ GT := gmem3 (List.mem_of_getElem? (i := 92) rfl) rfl
theorem g3_93 : (Jvm.Cond.soleField "JointedShadowsModel" "baseX") ∈ GT := gmem3 (List.mem_of_getElem? (i := 93) rfl) rfl
theorem g3_94 : (Jvm.Cond.laysFinal "JointedShadowsModel" "JointedShadowsModel" "baseY" "[I") ∈ GT := gmem3 (List.mem_of_getElem? (i := 94) rfl) rfl
theorem g3_95 : (Jvm.Cond.soleField "JointedShadowsModel" "baseY") ∈ GT := gmem3 (List.mem_of_getElem? (i := 95) rfl) rfl
theorem g3_96 : (Jvm.Cond.laysFinal "JointedShadowsModel" "JointedShadowsModel" "baseIn" "[I") ∈ GT := gmem3 (List.mem_of_getElem? (i := 96) rfl) rfl
theorem g3_97 : (Jvm.Cond.soleField "JointedShadowsModel" "baseIn") ∈ GT := gmem3 (List.mem_of_getElem? (i := 97) rfl) rfl
theorem g3_98 : (Jvm.Cond.laysFinal "JointedShadowsModel" "JointedShadowsModel" "limbs" "[I") ∈ GT := gmem3 (List.mem_of_getElem? (i := 98) rfl) rfl
theorem g3_99 : (Jvm.Cond.soleField "JointedShadowsModel" "limbs") ∈ GT := gmem3 (List.mem_of_getElem? (i := 99) rfl) rfl
theorem g3_100 : (Jvm.Cond.laysFinal "JointedShadowsModel" "JointedShadowsModel" "parentOf" "[I") ∈ GT := gmem3 (List.mem_of_getElem? (i := 100) rfl) rfl
theorem g3_101 : (Jvm.Cond.soleField "JointedShadowsModel" "parentOf") ∈ GT := gmem3 (List.mem_of_getElem? (i := 101) rfl) rfl
theorem g3_102 : (Jvm.Cond.laysFinal "JointedShadowsModel" "JointedShadowsModel" "lengthOf" "[I") ∈ GT := gmem3 (List.mem_of_getElem? (i := 102) rfl) rfl
theorem g3_103 : (Jvm.Cond.soleField "JointedShadowsModel" "lengthOf") ∈ GT := gmem3 (List.mem_of_getElem? (i := 103) rfl) rfl
theorem g3_104 : (Jvm.Cond.laysFinal "JointedShadowsModel" "JointedShadowsModel" "directionOf" "[I") ∈ GT := gmem3 (List.mem_of_getElem? (i := 104) rfl) rfl
theorem g3_105 : (Jvm.Cond.soleField "JointedShadowsModel" "directionOf") ∈ GT := gmem3 (List.mem_of_getElem? (i := 105) rfl) rfl
theorem g3_106 : (Jvm.Cond.lays "JointedShadowsModel" "JointedShadowsModel" "moves" "I") ∈ GT := gmem3 (List.mem_of_getElem? (i := 106) rfl) rfl
theorem g3_107 : (Jvm.Cond.soleField "JointedShadowsModel" "moves") ∈ GT := gmem3 (List.mem_of_getElem? (i := 107) rfl) rfl
theorem g3_108 : (Jvm.Cond.laysFinal "JointedShadowsModel" "JointedShadowsModel" "beatOf" "[I") ∈ GT := gmem3 (List.mem_of_getElem? (i := 108) rfl) rfl
theorem g3_109 : (Jvm.Cond.soleField "JointedShadowsModel" "beatOf") ∈ GT := gmem3 (List.mem_of_getElem? (i := 109) rfl) rfl
theorem g3_110 : (Jvm.Cond.laysFinal "JointedShadowsModel" "JointedShadowsModel" "figureOf" "[I") ∈ GT := gmem3 (List.mem_of_getElem? (i := 110) rfl) rfl
theorem g3_111 : (Jvm.Cond.soleField "JointedShadowsModel" "figureOf") ∈ GT := gmem3 (List.mem_of_getElem? (i := 111) rfl) rfl
theorem g3_112 : (Jvm.Cond.laysFinal "JointedShadowsModel" "JointedShadowsModel" "limbOf" "[I") ∈ GT := gmem3 (List.mem_of_getElem? (i := 112) rfl) rfl
theorem g3_113 : (Jvm.Cond.soleField "JointedShadowsModel" "limbOf") ∈ GT := gmem3 (List.mem_of_getElem? (i := 113) rfl) rfl
theorem g3_114 : (Jvm.Cond.laysFinal "JointedShadowsModel" "JointedShadowsModel" "addX" "[I") ∈ GT := gmem3 (List.mem_of_getElem? (i := 114) rfl) rfl
theorem g3_115 : (Jvm.Cond.soleField "JointedShadowsModel" "addX") ∈ GT := gmem3 (List.mem_of_getElem? (i := 115) rfl) rfl
theorem g3_116 : (Jvm.Cond.laysFinal "JointedShadowsModel" "JointedShadowsModel" "addY" "[I") ∈ GT := gmem3 (List.mem_of_getElem? (i := 116) rfl) rfl
theorem g3_117 : (Jvm.Cond.soleField "JointedShadowsModel" "addY") ∈ GT := gmem3 (List.mem_of_getElem? (i := 117) rfl) rfl
theorem g3_118 : (Jvm.Cond.laysFinal "JointedShadowsModel" "JointedShadowsModel" "addIn" "[I") ∈ GT := gmem3 (List.mem_of_getElem? (i := 118) rfl) rfl
theorem g3_119 : (Jvm.Cond.soleField "JointedShadowsModel" "addIn") ∈ GT := gmem3 (List.mem_of_getElem? (i := 119) rfl) rfl
theorem g3_120 : (Jvm.Cond.laysFinal "JointedShadowsModel" "JointedShadowsModel" "planeOf" "[I") ∈ GT := gmem3 (List.mem_of_getElem? (i := 120) rfl) rfl
theorem g3_121 : (Jvm.Cond.soleField "JointedShadowsModel" "planeOf") ∈ GT := gmem3 (List.mem_of_getElem? (i := 121) rfl) rfl
theorem g3_122 : (Jvm.Cond.laysFinal "JointedShadowsModel" "JointedShadowsModel" "turnOf" "[I") ∈ GT := gmem3 (List.mem_of_getElem? (i := 122) rfl) rfl
theorem g3_123 : (Jvm.Cond.soleField "JointedShadowsModel" "turnOf") ∈ GT := gmem3 (List.mem_of_getElem? (i := 123) rfl) rfl
theorem g3_124 : (Jvm.Cond.laysFinal "JointedShadowsModel" "JointedShadowsModel" "pointX" "[J") ∈ GT := gmem3 (List.mem_of_getElem? (i := 124) rfl) rfl
theorem g3_125 : (Jvm.Cond.soleField "JointedShadowsModel" "pointX") ∈ GT := gmem3 (List.mem_of_getElem? (i := 125) rfl) rfl
theorem g3_126 : (Jvm.Cond.laysFinal "JointedShadowsModel" "JointedShadowsModel" "pointY" "[J") ∈ GT := gmem3 (List.mem_of_getElem? (i := 126) rfl) rfl
theorem g3_127 : (Jvm.Cond.soleField "JointedShadowsModel" "pointY") ∈ GT := gmem3 (List.mem_of_getElem? (i := 127) rfl) rfl
theorem g3_128 : (Jvm.Cond.laysFinal "JointedShadowsModel" "JointedShadowsModel" "pointTurn" "[I") ∈ GT := gmem3 (List.mem_of_getElem? (i := 128) rfl) rfl
theorem g3_129 : (Jvm.Cond.soleField "JointedShadowsModel" "pointTurn") ∈ GT := gmem3 (List.mem_of_getElem? (i := 129) rfl) rfl
theorem g3_130 : (Jvm.Cond.laysFinal "JointedShadowsModel" "JointedShadowsModel" "endX" "[J") ∈ GT := gmem3 (List.mem_of_getElem? (i := 130) rfl) rfl
theorem g3_131 : (Jvm.Cond.soleField "JointedShadowsModel" "endX") ∈ GT := gmem3 (List.mem_of_getElem? (i := 131) rfl) rfl
theorem g3_132 : (Jvm.Cond.laysFinal "JointedShadowsModel" "JointedShadowsModel" "endY" "[J") ∈ GT := gmem3 (List.mem_of_getElem? (i := 132) rfl) rfl
theorem g3_133 : (Jvm.Cond.soleField "JointedShadowsModel" "endY") ∈ GT := gmem3 (List.mem_of_getElem? (i := 133) rfl) rfl
theorem g3_134 : (Jvm.Cond.lays "JointedShadowsModel" "JointedShadowsModel" "scenes" "I") ∈ GT := gmem3 (List.mem_of_getElem? (i := 134) rfl) rfl
theorem g3_135 : (Jvm.Cond.soleField "JointedShadowsModel" "scenes") ∈ GT := gmem3 (List.mem_of_getElem? (i := 135) rfl) rfl
theorem g3_136 : (Jvm.Cond.laysFinal "JointedShadowsModel" "JointedShadowsModel" "sceneOf" "[I") ∈ GT := gmem3 (List.mem_of_getElem? (i := 136) rfl) rfl
theorem g3_137 : (Jvm.Cond.soleField "JointedShadowsModel" "sceneOf") ∈ GT := gmem3 (List.mem_of_getElem? (i := 137) rfl) rfl
theorem g3_138 : (Jvm.Cond.laysFinal "JointedShadowsModel" "JointedShadowsModel" "orderNow" "[I") ∈ GT := gmem3 (List.mem_of_getElem? (i := 138) rfl) rfl
theorem g3_139 : (Jvm.Cond.soleField "JointedShadowsModel" "orderNow") ∈ GT := gmem3 (List.mem_of_getElem? (i := 139) rfl) rfl
theorem g3_140 : (Jvm.Cond.laysFinal "JointedShadowsModel" "JointedShadowsModel" "orderBest" "[I") ∈ GT := gmem3 (List.mem_of_getElem? (i := 140) rfl) rfl
theorem g3_141 : (Jvm.Cond.soleField "JointedShadowsModel" "orderBest") ∈ GT := gmem3 (List.mem_of_getElem? (i := 141) rfl) rfl
theorem g3_142 : (Jvm.Cond.superclass "JointedShadowsModel" "java/lang/Object") ∈ GT := gmem3 (List.mem_of_getElem? (i := 142) rfl) rfl
theorem g3_143 : (Jvm.Cond.arrayClass Jvm.ClassFile.FieldType.long) ∈ GT := gmem3 (List.mem_of_getElem? (i := 143) rfl) rfl
theorem g3_144 : (Jvm.Cond.methodLink "JointedShadowsLaw" (17 : Nat) ({ cls := "JointedShadowsModel", name := "setDistance", desc := "(I)I" } : Jvm.MethodName)) ∈ GT := gmem3 (List.mem_of_getElem? (i := 144) rfl) rfl
theorem g3_145 : (Jvm.Cond.instanceMethod ({ cls := "JointedShadowsModel", name := "setDistance", desc := "(I)I" } : Jvm.MethodName)) ∈ GT := gmem3 (List.mem_of_getElem? (i := 145) rfl) rfl
theorem g3_146 : (Jvm.Cond.selects "JointedShadowsModel" ({ cls := "JointedShadowsModel", name := "setDistance", desc := "(I)I" } : Jvm.MethodName) ({ cls := "JointedShadowsModel", name := "setDistance", desc := "(I)I" } : Jvm.MethodName)) ∈ GT := gmem3 (List.mem_of_getElem? (i := 146) rfl) rfl
theorem g3_147 : (Jvm.Cond.code ({ cls := "JointedShadowsModel", name := "setDistance", desc := "(I)I" } : Jvm.MethodName) prog_9_method_9_code (3 : Nat) (Option.some Jvm.ClassFile.FieldType.int)) ∈ GT := gmem3 (List.mem_of_getElem? (i := 147) rfl) rfl
theorem g3_148 : (Jvm.Cond.methodLink "JointedShadowsModel" (89 : Nat) ({ cls := "JointedShadowsModel", name := "in", desc := "(III)Z" } : Jvm.MethodName)) ∈ GT := gmem3 (List.mem_of_getElem? (i := 148) rfl) rfl
theorem g3_149 : (Jvm.Cond.static ({ cls := "JointedShadowsModel", name := "in", desc := "(III)Z" } : Jvm.MethodName)) ∈ GT := gmem3 (List.mem_of_getElem? (i := 149) rfl) rfl
theorem g3_150 : (Jvm.Cond.code ({ cls := "JointedShadowsModel", name := "in", desc := "(III)Z" } : Jvm.MethodName) prog_9_method_2_code (3 : Nat) (Option.some Jvm.ClassFile.FieldType.boolean)) ∈ GT := gmem3 (List.mem_of_getElem? (i := 150) rfl) rfl
theorem g3_151 : (Jvm.Cond.methodLink "JointedShadowsLaw" (22 : Nat) ({ cls := "JointedShadowsModel", name := "addFigure", desc := "(III)I" } : Jvm.MethodName)) ∈ GT := gmem3 (List.mem_of_getElem? (i := 151) rfl) rfl
theorem g3_152 : (Jvm.Cond.instanceMethod ({ cls := "JointedShadowsModel", name := "addFigure", desc := "(III)I" } : Jvm.MethodName)) ∈ GT := gmem3 (List.mem_of_getElem? (i := 152) rfl) rfl
theorem g3_153 : (Jvm.Cond.selects "JointedShadowsModel" ({ cls := "JointedShadowsModel", name := "addFigure", desc := "(III)I" } : Jvm.MethodName) ({ cls := "JointedShadowsModel", name := "addFigure", desc := "(III)I" } : Jvm.MethodName)) ∈ GT := gmem3 (List.mem_of_getElem? (i := 153) rfl) rfl
theorem g3_154 : (Jvm.Cond.code ({ cls := "JointedShadowsModel", name := "addFigure", desc := "(III)I" } : Jvm.MethodName) prog_9_method_10_code (4 : Nat) (Option.some Jvm.ClassFile.FieldType.int)) ∈ GT := gmem3 (List.mem_of_getElem? (i := 154) rfl) rfl
theorem g3_155 : (Jvm.Cond.methodLink "JointedShadowsLaw" (27 : Nat) ({ cls := "JointedShadowsModel", name := "addLimb", desc := "(IIII)I" } : Jvm.MethodName)) ∈ GT := gmem3 (List.mem_of_getElem? (i := 155) rfl) rfl
theorem g3_156 : (Jvm.Cond.instanceMethod ({ cls := "JointedShadowsModel", name := "addLimb", desc := "(IIII)I" } : Jvm.MethodName)) ∈ GT := gmem3 (List.mem_of_getElem? (i := 156) rfl) rfl
theorem g3_157 : (Jvm.Cond.selects "JointedShadowsModel" ({ cls := "JointedShadowsModel", name := "addLimb", desc := "(IIII)I" } : Jvm.MethodName) ({ cls := "JointedShadowsModel", name := "addLimb", desc := "(IIII)I" } : Jvm.MethodName)) ∈ GT := gmem3 (List.mem_of_getElem? (i := 157) rfl) rfl
theorem g3_158 : (Jvm.Cond.code ({ cls := "JointedShadowsModel", name := "addLimb", desc := "(IIII)I" } : Jvm.MethodName) prog_9_method_11_code (6 : Nat) (Option.some Jvm.ClassFile.FieldType.int)) ∈ GT := gmem3 (List.mem_of_getElem? (i := 158) rfl) rfl
theorem g3_159 : (Jvm.Cond.methodLink "JointedShadowsModel" (93 : Nat) ({ cls := "JointedShadowsModel", name := "noFigure", desc := "(I)Z" } : Jvm.MethodName)) ∈ GT := gmem3 (List.mem_of_getElem? (i := 159) rfl) rfl
theorem g3_161 : (Jvm.Cond.instanceMethod ({ cls := "JointedShadowsModel", name := "noFigure", desc := "(I)Z" } : Jvm.MethodName)) ∈ GT := gmem3 (List.mem_of_getElem? (i := 161) rfl) rfl
theorem g3_162 : (Jvm.Cond.code ({ cls := "JointedShadowsModel", name := "noFigure", desc := "(I)Z" } : Jvm.MethodName) prog_9_method_6_code (2 : Nat) (Option.some Jvm.ClassFile.FieldType.boolean)) ∈ GT := gmem3 (List.mem_of_getElem? (i := 162) rfl) rfl
theorem g3_163 : (Jvm.Cond.methodLink "JointedShadowsModel" (97 : Nat) ({ cls := "JointedShadowsModel", name := "noLimb", desc := "(II)Z" } : Jvm.MethodName)) ∈ GT := gmem3 (List.mem_of_getElem? (i := 163) rfl) rfl
theorem g3_165 : (Jvm.Cond.instanceMethod ({ cls := "JointedShadowsModel", name := "noLimb", desc := "(II)Z" } : Jvm.MethodName)) ∈ GT := gmem3 (List.mem_of_getElem? (i := 165) rfl) rfl
theorem g3_166 : (Jvm.Cond.code ({ cls := "JointedShadowsModel", name := "noLimb", desc := "(II)Z" } : Jvm.MethodName) prog_9_method_7_code (3 : Nat) (Option.some Jvm.ClassFile.FieldType.boolean)) ∈ GT := gmem3 (List.mem_of_getElem? (i := 166) rfl) rfl
theorem g3_167 : (Jvm.Cond.methodLink "JointedShadowsLaw" (31 : Nat) ({ cls := "JointedShadowsModel", name := "count", desc := "(I)I" } : Jvm.MethodName)) ∈ GT := gmem3 (List.mem_of_getElem? (i := 167) rfl) rfl
theorem g3_168 : (Jvm.Cond.instanceMethod ({ cls := "JointedShadowsModel", name := "count", desc := "(I)I" } : Jvm.MethodName)) ∈ GT := gmem3 (List.mem_of_getElem? (i := 168) rfl) rfl
theorem g3_169 : (Jvm.Cond.selects "JointedShadowsModel" ({ cls := "JointedShadowsModel", name := "count", desc := "(I)I" } : Jvm.MethodName) ({ cls := "JointedShadowsModel", name := "count", desc := "(I)I" } : Jvm.MethodName)) ∈ GT := gmem3 (List.mem_of_getElem? (i := 169) rfl) rfl
theorem g3_170 : (Jvm.Cond.code ({ cls := "JointedShadowsModel", name := "count", desc := "(I)I" } : Jvm.MethodName) prog_9_method_12_code (4 : Nat) (Option.some Jvm.ClassFile.FieldType.int)) ∈ GT := gmem3 (List.mem_of_getElem? (i := 170) rfl) rfl
theorem g3_171 : (Jvm.Cond.methodLink "JointedShadowsLaw" (35 : Nat) ({ cls := "JointedShadowsModel", name := "addTurn", desc := "(IIII)I" } : Jvm.MethodName)) ∈ GT := gmem3 (List.mem_of_getElem? (i := 171) rfl) rfl
theorem g3_172 : (Jvm.Cond.instanceMethod ({ cls := "JointedShadowsModel", name := "addTurn", desc := "(IIII)I" } : Jvm.MethodName)) ∈ GT := gmem3 (List.mem_of_getElem? (i := 172) rfl) rfl
theorem g3_173 : (Jvm.Cond.selects "JointedShadowsModel" ({ cls := "JointedShadowsModel", name := "addTurn", desc := "(IIII)I" } : Jvm.MethodName) ({ cls := "JointedShadowsModel", name := "addTurn", desc := "(IIII)I" } : Jvm.MethodName)) ∈ GT := gmem3 (List.mem_of_getElem? (i := 173) rfl) rfl
theorem g3_174 : (Jvm.Cond.code ({ cls := "JointedShadowsModel", name := "addTurn", desc := "(IIII)I" } : Jvm.MethodName) prog_9_method_14_code (5 : Nat) (Option.some Jvm.ClassFile.FieldType.int)) ∈ GT := gmem3 (List.mem_of_getElem? (i := 174) rfl) rfl
theorem g3_175 : (Jvm.Cond.methodLink "JointedShadowsModel" (107 : Nat) ({ cls := "JointedShadowsModel", name := "isBeat", desc := "(I)Z" } : Jvm.MethodName)) ∈ GT := gmem3 (List.mem_of_getElem? (i := 175) rfl) rfl
theorem g3_176 : (Jvm.Cond.static ({ cls := "JointedShadowsModel", name := "isBeat", desc := "(I)Z" } : Jvm.MethodName)) ∈ GT := gmem3 (List.mem_of_getElem? (i := 176) rfl) rfl
theorem g3_177 : (Jvm.Cond.code ({ cls := "JointedShadowsModel", name := "isBeat", desc := "(I)Z" } : Jvm.MethodName) prog_9_method_8_code (1 : Nat) (Option.some Jvm.ClassFile.FieldType.boolean)) ∈ GT := gmem3 (List.mem_of_getElem? (i := 177) rfl) rfl
theorem g3_178 : (Jvm.Cond.methodLink "JointedShadowsModel" (110 : Nat) ({ cls := "JointedShadowsModel", name := "addMove", desc := "(IIIIII)I" } : Jvm.MethodName)) ∈ GT := gmem3 (List.mem_of_getElem? (i := 178) rfl) rfl
theorem g3_180 : (Jvm.Cond.instanceMethod ({ cls := "JointedShadowsModel", name := "addMove", desc := "(IIIIII)I" } : Jvm.MethodName)) ∈ GT := gmem3 (List.mem_of_getElem? (i := 180) rfl) rfl
theorem g3_181 : (Jvm.Cond.code ({ cls := "JointedShadowsModel", name := "addMove", desc := "(IIIIII)I" } : Jvm.MethodName) prog_9_method_13_code (7 : Nat) (Option.some Jvm.ClassFile.FieldType.int)) ∈ GT := gmem3 (List.mem_of_getElem? (i := 181) rfl) rfl
theorem g3_182 : (Jvm.Cond.methodLink "JointedShadowsLaw" (40 : Nat) ({ cls := "JointedShadowsModel", name := "addShift", desc := "(IIIII)I" } : Jvm.MethodName)) ∈ GT := gmem3 (List.mem_of_getElem? (i := 182) rfl) rfl
theorem g3_183 : (Jvm.Cond.instanceMethod ({ cls := "JointedShadowsModel", name := "addShift", desc := "(IIIII)I" } : Jvm.MethodName)) ∈ GT := gmem3 (List.mem_of_getElem? (i := 183) rfl) rfl
theorem g3_184 : (Jvm.Cond.selects "JointedShadowsModel" ({ cls := "JointedShadowsModel", name := "addShift", desc := "(IIIII)I" } : Jvm.MethodName) ({ cls := "JointedShadowsModel", name := "addShift", desc := "(IIIII)I" } : Jvm.MethodName)) ∈ GT := gmem3 (List.mem_of_getElem? (i := 184) rfl) rfl
theorem g3_185 : (Jvm.Cond.code ({ cls := "JointedShadowsModel", name := "addShift", desc := "(IIIII)I" } : Jvm.MethodName) prog_9_method_15_code (6 : Nat) (Option.some Jvm.ClassFile.FieldType.int)) ∈ GT := gmem3 (List.mem_of_getElem? (i := 185) rfl) rfl
theorem g3_186 : (Jvm.Cond.methodLink "JointedShadowsLaw" (44 : Nat) ({ cls := "JointedShadowsModel", name := "removeMoves", desc := "(I)I" } : Jvm.MethodName)) ∈ GT := gmem3 (List.mem_of_getElem? (i := 186) rfl) rfl
theorem g3_187 : (Jvm.Cond.instanceMethod ({ cls := "JointedShadowsModel", name := "removeMoves", desc := "(I)I" } : Jvm.MethodName)) ∈ GT := gmem3 (List.mem_of_getElem? (i := 187) rfl) rfl
theorem g3_188 : (Jvm.Cond.selects "JointedShadowsModel" ({ cls := "JointedShadowsModel", name := "removeMoves", desc := "(I)I" } : Jvm.MethodName) ({ cls := "JointedShadowsModel", name := "removeMoves", desc := "(I)I" } : Jvm.MethodName)) ∈ GT := gmem3 (List.mem_of_getElem? (i := 188) rfl) rfl
theorem g3_189 : (Jvm.Cond.code ({ cls := "JointedShadowsModel", name := "removeMoves", desc := "(I)I" } : Jvm.MethodName) prog_9_method_16_code (2 : Nat) (Option.some Jvm.ClassFile.FieldType.int)) ∈ GT := gmem3 (List.mem_of_getElem? (i := 189) rfl) rfl
theorem g3_190 : (Jvm.Cond.methodLink "JointedShadowsLaw" (49 : Nat) ({ cls := "JointedShadowsModel", name := "position", desc := "(IIII)J" } : Jvm.MethodName)) ∈ GT := gmem3 (List.mem_of_getElem? (i := 190) rfl) rfl
theorem g3_191 : (Jvm.Cond.instanceMethod ({ cls := "JointedShadowsModel", name := "position", desc := "(IIII)J" } : Jvm.MethodName)) ∈ GT := gmem3 (List.mem_of_getElem? (i := 191) rfl) rfl
theorem g3_192 : (Jvm.Cond.selects "JointedShadowsModel" ({ cls := "JointedShadowsModel", name := "position", desc := "(IIII)J" } : Jvm.MethodName) ({ cls := "JointedShadowsModel", name := "position", desc := "(IIII)J" } : Jvm.MethodName)) ∈ GT := gmem3 (List.mem_of_getElem? (i := 192) rfl) rfl
theorem g3_193 : (Jvm.Cond.code ({ cls := "JointedShadowsModel", name := "position", desc := "(IIII)J" } : Jvm.MethodName) prog_9_method_23_code (6 : Nat) (Option.some Jvm.ClassFile.FieldType.long)) ∈ GT := gmem3 (List.mem_of_getElem? (i := 193) rfl) rfl
theorem g3_194 : (Jvm.Cond.methodLink "JointedShadowsModel" (131 : Nat) ({ cls := "JointedShadowsModel", name := "lost", desc := "()J" } : Jvm.MethodName)) ∈ GT := gmem3 (List.mem_of_getElem? (i := 194) rfl) rfl
theorem g3_195 : (Jvm.Cond.static ({ cls := "JointedShadowsModel", name := "lost", desc := "()J" } : Jvm.MethodName)) ∈ GT := gmem3 (List.mem_of_getElem? (i := 195) rfl) rfl
theorem g3_196 : (Jvm.Cond.code ({ cls := "JointedShadowsModel", name := "lost", desc := "()J" } : Jvm.MethodName) prog_9_method_3_code (0 : Nat) (Option.some Jvm.ClassFile.FieldType.long)) ∈ GT := gmem3 (List.mem_of_getElem? (i := 196) rfl) rfl
theorem g3_197 : (Jvm.Cond.constantLong "JointedShadowsModel" (84 : Nat) (-9223372036854775808 : Int64)) ∈ GT := gmem3 (List.mem_of_getElem? (i := 197) rfl) rfl
theorem g3_198 : (Jvm.Cond.methodLink "JointedShadowsModel" (135 : Nat) ({ cls := "JointedShadowsModel", name := "goTo", desc := "(I)V" } : Jvm.MethodName)) ∈ GT := gmem3 (List.mem_of_getElem? (i := 198) rfl) rfl
theorem g3_200 : (Jvm.Cond.instanceMethod ({ cls := "JointedShadowsModel", name := "goTo", desc := "(I)V" } : Jvm.MethodName)) ∈ GT := gmem3 (List.mem_of_getElem? (i := 200) rfl) rfl
theorem g3_201 : (Jvm.Cond.code ({ cls := "JointedShadowsModel", name := "goTo", desc := "(I)V" } : Jvm.MethodName) prog_9_method_22_code (4 : Nat) (Option.none : Option Jvm.ClassFile.FieldType)) ∈ GT := gmem3 (List.mem_of_getElem? (i := 201) rfl) rfl
theorem g3_202 : (Jvm.Cond.methodLink "JointedShadowsModel" (114 : Nat) ({ cls := "JointedShadowsModel", name := "inStage", desc := "(I)I" } : Jvm.MethodName)) ∈ GT := gmem3 (List.mem_of_getElem? (i := 202) rfl) rfl
theorem g3_204 : (Jvm.Cond.instanceMethod ({ cls := "JointedShadowsModel", name := "inStage", desc := "(I)I" } : Jvm.MethodName)) ∈ GT := gmem3 (List.mem_of_getElem? (i := 204) rfl) rfl
theorem g3_205 : (Jvm.Cond.code ({ cls := "JointedShadowsModel", name := "inStage", desc := "(I)I" } : Jvm.MethodName) prog_9_method_17_code (2 : Nat) (Option.some Jvm.ClassFile.FieldType.int)) ∈ GT := gmem3 (List.mem_of_getElem? (i := 205) rfl) rfl
theorem g3_206 : (Jvm.Cond.methodLink "JointedShadowsModel" (124 : Nat) ({ cls := "JointedShadowsModel", name := "doMove", desc := "(I)V" } : Jvm.MethodName)) ∈ GT := gmem3 (List.mem_of_getElem? (i := 206) rfl) rfl
theorem g3_208 : (Jvm.Cond.instanceMethod ({ cls := "JointedShadowsModel", name := "doMove", desc := "(I)V" } : Jvm.MethodName)) ∈ GT := gmem3 (List.mem_of_getElem? (i := 208) rfl) rfl
theorem g3_209 : (Jvm.Cond.code ({ cls := "JointedShadowsModel", name := "doMove", desc := "(I)V" } : Jvm.MethodName) prog_9_method_18_code (4 : Nat) (Option.none : Option Jvm.ClassFile.FieldType)) ∈ GT := gmem3 (List.mem_of_getElem? (i := 209) rfl) rfl
theorem g3_210 : (Jvm.Cond.methodLink "JointedShadowsModel" (128 : Nat) ({ cls := "JointedShadowsModel", name := "layPoints", desc := "(I)V" } : Jvm.MethodName)) ∈ GT := gmem3 (List.mem_of_getElem? (i := 210) rfl) rfl
theorem g3_212 : (Jvm.Cond.instanceMethod ({ cls := "JointedShadowsModel", name := "layPoints", desc := "(I)V" } : Jvm.MethodName)) ∈ GT := gmem3 (List.mem_of_getElem? (i := 212) rfl) rfl
theorem g3_213 : (Jvm.Cond.code ({ cls := "JointedShadowsModel", name := "layPoints", desc := "(I)V" } : Jvm.MethodName) prog_9_method_21_code (6 : Nat) (Option.none : Option Jvm.ClassFile.FieldType)) ∈ GT := gmem3 (List.mem_of_getElem? (i := 213) rfl) rfl
theorem g3_214 : (Jvm.Cond.methodLink "JointedShadowsModel" (118 : Nat) ({ cls := "JointedShadowsModel", name := "stepX", desc := "(I)I" } : Jvm.MethodName)) ∈ GT := gmem3 (List.mem_of_getElem? (i := 214) rfl) rfl
theorem g3_215 : (Jvm.Cond.static ({ cls := "JointedShadowsModel", name := "stepX", desc := "(I)I" } : Jvm.MethodName)) ∈ GT := gmem3 (List.mem_of_getElem? (i := 215) rfl) rfl
theorem g3_216 : (Jvm.Cond.code ({ cls := "JointedShadowsModel", name := "stepX", desc := "(I)I" } : Jvm.MethodName) prog_9_method_19_code (1 : Nat) (Option.some Jvm.ClassFile.FieldType.int)) ∈ GT := gmem3 (List.mem_of_getElem? (i := 216) rfl) rfl
theorem g3_217 : (Jvm.Cond.methodLink "JointedShadowsModel" (121 : Nat) ({ cls := "JointedShadowsModel", name := "stepY", desc := "(I)I" } : Jvm.MethodName)) ∈ GT := gmem3 (List.mem_of_getElem? (i := 217) rfl) rfl
theorem g3_218 : (Jvm.Cond.static ({ cls := "JointedShadowsModel", name := "stepY", desc := "(I)I" } : Jvm.MethodName)) ∈ GT := gmem3 (List.mem_of_getElem? (i := 218) rfl) rfl
theorem g3_219 : (Jvm.Cond.code ({ cls := "JointedShadowsModel", name := "stepY", desc := "(I)I" } : Jvm.MethodName) prog_9_method_20_code (1 : Nat) (Option.some Jvm.ClassFile.FieldType.int)) ∈ GT := gmem3 (List.mem_of_getElem? (i := 219) rfl) rfl
theorem g3_220 : (Jvm.Cond.methodLink "JointedShadowsLaw" (53 : Nat) ({ cls := "JointedShadowsModel", name := "box", desc := "(IIII)J" } : Jvm.MethodName)) ∈ GT := gmem3 (List.mem_of_getElem? (i := 220) rfl) rfl
theorem g3_221 : (Jvm.Cond.instanceMethod ({ cls := "JointedShadowsModel", name := "box", desc := "(IIII)J" } : Jvm.MethodName)) ∈ GT := gmem3 (List.mem_of_getElem? (i := 221) rfl) rfl
theorem g3_222 : (Jvm.Cond.selects "JointedShadowsModel" ({ cls := "JointedShadowsModel", name := "box", desc := "(IIII)J" } : Jvm.MethodName) ({ cls := "JointedShadowsModel", name := "box", desc := "(IIII)J" } : Jvm.MethodName)) ∈ GT := gmem3 (List.mem_of_getElem? (i := 222) rfl) rfl
theorem g3_223 : (Jvm.Cond.code ({ cls := "JointedShadowsModel", name := "box", desc := "(IIII)J" } : Jvm.MethodName) prog_9_method_28_code (5 : Nat) (Option.some Jvm.ClassFile.FieldType.long)) ∈ GT := gmem3 (List.mem_of_getElem? (i := 223) rfl) rfl
theorem g3_224 : (Jvm.Cond.methodLink "JointedShadowsModel" (149 : Nat) ({ cls := "JointedShadowsModel", name := "measure", desc := "(II)J" } : Jvm.MethodName)) ∈ GT := gmem3 (List.mem_of_getElem? (i := 224) rfl) rfl
theorem g3_226 : (Jvm.Cond.instanceMethod ({ cls := "JointedShadowsModel", name := "measure", desc := "(II)J" } : Jvm.MethodName)) ∈ GT := gmem3 (List.mem_of_getElem? (i := 226) rfl) rfl
theorem g3_227 : (Jvm.Cond.code ({ cls := "JointedShadowsModel", name := "measure", desc := "(II)J" } : Jvm.MethodName) prog_9_method_27_code (3 : Nat) (Option.some Jvm.ClassFile.FieldType.long)) ∈ GT := gmem3 (List.mem_of_getElem? (i := 227) rfl) rfl
theorem g3_228 : (Jvm.Cond.methodLink "JointedShadowsModel" (145 : Nat) ({ cls := "JointedShadowsModel", name := "reach", desc := "(IZI)J" } : Jvm.MethodName)) ∈ GT := gmem3 (List.mem_of_getElem? (i := 228) rfl) rfl
theorem g3_230 : (Jvm.Cond.instanceMethod ({ cls := "JointedShadowsModel", name := "reach", desc := "(IZI)J" } : Jvm.MethodName)) ∈ GT := gmem3 (List.mem_of_getElem? (i := 230) rfl) rfl
theorem g3_231 : (Jvm.Cond.code ({ cls := "JointedShadowsModel", name := "reach", desc := "(IZI)J" } : Jvm.MethodName) prog_9_method_26_code (7 : Nat) (Option.some Jvm.ClassFile.FieldType.long)) ∈ GT := gmem3 (List.mem_of_getElem? (i := 231) rfl) rfl
theorem g3_232 : (Jvm.Cond.methodLink "JointedShadowsModel" (142 : Nat) ({ cls := "JointedShadowsModel", name := "most", desc := "(JJ)J" } : Jvm.MethodName)) ∈ GT := gmem3 (List.mem_of_getElem? (i := 232) rfl) rfl
theorem g3_233 : (Jvm.Cond.static ({ cls := "JointedShadowsModel", name := "most", desc := "(JJ)J" } : Jvm.MethodName)) ∈ GT := gmem3 (List.mem_of_getElem? (i := 233) rfl) rfl
theorem g3_234 : (Jvm.Cond.code ({ cls := "JointedShadowsModel", name := "most", desc := "(JJ)J" } : Jvm.MethodName) prog_9_method_5_code (4 : Nat) (Option.some Jvm.ClassFile.FieldType.long)) ∈ GT := gmem3 (List.mem_of_getElem? (i := 234) rfl) rfl
theorem g3_235 : (Jvm.Cond.methodLink "JointedShadowsModel" (153 : Nat) ({ cls := "JointedShadowsModel", name := "partOf", desc := "(JJI)J" } : Jvm.MethodName)) ∈ GT := gmem3 (List.mem_of_getElem? (i := 235) rfl) rfl
theorem g3_236 : (Jvm.Cond.static ({ cls := "JointedShadowsModel", name := "partOf", desc := "(JJI)J" } : Jvm.MethodName)) ∈ GT := gmem3 (List.mem_of_getElem? (i := 236) rfl) rfl
theorem g3_237 : (Jvm.Cond.code ({ cls := "JointedShadowsModel", name := "partOf", desc := "(JJI)J" } : Jvm.MethodName) prog_9_method_25_code (5 : Nat) (Option.some Jvm.ClassFile.FieldType.long)) ∈ GT := gmem3 (List.mem_of_getElem? (i := 237) rfl) rfl
theorem g3_238 : (Jvm.Cond.methodLink "JointedShadowsModel" (138 : Nat) ({ cls := "JointedShadowsModel", name := "common", desc := "(JJ)J" } : Jvm.MethodName)) ∈ GT := gmem3 (List.mem_of_getElem? (i := 238) rfl) rfl
theorem g3_239 : (Jvm.Cond.static ({ cls := "JointedShadowsModel", name := "common", desc := "(JJ)J" } : Jvm.MethodName)) ∈ GT := gmem3 (List.mem_of_getElem? (i := 239) rfl) rfl
theorem g4_0 : (Jvm.Cond.code ({ cls := "JointedShadowsModel", name := "common", desc := "(JJ)J" } : Jvm.MethodName) prog_9_method_24_code (10 : Nat) (Option.some Jvm.ClassFile.FieldType.long)) ∈ GT := gmem4 (List.mem_of_getElem? (i := 0) rfl) rfl
theorem g4_1 : (Jvm.Cond.methodLink "JointedShadowsLaw" (57 : Nat) ({ cls := "JointedShadowsModel", name := "overlap", desc := "(IIII)J" } : Jvm.MethodName)) ∈ GT := gmem4 (List.mem_of_getElem? (i := 1) rfl) rfl
theorem g4_2 : (Jvm.Cond.instanceMethod ({ cls := "JointedShadowsModel", name := "overlap", desc := "(IIII)J" } : Jvm.MethodName)) ∈ GT := gmem4 (List.mem_of_getElem? (i := 2) rfl) rfl
theorem g4_3 : (Jvm.Cond.selects "JointedShadowsModel" ({ cls := "JointedShadowsModel", name := "overlap", desc := "(IIII)J" } : Jvm.MethodName) ({ cls := "JointedShadowsModel", name := "overlap", desc := "(IIII)J" } : Jvm.MethodName)) ∈ GT := gmem4 (List.mem_of_getElem? (i := 3) rfl) rfl
theorem g4_4 : (Jvm.Cond.code ({ cls := "JointedShadowsModel", name := "overlap", desc := "(IIII)J" } : Jvm.MethodName) prog_9_method_30_code (13 : Nat) (Option.some Jvm.ClassFile.FieldType.long)) ∈ GT := gmem4 (List.mem_of_getElem? (i := 4) rfl) rfl
theorem g4_5 : (Jvm.Cond.methodLink "JointedShadowsModel" (160 : Nat) ({ cls := "JointedShadowsModel", name := "along", desc := "(IIII)J" } : Jvm.MethodName)) ∈ GT := gmem4 (List.mem_of_getElem? (i := 5) rfl) rfl
theorem g4_7 : (Jvm.Cond.instanceMethod ({ cls := "JointedShadowsModel", name := "along", desc := "(IIII)J" } : Jvm.MethodName)) ∈ GT := gmem4 (List.mem_of_getElem? (i := 7) rfl) rfl
theorem g4_8 : (Jvm.Cond.code ({ cls := "JointedShadowsModel", name := "along", desc := "(IIII)J" } : Jvm.MethodName) prog_9_method_29_code (7 : Nat) (Option.some Jvm.ClassFile.FieldType.long)) ∈ GT := gmem4 (List.mem_of_getElem? (i := 8) rfl) rfl
theorem g4_9 : (Jvm.Cond.methodLink "JointedShadowsModel" (157 : Nat) ({ cls := "JointedShadowsModel", name := "least", desc := "(JJ)J" } : Jvm.MethodName)) ∈ GT := gmem4 (List.mem_of_getElem? (i := 9) rfl) rfl
theorem g4_10 : (Jvm.Cond.static ({ cls := "JointedShadowsModel", name := "least", desc := "(JJ)J" } : Jvm.MethodName)) ∈ GT := gmem4 (List.mem_of_getElem? (i := 10) rfl) rfl
theorem g4_11 : (Jvm.Cond.code ({ cls := "JointedShadowsModel", name := "least", desc := "(JJ)J" } : Jvm.MethodName) prog_9_method_4_code (4 : Nat) (Option.some Jvm.ClassFile.FieldType.long)) ∈ GT := gmem4 (List.mem_of_getElem? (i := 11) rfl) rfl
theorem g4_12 : (Jvm.Cond.methodLink "JointedShadowsLaw" (61 : Nat) ({ cls := "JointedShadowsModel", name := "crossings", desc := "(III)I" } : Jvm.MethodName)) ∈ GT := gmem4 (List.mem_of_getElem? (i := 12) rfl) rfl
theorem g4_13 : (Jvm.Cond.instanceMethod ({ cls := "JointedShadowsModel", name := "crossings", desc := "(III)I" } : Jvm.MethodName)) ∈ GT := gmem4 (List.mem_of_getElem? (i := 13) rfl) rfl
theorem g4_14 : (Jvm.Cond.selects "JointedShadowsModel" ({ cls := "JointedShadowsModel", name := "crossings", desc := "(III)I" } : Jvm.MethodName) ({ cls := "JointedShadowsModel", name := "crossings", desc := "(III)I" } : Jvm.MethodName)) ∈ GT := gmem4 (List.mem_of_getElem? (i := 14) rfl) rfl
theorem g4_15 : (Jvm.Cond.code ({ cls := "JointedShadowsModel", name := "crossings", desc := "(III)I" } : Jvm.MethodName) prog_9_method_40_code (5 : Nat) (Option.some Jvm.ClassFile.FieldType.int)) ∈ GT := gmem4 (List.mem_of_getElem? (i := 15) rfl) rfl
theorem g4_16 : (Jvm.Cond.methodLink "JointedShadowsModel" (191 : Nat) ({ cls := "JointedShadowsModel", name := "twoBarred", desc := "(III)I" } : Jvm.MethodName)) ∈ GT := gmem4 (List.mem_of_getElem? (i := 16) rfl) rfl
theorem g4_18 : (Jvm.Cond.instanceMethod ({ cls := "JointedShadowsModel", name := "twoBarred", desc := "(III)I" } : Jvm.MethodName)) ∈ GT := gmem4 (List.mem_of_getElem? (i := 18) rfl) rfl
theorem g4_19 : (Jvm.Cond.code ({ cls := "JointedShadowsModel", name := "twoBarred", desc := "(III)I" } : Jvm.MethodName) prog_9_method_39_code (4 : Nat) (Option.some Jvm.ClassFile.FieldType.int)) ∈ GT := gmem4 (List.mem_of_getElem? (i := 19) rfl) rfl
theorem g4_20 : (Jvm.Cond.methodLink "JointedShadowsModel" (195 : Nat) ({ cls := "JointedShadowsModel", name := "crossingsNow", desc := "(II)I" } : Jvm.MethodName)) ∈ GT := gmem4 (List.mem_of_getElem? (i := 20) rfl) rfl
theorem g4_22 : (Jvm.Cond.instanceMethod ({ cls := "JointedShadowsModel", name := "crossingsNow", desc := "(II)I" } : Jvm.MethodName)) ∈ GT := gmem4 (List.mem_of_getElem? (i := 22) rfl) rfl
theorem g4_23 : (Jvm.Cond.code ({ cls := "JointedShadowsModel", name := "crossingsNow", desc := "(II)I" } : Jvm.MethodName) prog_9_method_38_code (6 : Nat) (Option.some Jvm.ClassFile.FieldType.int)) ∈ GT := gmem4 (List.mem_of_getElem? (i := 23) rfl) rfl
theorem g4_24 : (Jvm.Cond.methodLink "JointedShadowsModel" (183 : Nat) ({ cls := "JointedShadowsModel", name := "layEnds", desc := "(IIIJ)V" } : Jvm.MethodName)) ∈ GT := gmem4 (List.mem_of_getElem? (i := 24) rfl) rfl
theorem g4_26 : (Jvm.Cond.instanceMethod ({ cls := "JointedShadowsModel", name := "layEnds", desc := "(IIIJ)V" } : Jvm.MethodName)) ∈ GT := gmem4 (List.mem_of_getElem? (i := 26) rfl) rfl
theorem g4_27 : (Jvm.Cond.code ({ cls := "JointedShadowsModel", name := "layEnds", desc := "(IIIJ)V" } : Jvm.MethodName) prog_9_method_34_code (8 : Nat) (Option.none : Option Jvm.ClassFile.FieldType)) ∈ GT := gmem4 (List.mem_of_getElem? (i := 27) rfl) rfl
theorem g4_28 : (Jvm.Cond.methodLink "JointedShadowsModel" (187 : Nat) ({ cls := "JointedShadowsModel", name := "doMeet", desc := "()Z" } : Jvm.MethodName)) ∈ GT := gmem4 (List.mem_of_getElem? (i := 28) rfl) rfl
theorem g4_30 : (Jvm.Cond.instanceMethod ({ cls := "JointedShadowsModel", name := "doMeet", desc := "()Z" } : Jvm.MethodName)) ∈ GT := gmem4 (List.mem_of_getElem? (i := 30) rfl) rfl
theorem g4_31 : (Jvm.Cond.code ({ cls := "JointedShadowsModel", name := "doMeet", desc := "()Z" } : Jvm.MethodName) prog_9_method_37_code (2 : Nat) (Option.some Jvm.ClassFile.FieldType.boolean)) ∈ GT := gmem4 (List.mem_of_getElem? (i := 31) rfl) rfl
theorem g4_32 : (Jvm.Cond.methodLink "JointedShadowsModel" (176 : Nat) ({ cls := "JointedShadowsModel", name := "isOnSegment", desc := "(II)Z" } : Jvm.MethodName)) ∈ GT := gmem4 (List.mem_of_getElem? (i := 32) rfl) rfl
theorem g4_34 : (Jvm.Cond.instanceMethod ({ cls := "JointedShadowsModel", name := "isOnSegment", desc := "(II)Z" } : Jvm.MethodName)) ∈ GT := gmem4 (List.mem_of_getElem? (i := 34) rfl) rfl
theorem g4_35 : (Jvm.Cond.code ({ cls := "JointedShadowsModel", name := "isOnSegment", desc := "(II)Z" } : Jvm.MethodName) prog_9_method_36_code (3 : Nat) (Option.some Jvm.ClassFile.FieldType.boolean)) ∈ GT := gmem4 (List.mem_of_getElem? (i := 35) rfl) rfl
theorem g4_36 : (Jvm.Cond.methodLink "JointedShadowsModel" (172 : Nat) ({ cls := "JointedShadowsModel", name := "isOn", desc := "(JJJJJJ)Z" } : Jvm.MethodName)) ∈ GT := gmem4 (List.mem_of_getElem? (i := 36) rfl) rfl
theorem g4_37 : (Jvm.Cond.static ({ cls := "JointedShadowsModel", name := "isOn", desc := "(JJJJJJ)Z" } : Jvm.MethodName)) ∈ GT := gmem4 (List.mem_of_getElem? (i := 37) rfl) rfl
theorem g4_38 : (Jvm.Cond.code ({ cls := "JointedShadowsModel", name := "isOn", desc := "(JJJJJJ)Z" } : Jvm.MethodName) prog_9_method_33_code (12 : Nat) (Option.some Jvm.ClassFile.FieldType.boolean)) ∈ GT := gmem4 (List.mem_of_getElem? (i := 38) rfl) rfl
theorem g4_39 : (Jvm.Cond.methodLink "JointedShadowsModel" (164 : Nat) ({ cls := "JointedShadowsModel", name := "side", desc := "(JJJJJJ)I" } : Jvm.MethodName)) ∈ GT := gmem4 (List.mem_of_getElem? (i := 39) rfl) rfl
theorem g4_40 : (Jvm.Cond.static ({ cls := "JointedShadowsModel", name := "side", desc := "(JJJJJJ)I" } : Jvm.MethodName)) ∈ GT := gmem4 (List.mem_of_getElem? (i := 40) rfl) rfl
theorem g4_41 : (Jvm.Cond.code ({ cls := "JointedShadowsModel", name := "side", desc := "(JJJJJJ)I" } : Jvm.MethodName) prog_9_method_31_code (14 : Nat) (Option.some Jvm.ClassFile.FieldType.int)) ∈ GT := gmem4 (List.mem_of_getElem? (i := 41) rfl) rfl
theorem g4_42 : (Jvm.Cond.methodLink "JointedShadowsModel" (168 : Nat) ({ cls := "JointedShadowsModel", name := "isBetween", desc := "(JJJ)Z" } : Jvm.MethodName)) ∈ GT := gmem4 (List.mem_of_getElem? (i := 42) rfl) rfl
theorem g4_43 : (Jvm.Cond.static ({ cls := "JointedShadowsModel", name := "isBetween", desc := "(JJJ)Z" } : Jvm.MethodName)) ∈ GT := gmem4 (List.mem_of_getElem? (i := 43) rfl) rfl
theorem g4_44 : (Jvm.Cond.code ({ cls := "JointedShadowsModel", name := "isBetween", desc := "(JJJ)Z" } : Jvm.MethodName) prog_9_method_32_code (6 : Nat) (Option.some Jvm.ClassFile.FieldType.boolean)) ∈ GT := gmem4 (List.mem_of_getElem? (i := 44) rfl) rfl
theorem g4_45 : (Jvm.Cond.methodLink "JointedShadowsModel" (179 : Nat) ({ cls := "JointedShadowsModel", name := "sideOf", desc := "(II)I" } : Jvm.MethodName)) ∈ GT := gmem4 (List.mem_of_getElem? (i := 45) rfl) rfl
theorem g4_47 : (Jvm.Cond.instanceMethod ({ cls := "JointedShadowsModel", name := "sideOf", desc := "(II)I" } : Jvm.MethodName)) ∈ GT := gmem4 (List.mem_of_getElem? (i := 47) rfl) rfl
theorem g4_48 : (Jvm.Cond.code ({ cls := "JointedShadowsModel", name := "sideOf", desc := "(II)I" } : Jvm.MethodName) prog_9_method_35_code (3 : Nat) (Option.some Jvm.ClassFile.FieldType.int)) ∈ GT := gmem4 (List.mem_of_getElem? (i := 48) rfl) rfl
theorem g4_49 : (Jvm.Cond.methodLink "JointedShadowsLaw" (65 : Nat) ({ cls := "JointedShadowsModel", name := "nextCrossing", desc := "(III)I" } : Jvm.MethodName)) ∈ GT := gmem4 (List.mem_of_getElem? (i := 49) rfl) rfl
theorem g4_50 : (Jvm.Cond.instanceMethod ({ cls := "JointedShadowsModel", name := "nextCrossing", desc := "(III)I" } : Jvm.MethodName)) ∈ GT := gmem4 (List.mem_of_getElem? (i := 50) rfl) rfl
theorem g4_51 : (Jvm.Cond.selects "JointedShadowsModel" ({ cls := "JointedShadowsModel", name := "nextCrossing", desc := "(III)I" } : Jvm.MethodName) ({ cls := "JointedShadowsModel", name := "nextCrossing", desc := "(III)I" } : Jvm.MethodName)) ∈ GT := gmem4 (List.mem_of_getElem? (i := 51) rfl) rfl
theorem g4_52 : (Jvm.Cond.code ({ cls := "JointedShadowsModel", name := "nextCrossing", desc := "(III)I" } : Jvm.MethodName) prog_9_method_41_code (6 : Nat) (Option.some Jvm.ClassFile.FieldType.int)) ∈ GT := gmem4 (List.mem_of_getElem? (i := 52) rfl) rfl
theorem g4_53 : (Jvm.Cond.methodLink "JointedShadowsLaw" (69 : Nat) ({ cls := "JointedShadowsModel", name := "within", desc := "(III)I" } : Jvm.MethodName)) ∈ GT := gmem4 (List.mem_of_getElem? (i := 53) rfl) rfl
theorem g4_54 : (Jvm.Cond.instanceMethod ({ cls := "JointedShadowsModel", name := "within", desc := "(III)I" } : Jvm.MethodName)) ∈ GT := gmem4 (List.mem_of_getElem? (i := 54) rfl) rfl
theorem g4_55 : (Jvm.Cond.selects "JointedShadowsModel" ({ cls := "JointedShadowsModel", name := "within", desc := "(III)I" } : Jvm.MethodName) ({ cls := "JointedShadowsModel", name := "within", desc := "(III)I" } : Jvm.MethodName)) ∈ GT := gmem4 (List.mem_of_getElem? (i := 55) rfl) rfl
theorem g4_56 : (Jvm.Cond.code ({ cls := "JointedShadowsModel", name := "within", desc := "(III)I" } : Jvm.MethodName) prog_9_method_43_code (6 : Nat) (Option.some Jvm.ClassFile.FieldType.int)) ∈ GT := gmem4 (List.mem_of_getElem? (i := 56) rfl) rfl
theorem g4_57 : (Jvm.Cond.methodLink "JointedShadowsModel" (198 : Nat) ({ cls := "JointedShadowsModel", name := "isWithin", desc := "(IJJ)Z" } : Jvm.MethodName)) ∈ GT := gmem4 (List.mem_of_getElem? (i := 57) rfl) rfl
theorem g4_59 : (Jvm.Cond.instanceMethod ({ cls := "JointedShadowsModel", name := "isWithin", desc := "(IJJ)Z" } : Jvm.MethodName)) ∈ GT := gmem4 (List.mem_of_getElem? (i := 59) rfl) rfl
theorem g4_60 : (Jvm.Cond.code ({ cls := "JointedShadowsModel", name := "isWithin", desc := "(IJJ)Z" } : Jvm.MethodName) prog_9_method_42_code (10 : Nat) (Option.some Jvm.ClassFile.FieldType.boolean)) ∈ GT := gmem4 (List.mem_of_getElem? (i := 60) rfl) rfl
theorem g4_61 : (Jvm.Cond.methodLink "JointedShadowsLaw" (73 : Nat) ({ cls := "JointedShadowsModel", name := "highest", desc := "(I)I" } : Jvm.MethodName)) ∈ GT := gmem4 (List.mem_of_getElem? (i := 61) rfl) rfl
theorem g4_62 : (Jvm.Cond.instanceMethod ({ cls := "JointedShadowsModel", name := "highest", desc := "(I)I" } : Jvm.MethodName)) ∈ GT := gmem4 (List.mem_of_getElem? (i := 62) rfl) rfl
theorem g4_63 : (Jvm.Cond.selects "JointedShadowsModel" ({ cls := "JointedShadowsModel", name := "highest", desc := "(I)I" } : Jvm.MethodName) ({ cls := "JointedShadowsModel", name := "highest", desc := "(I)I" } : Jvm.MethodName)) ∈ GT := gmem4 (List.mem_of_getElem? (i := 63) rfl) rfl
theorem g4_64 : (Jvm.Cond.code ({ cls := "JointedShadowsModel", name := "highest", desc := "(I)I" } : Jvm.MethodName) prog_9_method_44_code (5 : Nat) (Option.some Jvm.ClassFile.FieldType.int)) ∈ GT := gmem4 (List.mem_of_getElem? (i := 64) rfl) rfl
theorem g4_65 : (Jvm.Cond.methodLink "JointedShadowsLaw" (77 : Nat) ({ cls := "JointedShadowsModel", name := "planeFor", desc := "(III)I" } : Jvm.MethodName)) ∈ GT := gmem4 (List.mem_of_getElem? (i := 65) rfl) rfl
theorem g4_66 : (Jvm.Cond.instanceMethod ({ cls := "JointedShadowsModel", name := "planeFor", desc := "(III)I" } : Jvm.MethodName)) ∈ GT := gmem4 (List.mem_of_getElem? (i := 66) rfl) rfl
theorem g4_67 : (Jvm.Cond.selects "JointedShadowsModel" ({ cls := "JointedShadowsModel", name := "planeFor", desc := "(III)I" } : Jvm.MethodName) ({ cls := "JointedShadowsModel", name := "planeFor", desc := "(III)I" } : Jvm.MethodName)) ∈ GT := gmem4 (List.mem_of_getElem? (i := 67) rfl) rfl
theorem g4_68 : (Jvm.Cond.code ({ cls := "JointedShadowsModel", name := "planeFor", desc := "(III)I" } : Jvm.MethodName) prog_9_method_45_code (7 : Nat) (Option.some Jvm.ClassFile.FieldType.int)) ∈ GT := gmem4 (List.mem_of_getElem? (i := 68) rfl) rfl
theorem g4_69 : (Jvm.Cond.constant "JointedShadowsModel" (202 : Nat) (100000 : Int32)) ∈ GT := gmem4 (List.mem_of_getElem? (i := 69) rfl) rfl
theorem g4_70 : (Jvm.Cond.methodLink "JointedShadowsLaw" (81 : Nat) ({ cls := "JointedShadowsModel", name := "hands", desc := "(I)I" } : Jvm.MethodName)) ∈ GT := gmem4 (List.mem_of_getElem? (i := 70) rfl) rfl
theorem g4_71 : (Jvm.Cond.instanceMethod ({ cls := "JointedShadowsModel", name := "hands", desc := "(I)I" } : Jvm.MethodName)) ∈ GT := gmem4 (List.mem_of_getElem? (i := 71) rfl) rfl
theorem g4_72 : (Jvm.Cond.selects "JointedShadowsModel" ({ cls := "JointedShadowsModel", name := "hands", desc := "(I)I" } : Jvm.MethodName) ({ cls := "JointedShadowsModel", name := "hands", desc := "(I)I" } : Jvm.MethodName)) ∈ GT := gmem4 (List.mem_of_getElem? (i := 72) rfl) rfl
theorem g4_73 : (Jvm.Cond.code ({ cls := "JointedShadowsModel", name := "hands", desc := "(I)I" } : Jvm.MethodName) prog_9_method_50_code (2 : Nat) (Option.some Jvm.ClassFile.FieldType.int)) ∈ GT := gmem4 (List.mem_of_getElem? (i := 73) rfl) rfl
theorem g4_74 : (Jvm.Cond.methodLink "JointedShadowsModel" (212 : Nat) ({ cls := "JointedShadowsModel", name := "handsIn", desc := "(I)I" } : Jvm.MethodName)) ∈ GT := gmem4 (List.mem_of_getElem? (i := 74) rfl) rfl
theorem g4_76 : (Jvm.Cond.instanceMethod ({ cls := "JointedShadowsModel", name := "handsIn", desc := "(I)I" } : Jvm.MethodName)) ∈ GT := gmem4 (List.mem_of_getElem? (i := 76) rfl) rfl
theorem g4_77 : (Jvm.Cond.code ({ cls := "JointedShadowsModel", name := "handsIn", desc := "(I)I" } : Jvm.MethodName) prog_9_method_49_code (4 : Nat) (Option.some Jvm.ClassFile.FieldType.int)) ∈ GT := gmem4 (List.mem_of_getElem? (i := 77) rfl) rfl
theorem g4_78 : (Jvm.Cond.methodLink "JointedShadowsModel" (209 : Nat) ({ cls := "JointedShadowsModel", name := "handsOf", desc := "(II)I" } : Jvm.MethodName)) ∈ GT := gmem4 (List.mem_of_getElem? (i := 78) rfl) rfl
theorem g4_80 : (Jvm.Cond.instanceMethod ({ cls := "JointedShadowsModel", name := "handsOf", desc := "(II)I" } : Jvm.MethodName)) ∈ GT := gmem4 (List.mem_of_getElem? (i := 80) rfl) rfl
theorem g4_81 : (Jvm.Cond.code ({ cls := "JointedShadowsModel", name := "handsOf", desc := "(II)I" } : Jvm.MethodName) prog_9_method_48_code (9 : Nat) (Option.some Jvm.ClassFile.FieldType.int)) ∈ GT := gmem4 (List.mem_of_getElem? (i := 81) rfl) rfl
theorem g4_82 : (Jvm.Cond.methodLink "JointedShadowsModel" (203 : Nat) ({ cls := "JointedShadowsModel", name := "activeOf", desc := "(II)I" } : Jvm.MethodName)) ∈ GT := gmem4 (List.mem_of_getElem? (i := 82) rfl) rfl
theorem g4_84 : (Jvm.Cond.instanceMethod ({ cls := "JointedShadowsModel", name := "activeOf", desc := "(II)I" } : Jvm.MethodName)) ∈ GT := gmem4 (List.mem_of_getElem? (i := 84) rfl) rfl
theorem g4_85 : (Jvm.Cond.code ({ cls := "JointedShadowsModel", name := "activeOf", desc := "(II)I" } : Jvm.MethodName) prog_9_method_46_code (6 : Nat) (Option.some Jvm.ClassFile.FieldType.int)) ∈ GT := gmem4 (List.mem_of_getElem? (i := 85) rfl) rfl
theorem g4_86 : (Jvm.Cond.methodLink "JointedShadowsModel" (206 : Nat) ({ cls := "JointedShadowsModel", name := "bits", desc := "(I)I" } : Jvm.MethodName)) ∈ GT := gmem4 (List.mem_of_getElem? (i := 86) rfl) rfl
theorem g4_87 : (Jvm.Cond.static ({ cls := "JointedShadowsModel", name := "bits", desc := "(I)I" } : Jvm.MethodName)) ∈ GT := gmem4 (List.mem_of_getElem? (i := 87) rfl) rfl
theorem g4_88 : (Jvm.Cond.code ({ cls := "JointedShadowsModel", name := "bits", desc := "(I)I" } : Jvm.MethodName) prog_9_method_47_code (3 : Nat) (Option.some Jvm.ClassFile.FieldType.int)) ∈ GT := gmem4 (List.mem_of_getElem? (i := 88) rfl) rfl
theorem g4_89 : (Jvm.Cond.methodLink "JointedShadowsLaw" (86 : Nat) ({ cls := "JointedShadowsModel", name := "busiestBeat", desc := "()I" } : Jvm.MethodName)) ∈ GT := gmem4 (List.mem_of_getElem? (i := 89) rfl) rfl
theorem g4_90 : (Jvm.Cond.instanceMethod ({ cls := "JointedShadowsModel", name := "busiestBeat", desc := "()I" } : Jvm.MethodName)) ∈ GT := gmem4 (List.mem_of_getElem? (i := 90) rfl) rfl
theorem g4_91 : (Jvm.Cond.selects "JointedShadowsModel" ({ cls := "JointedShadowsModel", name := "busiestBeat", desc := "()I" } : Jvm.MethodName) ({ cls := "JointedShadowsModel", name := "busiestBeat", desc := "()I" } : Jvm.MethodName)) ∈ GT := gmem4 (List.mem_of_getElem? (i := 91) rfl) rfl
theorem g4_92 : (Jvm.Cond.code ({ cls := "JointedShadowsModel", name := "busiestBeat", desc := "()I" } : Jvm.MethodName) prog_9_method_51_code (5 : Nat) (Option.some Jvm.ClassFile.FieldType.int)) ∈ GT := gmem4 (List.mem_of_getElem? (i := 92) rfl) rfl
theorem g4_93 : (Jvm.Cond.methodLink "JointedShadowsLaw" (91 : Nat) ({ cls := "JointedShadowsModel", name := "activeRods", desc := "(II)I" } : Jvm.MethodName)) ∈ GT := gmem4 (List.mem_of_getElem? (i := 93) rfl) rfl
theorem g4_94 : (Jvm.Cond.instanceMethod ({ cls := "JointedShadowsModel", name := "activeRods", desc := "(II)I" } : Jvm.MethodName)) ∈ GT := gmem4 (List.mem_of_getElem? (i := 94) rfl) rfl
theorem g4_95 : (Jvm.Cond.selects "JointedShadowsModel" ({ cls := "JointedShadowsModel", name := "activeRods", desc := "(II)I" } : Jvm.MethodName) ({ cls := "JointedShadowsModel", name := "activeRods", desc := "(II)I" } : Jvm.MethodName)) ∈ GT := gmem4 (List.mem_of_getElem? (i := 95) rfl) rfl
theorem g4_96 : (Jvm.Cond.code ({ cls := "JointedShadowsModel", name := "activeRods", desc := "(II)I" } : Jvm.MethodName) prog_9_method_52_code (3 : Nat) (Option.some Jvm.ClassFile.FieldType.int)) ∈ GT := gmem4 (List.mem_of_getElem? (i := 96) rfl) rfl
theorem g4_97 : (Jvm.Cond.methodLink "JointedShadowsLaw" (95 : Nat) ({ cls := "JointedShadowsModel", name := "addScene", desc := "(I)I" } : Jvm.MethodName)) ∈ GT := gmem4 (List.mem_of_getElem? (i := 97) rfl) rfl
theorem g4_98 : (Jvm.Cond.instanceMethod ({ cls := "JointedShadowsModel", name := "addScene", desc := "(I)I" } : Jvm.MethodName)) ∈ GT := gmem4 (List.mem_of_getElem? (i := 98) rfl) rfl
theorem g4_99 : (Jvm.Cond.selects "JointedShadowsModel" ({ cls := "JointedShadowsModel", name := "addScene", desc := "(I)I" } : Jvm.MethodName) ({ cls := "JointedShadowsModel", name := "addScene", desc := "(I)I" } : Jvm.MethodName)) ∈ GT := gmem4 (List.mem_of_getElem? (i := 99) rfl) rfl
theorem g4_100 : (Jvm.Cond.code ({ cls := "JointedShadowsModel", name := "addScene", desc := "(I)I" } : Jvm.MethodName) prog_9_method_53_code (2 : Nat) (Option.some Jvm.ClassFile.FieldType.int)) ∈ GT := gmem4 (List.mem_of_getElem? (i := 100) rfl) rfl
theorem g4_101 : (Jvm.Cond.methodLink "JointedShadowsLaw" (99 : Nat) ({ cls := "JointedShadowsModel", name := "clearScenes", desc := "()I" } : Jvm.MethodName)) ∈ GT := gmem4 (List.mem_of_getElem? (i := 101) rfl) rfl
theorem g4_102 : (Jvm.Cond.instanceMethod ({ cls := "JointedShadowsModel", name := "clearScenes", desc := "()I" } : Jvm.MethodName)) ∈ GT := gmem4 (List.mem_of_getElem? (i := 102) rfl) rfl
theorem g4_103 : (Jvm.Cond.selects "JointedShadowsModel" ({ cls := "JointedShadowsModel", name := "clearScenes", desc := "()I" } : Jvm.MethodName) ({ cls := "JointedShadowsModel", name := "clearScenes", desc := "()I" } : Jvm.MethodName)) ∈ GT := gmem4 (List.mem_of_getElem? (i := 103) rfl) rfl
theorem g4_104 : (Jvm.Cond.code ({ cls := "JointedShadowsModel", name := "clearScenes", desc := "()I" } : Jvm.MethodName) prog_9_method_54_code (2 : Nat) (Option.some Jvm.ClassFile.FieldType.int)) ∈ GT := gmem4 (List.mem_of_getElem? (i := 104) rfl) rfl
theorem g4_105 : (Jvm.Cond.methodLink "JointedShadowsLaw" (103 : Nat) ({ cls := "JointedShadowsModel", name := "bestScene", desc := "(I)I" } : Jvm.MethodName)) ∈ GT := gmem4 (List.mem_of_getElem? (i := 105) rfl) rfl
theorem g4_106 : (Jvm.Cond.instanceMethod ({ cls := "JointedShadowsModel", name := "bestScene", desc := "(I)I" } : Jvm.MethodName)) ∈ GT := gmem4 (List.mem_of_getElem? (i := 106) rfl) rfl
theorem g4_107 : (Jvm.Cond.selects "JointedShadowsModel" ({ cls := "JointedShadowsModel", name := "bestScene", desc := "(I)I" } : Jvm.MethodName) ({ cls := "JointedShadowsModel", name := "bestScene", desc := "(I)I" } : Jvm.MethodName)) ∈ GT := gmem4 (List.mem_of_getElem? (i := 107) rfl) rfl
theorem g4_108 : (Jvm.Cond.code ({ cls := "JointedShadowsModel", name := "bestScene", desc := "(I)I" } : Jvm.MethodName) prog_9_method_59_code (2 : Nat) (Option.some Jvm.ClassFile.FieldType.int)) ∈ GT := gmem4 (List.mem_of_getElem? (i := 108) rfl) rfl
theorem g4_109 : (Jvm.Cond.methodLink "JointedShadowsModel" (226 : Nat) ({ cls := "JointedShadowsModel", name := "findOrder", desc := "()I" } : Jvm.MethodName)) ∈ GT := gmem4 (List.mem_of_getElem? (i := 109) rfl) rfl
theorem g4_111 : (Jvm.Cond.instanceMethod ({ cls := "JointedShadowsModel", name := "findOrder", desc := "()I" } : Jvm.MethodName)) ∈ GT := gmem4 (List.mem_of_getElem? (i := 111) rfl) rfl
theorem g4_112 : (Jvm.Cond.code ({ cls := "JointedShadowsModel", name := "findOrder", desc := "()I" } : Jvm.MethodName) prog_9_method_58_code (6 : Nat) (Option.some Jvm.ClassFile.FieldType.int)) ∈ GT := gmem4 (List.mem_of_getElem? (i := 112) rfl) rfl
theorem g4_113 : (Jvm.Cond.methodLink "JointedShadowsModel" (219 : Nat) ({ cls := "JointedShadowsModel", name := "costNow", desc := "()I" } : Jvm.MethodName)) ∈ GT := gmem4 (List.mem_of_getElem? (i := 113) rfl) rfl
theorem g4_115 : (Jvm.Cond.instanceMethod ({ cls := "JointedShadowsModel", name := "costNow", desc := "()I" } : Jvm.MethodName)) ∈ GT := gmem4 (List.mem_of_getElem? (i := 115) rfl) rfl
theorem g4_116 : (Jvm.Cond.code ({ cls := "JointedShadowsModel", name := "costNow", desc := "()I" } : Jvm.MethodName) prog_9_method_55_code (3 : Nat) (Option.some Jvm.ClassFile.FieldType.int)) ∈ GT := gmem4 (List.mem_of_getElem? (i := 116) rfl) rfl
theorem g4_117 : (Jvm.Cond.methodLink "JointedShadowsModel" (223 : Nat) ({ cls := "JointedShadowsModel", name := "nextOrder", desc := "()Z" } : Jvm.MethodName)) ∈ GT := gmem4 (List.mem_of_getElem? (i := 117) rfl) rfl
theorem g4_119 : (Jvm.Cond.instanceMethod ({ cls := "JointedShadowsModel", name := "nextOrder", desc := "()Z" } : Jvm.MethodName)) ∈ GT := gmem4 (List.mem_of_getElem? (i := 119) rfl) rfl
theorem g4_120 : (Jvm.Cond.code ({ cls := "JointedShadowsModel", name := "nextOrder", desc := "()Z" } : Jvm.MethodName) prog_9_method_57_code (5 : Nat) (Option.some Jvm.ClassFile.FieldType.boolean)) ∈ GT := gmem4 (List.mem_of_getElem? (i := 120) rfl) rfl
theorem g4_121 : (Jvm.Cond.methodLink "JointedShadowsModel" (215 : Nat) ({ cls := "JointedShadowsModel", name := "exchange", desc := "(II)V" } : Jvm.MethodName)) ∈ GT := gmem4 (List.mem_of_getElem? (i := 121) rfl) rfl
theorem g4_123 : (Jvm.Cond.instanceMethod ({ cls := "JointedShadowsModel", name := "exchange", desc := "(II)V" } : Jvm.MethodName)) ∈ GT := gmem4 (List.mem_of_getElem? (i := 123) rfl) rfl
theorem g4_124 : (Jvm.Cond.code ({ cls := "JointedShadowsModel", name := "exchange", desc := "(II)V" } : Jvm.MethodName) prog_9_method_56_code (4 : Nat) (Option.none : Option Jvm.ClassFile.FieldType)) ∈ GT := gmem4 (List.mem_of_getElem? (i := 124) rfl) rfl
theorem g4_125 : (Jvm.Cond.methodLink "JointedShadowsLaw" (107 : Nat) ({ cls := "JointedShadowsModel", name := "bestCost", desc := "()I" } : Jvm.MethodName)) ∈ GT := gmem4 (List.mem_of_getElem? (i := 125) rfl) rfl
theorem g4_126 : (Jvm.Cond.instanceMethod ({ cls := "JointedShadowsModel", name := "bestCost", desc := "()I" } : Jvm.MethodName)) ∈ GT := gmem4 (List.mem_of_getElem? (i := 126) rfl) rfl
theorem g4_127 : (Jvm.Cond.selects "JointedShadowsModel" ({ cls := "JointedShadowsModel", name := "bestCost", desc := "()I" } : Jvm.MethodName) ({ cls := "JointedShadowsModel", name := "bestCost", desc := "()I" } : Jvm.MethodName)) ∈ GT := gmem4 (List.mem_of_getElem? (i := 127) rfl) rfl
theorem g4_128 : (Jvm.Cond.code ({ cls := "JointedShadowsModel", name := "bestCost", desc := "()I" } : Jvm.MethodName) prog_9_method_60_code (1 : Nat) (Option.some Jvm.ClassFile.FieldType.int)) ∈ GT := gmem4 (List.mem_of_getElem? (i := 128) rfl) rfl
end
section
theorem dX0_init_0 : decode cX0_init 0 = .ok (.aload_n 0, 1) := by decide +kernel
theorem dX0_init_1 : decode cX0_init 1 = .ok (.invokespecial 3, 3) := by decide +kernel
theorem dX0_init_4 : decode cX0_init 4 = .ok (.aload_n 0, 1) := by decide +kernel
theorem dX0_init_5 : decode cX0_init 5 = .ok (.bipush 8, 2) := by decide +kernel
theorem dX0_init_7 : decode cX0_init 7 = .ok (.newarray .int, 2) := by decide +kernel
theorem dX0_init_9 : decode cX0_init 9 = .ok (.putfield 9, 3) := by decide +kernel
theorem dX0_init_12 : decode cX0_init 12 = .ok (.aload_n 0, 1) := by decide +kernel
theorem dX0_init_13 : decode cX0_init 13 = .ok (.bipush 8, 2) := by decide +kernel
theorem dX0_init_15 : decode cX0_init 15 = .ok (.newarray .int, 2) := by decide +kernel
theorem dX0_init_17 : decode cX0_init 17 = .ok (.putfield 15, 3) := by decide +kernel
theorem dX0_init_20 : decode cX0_init 20 = .ok (.aload_n 0, 1) := by decide +kernel
theorem dX0_init_21 : decode cX0_init 21 = .ok (.bipush 8, 2) := by decide +kernel
theorem dX0_init_23 : decode cX0_init 23 = .ok (.newarray .int, 2) := by decide +kernel
theorem dX0_init_25 : decode cX0_init 25 = .ok (.putfield 18, 3) := by decide +kernel
theorem dX0_init_28 : decode cX0_init 28 = .ok (.aload_n 0, 1) := by decide +kernel
theorem dX0_init_29 : decode cX0_init 29 = .ok (.iconst 0, 1) := by decide +kernel
theorem dX0_init_30 : decode cX0_init 30 = .ok (.putfield 21, 3) := by decide +kernel
theorem dX0_init_33 : decode cX0_init 33 = .ok (.aload_n 0, 1) := by decide +kernel
theorem dX0_init_34 : decode cX0_init 34 = .ok (.iload_n 1, 1) := by decide +kernel
theorem dX0_init_35 : decode cX0_init 35 = .ok (.putfield 25, 3) := by decide +kernel
theorem dX0_init_38 : decode cX0_init 38 = .ok (.aload_n 0, 1) := by decide +kernel
theorem dX0_init_39 : decode cX0_init 39 = .ok (.iload_n 2, 1) := by decide +kernel
theorem dX0_init_40 : decode cX0_init 40 = .ok (.putfield 28, 3) := by decide +kernel
theorem dX0_init_43 : decode cX0_init 43 = .ok (.aload_n 0, 1) := by decide +kernel
theorem dX0_init_44 : decode cX0_init 44 = .ok (.iload_n 3, 1) := by decide +kernel
theorem dX0_init_45 : decode cX0_init 45 = .ok (.putfield 31, 3) := by decide +kernel
theorem dX0_init_48 : decode cX0_init 48 = .ok (.aload_n 0, 1) := by decide +kernel
theorem dX0_init_49 : decode cX0_init 49 = .ok (.iload 4, 2) := by decide +kernel
theorem dX0_init_51 : decode cX0_init 51 = .ok (.putfield 34, 3) := by decide +kernel
theorem dX0_init_54 : decode cX0_init 54 = .ok (.return_, 1) := by decide +kernel
theorem dX0_hasLimb_0 : decode cX0_hasLimb 0 = .ok (.iload_n 1, 1) := by decide +kernel
theorem dX0_hasLimb_1 : decode cX0_hasLimb 1 = .ok (.iconst 0, 1) := by decide +kernel
theorem dX0_hasLimb_2 : decode cX0_hasLimb 2 = .ok (.aload_n 0, 1) := by decide +kernel
theorem dX0_hasLimb_3 : decode cX0_hasLimb 3 = .ok (.getfield 21, 3) := by decide +kernel
theorem dX0_hasLimb_6 : decode cX0_hasLimb 6 = .ok (.iconst 1, 1) := by decide +kernel
theorem dX0_hasLimb_7 : decode cX0_hasLimb 7 = .ok (.isub, 1) := by decide +kernel
theorem dX0_hasLimb_8 : decode cX0_hasLimb 8 = .ok (.invokestatic 37, 3) := by decide +kernel
theorem dX0_hasLimb_11 : decode cX0_hasLimb 11 = .ok (.ireturn, 1) := by decide +kernel
theorem dX0_grow_0 : decode cX0_grow 0 = .ok (.aload_n 0, 1) := by decide +kernel
theorem dX0_grow_1 : decode cX0_grow 1 = .ok (.getfield 21, 3) := by decide +kernel
theorem dX0_grow_4 : decode cX0_grow 4 = .ok (.bipush 8, 2) := by decide +kernel
theorem dX0_grow_6 : decode cX0_grow 6 = .ok (.if_icmp .lt 6, 3) := by decide +kernel
theorem dX0_grow_9 : decode cX0_grow 9 = .ok (.bipush (-4), 2) := by decide +kernel
theorem dX0_grow_11 : decode cX0_grow 11 = .ok (.ireturn, 1) := by decide +kernel
theorem dX0_grow_12 : decode cX0_grow 12 = .ok (.aload_n 0, 1) := by decide +kernel
theorem dX0_grow_13 : decode cX0_grow 13 = .ok (.getfield 21, 3) := by decide +kernel
theorem dX0_grow_16 : decode cX0_grow 16 = .ok (.istore 4, 2) := by decide +kernel
theorem dX0_grow_18 : decode cX0_grow 18 = .ok (.aload_n 0, 1) := by decide +kernel
theorem dX0_grow_19 : decode cX0_grow 19 = .ok (.getfield 9, 3) := by decide +kernel
theorem dX0_grow_22 : decode cX0_grow 22 = .ok (.iload 4, 2) := by decide +kernel
theorem dX0_grow_24 : decode cX0_grow 24 = .ok (.iload_n 1, 1) := by decide +kernel
theorem dX0_grow_25 : decode cX0_grow 25 = .ok (.iastore, 1) := by decide +kernel
theorem dX0_grow_26 : decode cX0_grow 26 = .ok (.aload_n 0, 1) := by decide +kernel
theorem dX0_grow_27 : decode cX0_grow 27 = .ok (.getfield 15, 3) := by decide +kernel
theorem dX0_grow_30 : decode cX0_grow 30 = .ok (.iload 4, 2) := by decide +kernel
theorem dX0_grow_32 : decode cX0_grow 32 = .ok (.iload_n 2, 1) := by decide +kernel
theorem dX0_grow_33 : decode cX0_grow 33 = .ok (.iastore, 1) := by decide +kernel
theorem dX0_grow_34 : decode cX0_grow 34 = .ok (.aload_n 0, 1) := by decide +kernel
theorem dX0_grow_35 : decode cX0_grow 35 = .ok (.getfield 18, 3) := by decide +kernel
theorem dX0_grow_38 : decode cX0_grow 38 = .ok (.iload 4, 2) := by decide +kernel
theorem dX0_grow_40 : decode cX0_grow 40 = .ok (.iload_n 3, 1) := by decide +kernel
theorem dX0_grow_41 : decode cX0_grow 41 = .ok (.iastore, 1) := by decide +kernel
theorem dX0_grow_42 : decode cX0_grow 42 = .ok (.aload_n 0, 1) := by decide +kernel
theorem dX0_grow_43 : decode cX0_grow 43 = .ok (.dup, 1) := by decide +kernel
theorem dX0_grow_44 : decode cX0_grow 44 = .ok (.getfield 21, 3) := by decide +kernel
theorem dX0_grow_47 : decode cX0_grow 47 = .ok (.iconst 1, 1) := by decide +kernel
theorem dX0_grow_48 : decode cX0_grow 48 = .ok (.iadd, 1) := by decide +kernel
theorem dX0_grow_49 : decode cX0_grow 49 = .ok (.putfield 21, 3) := by decide +kernel
theorem dX0_grow_52 : decode cX0_grow 52 = .ok (.iload 4, 2) := by decide +kernel
theorem dX0_grow_54 : decode cX0_grow 54 = .ok (.ireturn, 1) := by decide +kernel
theorem dX0_start_0 : decode cX0_start 0 = .ok (.aload_n 0, 1) := by decide +kernel
theorem dX0_start_1 : decode cX0_start 1 = .ok (.getfield 9, 3) := by decide +kernel
theorem dX0_start_4 : decode cX0_start 4 = .ok (.iload_n 1, 1) := by decide +kernel
theorem dX0_start_5 : decode cX0_start 5 = .ok (.iaload, 1) := by decide +kernel
theorem dX0_start_6 : decode cX0_start 6 = .ok (.iconst 1, 1) := by decide +kernel
theorem dX0_start_7 : decode cX0_start 7 = .ok (.iadd, 1) := by decide +kernel
theorem dX0_start_8 : decode cX0_start 8 = .ok (.ireturn, 1) := by decide +kernel
theorem dX0_handsFor_0 : decode cX0_handsFor 0 = .ok (.iload_n 1, 1) := by decide +kernel
theorem dX0_handsFor_1 : decode cX0_handsFor 1 = .ok (.invokestatic 41, 3) := by decide +kernel
theorem dX0_handsFor_4 : decode cX0_handsFor 4 = .ok (.istore_n 2, 1) := by decide +kernel
theorem dX0_handsFor_5 : decode cX0_handsFor 5 = .ok (.iload_n 1, 1) := by decide +kernel
theorem dX0_handsFor_6 : decode cX0_handsFor 6 = .ok (.iconst (-1), 1) := by decide +kernel
theorem dX0_handsFor_7 : decode cX0_handsFor 7 = .ok (.invokestatic 47, 3) := by decide +kernel
theorem dX0_handsFor_10 : decode cX0_handsFor 10 = .ok (.iconst (-1), 1) := by decide +kernel
theorem dX0_handsFor_11 : decode cX0_handsFor 11 = .ok (.ixor, 1) := by decide +kernel
theorem dX0_handsFor_12 : decode cX0_handsFor 12 = .ok (.iand, 1) := by decide +kernel
theorem dX0_handsFor_13 : decode cX0_handsFor 13 = .ok (.istore_n 3, 1) := by decide +kernel
theorem dX0_handsFor_14 : decode cX0_handsFor 14 = .ok (.aload_n 0, 1) := by decide +kernel
theorem dX0_handsFor_15 : decode cX0_handsFor 15 = .ok (.getfield 21, 3) := by decide +kernel
theorem dX0_handsFor_18 : decode cX0_handsFor 18 = .ok (.iconst 1, 1) := by decide +kernel
theorem dX0_handsFor_19 : decode cX0_handsFor 19 = .ok (.isub, 1) := by decide +kernel
theorem dX0_handsFor_20 : decode cX0_handsFor 20 = .ok (.istore 4, 2) := by decide +kernel
theorem dX0_handsFor_22 : decode cX0_handsFor 22 = .ok (.iload 4, 2) := by decide +kernel
theorem dX0_handsFor_24 : decode cX0_handsFor 24 = .ok (.ifCond .lt 46, 3) := by decide +kernel
theorem dX0_handsFor_27 : decode cX0_handsFor 27 = .ok (.iload 4, 2) := by decide +kernel
theorem dX0_handsFor_29 : decode cX0_handsFor 29 = .ok (.invokestatic 47, 3) := by decide +kernel
theorem dX0_handsFor_32 : decode cX0_handsFor 32 = .ok (.aload_n 0, 1) := by decide +kernel
theorem dX0_handsFor_33 : decode cX0_handsFor 33 = .ok (.getfield 9, 3) := by decide +kernel
theorem dX0_handsFor_36 : decode cX0_handsFor 36 = .ok (.iload 4, 2) := by decide +kernel
theorem dX0_handsFor_38 : decode cX0_handsFor 38 = .ok (.iaload, 1) := by decide +kernel
theorem dX0_handsFor_39 : decode cX0_handsFor 39 = .ok (.invokestatic 47, 3) := by decide +kernel
theorem dX0_handsFor_42 : decode cX0_handsFor 42 = .ok (.ior, 1) := by decide +kernel
theorem dX0_handsFor_43 : decode cX0_handsFor 43 = .ok (.istore 5, 2) := by decide +kernel
theorem dX0_handsFor_45 : decode cX0_handsFor 45 = .ok (.iload_n 3, 1) := by decide +kernel
theorem dX0_handsFor_46 : decode cX0_handsFor 46 = .ok (.iload 5, 2) := by decide +kernel
theorem dX0_handsFor_48 : decode cX0_handsFor 48 = .ok (.iand, 1) := by decide +kernel
theorem dX0_handsFor_49 : decode cX0_handsFor 49 = .ok (.iload 5, 2) := by decide +kernel
theorem dX0_handsFor_51 : decode cX0_handsFor 51 = .ok (.if_icmp .ne 13, 3) := by decide +kernel
theorem dX0_handsFor_54 : decode cX0_handsFor 54 = .ok (.iload_n 3, 1) := by decide +kernel
theorem dX0_handsFor_55 : decode cX0_handsFor 55 = .ok (.iload 5, 2) := by decide +kernel
theorem dX0_handsFor_57 : decode cX0_handsFor 57 = .ok (.iconst (-1), 1) := by decide +kernel
theorem dX0_handsFor_58 : decode cX0_handsFor 58 = .ok (.ixor, 1) := by decide +kernel
theorem dX0_handsFor_59 : decode cX0_handsFor 59 = .ok (.iand, 1) := by decide +kernel
theorem dX0_handsFor_60 : decode cX0_handsFor 60 = .ok (.istore_n 3, 1) := by decide +kernel
theorem dX0_handsFor_61 : decode cX0_handsFor 61 = .ok (.iinc 2 (-1), 3) := by decide +kernel
theorem dX0_handsFor_64 : decode cX0_handsFor 64 = .ok (.iinc 4 (-1), 3) := by decide +kernel
theorem dX0_handsFor_67 : decode cX0_handsFor 67 = .ok (.goto (-45), 3) := by decide +kernel
theorem dX0_handsFor_70 : decode cX0_handsFor 70 = .ok (.iload_n 2, 1) := by decide +kernel
theorem dX0_handsFor_71 : decode cX0_handsFor 71 = .ok (.ireturn, 1) := by decide +kernel
theorem dX1_init_0 : decode cX1_init 0 = .ok (.aload_n 0, 1) := by decide +kernel
theorem dX1_init_1 : decode cX1_init 1 = .ok (.invokespecial 1, 3) := by decide +kernel
theorem dX1_init_4 : decode cX1_init 4 = .ok (.aload_n 0, 1) := by decide +kernel
theorem dX1_init_5 : decode cX1_init 5 = .ok (.iconst 0, 1) := by decide +kernel
theorem dX1_init_6 : decode cX1_init 6 = .ok (.putfield 7, 3) := by decide +kernel
theorem dX1_init_9 : decode cX1_init 9 = .ok (.aload_n 0, 1) := by decide +kernel
theorem dX1_init_10 : decode cX1_init 10 = .ok (.iconst 0, 1) := by decide +kernel
theorem dX1_init_11 : decode cX1_init 11 = .ok (.putfield 13, 3) := by decide +kernel
theorem dX1_init_14 : decode cX1_init 14 = .ok (.aload_n 0, 1) := by decide +kernel
theorem dX1_init_15 : decode cX1_init 15 = .ok (.iconst 0, 1) := by decide +kernel
theorem dX1_init_16 : decode cX1_init 16 = .ok (.putfield 16, 3) := by decide +kernel
theorem dX1_init_19 : decode cX1_init 19 = .ok (.aload_n 0, 1) := by decide +kernel
theorem dX1_init_20 : decode cX1_init 20 = .ok (.iconst 0, 1) := by decide +kernel
theorem dX1_init_21 : decode cX1_init 21 = .ok (.putfield 19, 3) := by decide +kernel
theorem dX1_init_24 : decode cX1_init 24 = .ok (.aload_n 0, 1) := by decide +kernel
theorem dX1_init_25 : decode cX1_init 25 = .ok (.iload_n 1, 1) := by decide +kernel
theorem dX1_init_26 : decode cX1_init 26 = .ok (.putfield 22, 3) := by decide +kernel
theorem dX1_init_29 : decode cX1_init 29 = .ok (.aload_n 0, 1) := by decide +kernel
theorem dX1_init_30 : decode cX1_init 30 = .ok (.iload_n 2, 1) := by decide +kernel
theorem dX1_init_31 : decode cX1_init 31 = .ok (.putfield 25, 3) := by decide +kernel
theorem dX1_init_34 : decode cX1_init 34 = .ok (.aload_n 0, 1) := by decide +kernel
theorem dX1_init_35 : decode cX1_init 35 = .ok (.iload_n 3, 1) := by decide +kernel
theorem dX1_init_36 : decode cX1_init 36 = .ok (.putfield 28, 3) := by decide +kernel
theorem dX1_init_39 : decode cX1_init 39 = .ok (.aload_n 0, 1) := by decide +kernel
theorem dX1_init_40 : decode cX1_init 40 = .ok (.iload 4, 2) := by decide +kernel
theorem dX1_init_42 : decode cX1_init 42 = .ok (.putfield 31, 3) := by decide +kernel
theorem dX1_init_45 : decode cX1_init 45 = .ok (.return_, 1) := by decide +kernel
theorem dX2_init_0 : decode cX2_init 0 = .ok (.aload_n 0, 1) := by decide +kernel
theorem dX2_init_1 : decode cX2_init 1 = .ok (.invokespecial 3, 3) := by decide +kernel
theorem dX2_init_4 : decode cX2_init 4 = .ok (.aload_n 0, 1) := by decide +kernel
theorem dX2_init_5 : decode cX2_init 5 = .ok (.bipush 8, 2) := by decide +kernel
theorem dX2_init_7 : decode cX2_init 7 = .ok (.newarray .int, 2) := by decide +kernel
theorem dX2_init_9 : decode cX2_init 9 = .ok (.putfield 9, 3) := by decide +kernel
theorem dX2_init_12 : decode cX2_init 12 = .ok (.aload_n 0, 1) := by decide +kernel
theorem dX2_init_13 : decode cX2_init 13 = .ok (.bipush 9, 2) := by decide +kernel
theorem dX2_init_15 : decode cX2_init 15 = .ok (.newarray .int, 2) := by decide +kernel
theorem dX2_init_17 : decode cX2_init 17 = .ok (.putfield 15, 3) := by decide +kernel
theorem dX2_init_20 : decode cX2_init 20 = .ok (.aload_n 0, 1) := by decide +kernel
theorem dX2_init_21 : decode cX2_init 21 = .ok (.bipush 9, 2) := by decide +kernel
theorem dX2_init_23 : decode cX2_init 23 = .ok (.newarray .int, 2) := by decide +kernel
theorem dX2_init_25 : decode cX2_init 25 = .ok (.putfield 18, 3) := by decide +kernel
theorem dX2_init_28 : decode cX2_init 28 = .ok (.aload_n 0, 1) := by decide +kernel
theorem dX2_init_29 : decode cX2_init 29 = .ok (.bipush 9, 2) := by decide +kernel
theorem dX2_init_31 : decode cX2_init 31 = .ok (.newarray .int, 2) := by decide +kernel
theorem dX2_init_33 : decode cX2_init 33 = .ok (.putfield 21, 3) := by decide +kernel
theorem dX2_init_36 : decode cX2_init 36 = .ok (.aload_n 0, 1) := by decide +kernel
theorem dX2_init_37 : decode cX2_init 37 = .ok (.iconst 1, 1) := by decide +kernel
theorem dX2_init_38 : decode cX2_init 38 = .ok (.putfield 24, 3) := by decide +kernel
theorem dX2_init_41 : decode cX2_init 41 = .ok (.aload_n 0, 1) := by decide +kernel
theorem dX2_init_42 : decode cX2_init 42 = .ok (.iconst 0, 1) := by decide +kernel
theorem dX2_init_43 : decode cX2_init 43 = .ok (.putfield 28, 3) := by decide +kernel
theorem dX2_init_46 : decode cX2_init 46 = .ok (.aload_n 0, 1) := by decide +kernel
theorem dX2_init_47 : decode cX2_init 47 = .ok (.iconst 0, 1) := by decide +kernel
theorem dX2_init_48 : decode cX2_init 48 = .ok (.putfield 31, 3) := by decide +kernel
theorem dX2_init_51 : decode cX2_init 51 = .ok (.aload_n 0, 1) := by decide +kernel
theorem dX2_init_52 : decode cX2_init 52 = .ok (.iconst 0, 1) := by decide +kernel
theorem dX2_init_53 : decode cX2_init 53 = .ok (.putfield 34, 3) := by decide +kernel
theorem dX2_init_56 : decode cX2_init 56 = .ok (.aload_n 0, 1) := by decide +kernel
theorem dX2_init_57 : decode cX2_init 57 = .ok (.iconst 0, 1) := by decide +kernel
theorem dX2_init_58 : decode cX2_init 58 = .ok (.putfield 37, 3) := by decide +kernel
theorem dX2_init_61 : decode cX2_init 61 = .ok (.return_, 1) := by decide +kernel
theorem dX2_take_0 : decode cX2_take 0 = .ok (.aload_n 0, 1) := by decide +kernel
theorem dX2_take_1 : decode cX2_take 1 = .ok (.aload_n 1, 1) := by decide +kernel
theorem dX2_take_2 : decode cX2_take 2 = .ok (.iload 4, 2) := by decide +kernel
theorem dX2_take_4 : decode cX2_take 4 = .ok (.invokevirtual 40, 3) := by decide +kernel
theorem dX2_take_7 : decode cX2_take 7 = .ok (.aload_n 2, 1) := by decide +kernel
theorem dX2_take_8 : decode cX2_take 8 = .ok (.getfield 44, 3) := by decide +kernel
theorem dX2_take_11 : decode cX2_take 11 = .ok (.astore 5, 2) := by decide +kernel
theorem dX2_take_13 : decode cX2_take 13 = .ok (.aload 5, 2) := by decide +kernel
theorem dX2_take_15 : decode cX2_take 15 = .ok (.arraylength, 1) := by decide +kernel
theorem dX2_take_16 : decode cX2_take 16 = .ok (.istore 6, 2) := by decide +kernel
theorem dX2_take_18 : decode cX2_take 18 = .ok (.iconst 0, 1) := by decide +kernel
theorem dX2_take_19 : decode cX2_take 19 = .ok (.istore 7, 2) := by decide +kernel
theorem dX2_take_21 : decode cX2_take 21 = .ok (.iload 7, 2) := by decide +kernel
theorem dX2_take_23 : decode cX2_take 23 = .ok (.iload 6, 2) := by decide +kernel
theorem dX2_take_25 : decode cX2_take 25 = .ok (.if_icmp .ge 53, 3) := by decide +kernel
theorem dX2_take_28 : decode cX2_take 28 = .ok (.aload 5, 2) := by decide +kernel
theorem dX2_take_30 : decode cX2_take 30 = .ok (.iload 7, 2) := by decide +kernel
theorem dX2_take_32 : decode cX2_take 32 = .ok (.aaload, 1) := by decide +kernel
theorem dX2_take_33 : decode cX2_take 33 = .ok (.astore 8, 2) := by decide +kernel
theorem dX2_take_35 : decode cX2_take 35 = .ok (.aload 8, 2) := by decide +kernel
theorem dX2_take_37 : decode cX2_take 37 = .ok (.ifnull 41, 3) := by decide +kernel
theorem dX2_take_40 : decode cX2_take 40 = .ok (.aload 8, 2) := by decide +kernel
theorem dX2_take_42 : decode cX2_take 42 = .ok (.getfield 50, 3) := by decide +kernel
theorem dX2_take_45 : decode cX2_take 45 = .ok (.iload_n 3, 1) := by decide +kernel
theorem dX2_take_46 : decode cX2_take 46 = .ok (.if_icmp .le 6, 3) := by decide +kernel
theorem dX2_take_49 : decode cX2_take 49 = .ok (.goto 29, 3) := by decide +kernel
theorem dX2_take_52 : decode cX2_take 52 = .ok (.aload 8, 2) := by decide +kernel
theorem dX2_take_54 : decode cX2_take 54 = .ok (.getfield 55, 3) := by decide +kernel
theorem dX2_take_57 : decode cX2_take 57 = .ok (.aload_n 1, 1) := by decide +kernel
theorem dX2_take_58 : decode cX2_take 58 = .ok (.getfield 58, 3) := by decide +kernel
theorem dX2_take_61 : decode cX2_take 61 = .ok (.if_icmp .ne 11, 3) := by decide +kernel
theorem dX2_take_64 : decode cX2_take 64 = .ok (.aload_n 0, 1) := by decide +kernel
theorem dX2_take_65 : decode cX2_take 65 = .ok (.aload 8, 2) := by decide +kernel
theorem dX2_take_67 : decode cX2_take 67 = .ok (.iload 4, 2) := by decide +kernel
theorem dX2_take_69 : decode cX2_take 69 = .ok (.invokevirtual 63, 3) := by decide +kernel
theorem dX2_take_72 : decode cX2_take 72 = .ok (.iinc 7 1, 3) := by decide +kernel
theorem dX2_take_75 : decode cX2_take 75 = .ok (.goto (-54), 3) := by decide +kernel
theorem dX2_take_78 : decode cX2_take 78 = .ok (.aload_n 0, 1) := by decide +kernel
theorem dX2_take_79 : decode cX2_take 79 = .ok (.aload_n 1, 1) := by decide +kernel
theorem dX2_take_80 : decode cX2_take 80 = .ok (.invokevirtual 67, 3) := by decide +kernel
theorem dX2_take_83 : decode cX2_take 83 = .ok (.aload_n 0, 1) := by decide +kernel
theorem dX2_take_84 : decode cX2_take 84 = .ok (.aload_n 1, 1) := by decide +kernel
theorem dX2_take_85 : decode cX2_take 85 = .ok (.getfield 71, 3) := by decide +kernel
theorem dX2_take_88 : decode cX2_take 88 = .ok (.invokevirtual 74, 3) := by decide +kernel
theorem dX2_take_91 : decode cX2_take 91 = .ok (.aload_n 0, 1) := by decide +kernel
theorem dX2_take_92 : decode cX2_take 92 = .ok (.areturn, 1) := by decide +kernel
theorem dX2_stand_0 : decode cX2_stand 0 = .ok (.aload_n 0, 1) := by decide +kernel
theorem dX2_stand_1 : decode cX2_stand 1 = .ok (.getfield 15, 3) := by decide +kernel
theorem dX2_stand_4 : decode cX2_stand 4 = .ok (.iconst 0, 1) := by decide +kernel
theorem dX2_stand_5 : decode cX2_stand 5 = .ok (.aload_n 1, 1) := by decide +kernel
theorem dX2_stand_6 : decode cX2_stand 6 = .ok (.getfield 78, 3) := by decide +kernel
theorem dX2_stand_9 : decode cX2_stand 9 = .ok (.iastore, 1) := by decide +kernel
theorem dX2_stand_10 : decode cX2_stand 10 = .ok (.aload_n 0, 1) := by decide +kernel
theorem dX2_stand_11 : decode cX2_stand 11 = .ok (.getfield 18, 3) := by decide +kernel
theorem dX2_stand_14 : decode cX2_stand 14 = .ok (.iconst 0, 1) := by decide +kernel
theorem dX2_stand_15 : decode cX2_stand 15 = .ok (.aload_n 1, 1) := by decide +kernel
theorem dX2_stand_16 : decode cX2_stand 16 = .ok (.getfield 80, 3) := by decide +kernel
theorem dX2_stand_19 : decode cX2_stand 19 = .ok (.iastore, 1) := by decide +kernel
theorem dX2_stand_20 : decode cX2_stand 20 = .ok (.aload_n 0, 1) := by decide +kernel
theorem dX2_stand_21 : decode cX2_stand 21 = .ok (.getfield 21, 3) := by decide +kernel
theorem dX2_stand_24 : decode cX2_stand 24 = .ok (.iconst 0, 1) := by decide +kernel
theorem dX2_stand_25 : decode cX2_stand 25 = .ok (.iconst 0, 1) := by decide +kernel
theorem dX2_stand_26 : decode cX2_stand 26 = .ok (.iastore, 1) := by decide +kernel
theorem dX2_stand_27 : decode cX2_stand 27 = .ok (.aload_n 0, 1) := by decide +kernel
theorem dX2_stand_28 : decode cX2_stand 28 = .ok (.aload_n 1, 1) := by decide +kernel
theorem dX2_stand_29 : decode cX2_stand 29 = .ok (.getfield 82, 3) := by decide +kernel
theorem dX2_stand_32 : decode cX2_stand 32 = .ok (.iload_n 2, 1) := by decide +kernel
theorem dX2_stand_33 : decode cX2_stand 33 = .ok (.invokestatic 83, 3) := by decide +kernel
theorem dX2_stand_36 : decode cX2_stand 36 = .ok (.putfield 24, 3) := by decide +kernel
theorem dX2_stand_39 : decode cX2_stand 39 = .ok (.aload_n 1, 1) := by decide +kernel
theorem dX2_stand_40 : decode cX2_stand 40 = .ok (.getfield 89, 3) := by decide +kernel
theorem dX2_stand_43 : decode cX2_stand 43 = .ok (.iconst 0, 1) := by decide +kernel
theorem dX2_stand_44 : decode cX2_stand 44 = .ok (.aload_n 0, 1) := by decide +kernel
theorem dX2_stand_45 : decode cX2_stand 45 = .ok (.getfield 9, 3) := by decide +kernel
theorem dX2_stand_48 : decode cX2_stand 48 = .ok (.iconst 0, 1) := by decide +kernel
theorem dX2_stand_49 : decode cX2_stand 49 = .ok (.aload_n 1, 1) := by decide +kernel
theorem dX2_stand_50 : decode cX2_stand 50 = .ok (.getfield 71, 3) := by decide +kernel
theorem dX2_stand_53 : decode cX2_stand 53 = .ok (.invokestatic 90, 3) := by decide +kernel
theorem dX2_stand_56 : decode cX2_stand 56 = .ok (.return_, 1) := by decide +kernel
theorem dX2_follow_0 : decode cX2_follow 0 = .ok (.aload_n 1, 1) := by decide +kernel
theorem dX2_follow_1 : decode cX2_follow 1 = .ok (.getfield 96, 3) := by decide +kernel
theorem dX2_follow_4 : decode cX2_follow 4 = .ok (.iconst (-1), 1) := by decide +kernel
theorem dX2_follow_5 : decode cX2_follow 5 = .ok (.if_icmp .ne 53, 3) := by decide +kernel
theorem dX2_follow_8 : decode cX2_follow 8 = .ok (.aload_n 0, 1) := by decide +kernel
theorem dX2_follow_9 : decode cX2_follow 9 = .ok (.getfield 15, 3) := by decide +kernel
theorem dX2_follow_12 : decode cX2_follow 12 = .ok (.iconst 0, 1) := by decide +kernel
theorem dX2_follow_13 : decode cX2_follow 13 = .ok (.dup2, 1) := by decide +kernel
theorem dX2_follow_14 : decode cX2_follow 14 = .ok (.iaload, 1) := by decide +kernel
theorem dX2_follow_15 : decode cX2_follow 15 = .ok (.aload_n 1, 1) := by decide +kernel
theorem dX2_follow_16 : decode cX2_follow 16 = .ok (.getfield 99, 3) := by decide +kernel
theorem dX2_follow_19 : decode cX2_follow 19 = .ok (.iadd, 1) := by decide +kernel
theorem dX2_follow_20 : decode cX2_follow 20 = .ok (.iastore, 1) := by decide +kernel
theorem dX2_follow_21 : decode cX2_follow 21 = .ok (.aload_n 0, 1) := by decide +kernel
theorem dX2_follow_22 : decode cX2_follow 22 = .ok (.getfield 18, 3) := by decide +kernel
theorem dX2_follow_25 : decode cX2_follow 25 = .ok (.iconst 0, 1) := by decide +kernel
theorem dX2_follow_26 : decode cX2_follow 26 = .ok (.dup2, 1) := by decide +kernel
theorem dX2_follow_27 : decode cX2_follow 27 = .ok (.iaload, 1) := by decide +kernel
theorem dX2_follow_28 : decode cX2_follow 28 = .ok (.aload_n 1, 1) := by decide +kernel
theorem dX2_follow_29 : decode cX2_follow 29 = .ok (.getfield 102, 3) := by decide +kernel
theorem dX2_follow_32 : decode cX2_follow 32 = .ok (.iadd, 1) := by decide +kernel
theorem dX2_follow_33 : decode cX2_follow 33 = .ok (.iastore, 1) := by decide +kernel
theorem dX2_follow_34 : decode cX2_follow 34 = .ok (.aload_n 0, 1) := by decide +kernel
theorem dX2_follow_35 : decode cX2_follow 35 = .ok (.iconst 1, 1) := by decide +kernel
theorem dX2_follow_36 : decode cX2_follow 36 = .ok (.aload_n 0, 1) := by decide +kernel
theorem dX2_follow_37 : decode cX2_follow 37 = .ok (.getfield 24, 3) := by decide +kernel
theorem dX2_follow_40 : decode cX2_follow 40 = .ok (.aload_n 1, 1) := by decide +kernel
theorem dX2_follow_41 : decode cX2_follow 41 = .ok (.getfield 105, 3) := by decide +kernel
theorem dX2_follow_44 : decode cX2_follow 44 = .ok (.iadd, 1) := by decide +kernel
theorem dX2_follow_45 : decode cX2_follow 45 = .ok (.iload_n 2, 1) := by decide +kernel
theorem dX2_follow_46 : decode cX2_follow 46 = .ok (.invokestatic 83, 3) := by decide +kernel
theorem dX2_follow_49 : decode cX2_follow 49 = .ok (.invokestatic 108, 3) := by decide +kernel
theorem dX2_follow_52 : decode cX2_follow 52 = .ok (.putfield 24, 3) := by decide +kernel
theorem dX2_follow_55 : decode cX2_follow 55 = .ok (.goto 19, 3) := by decide +kernel
theorem dX2_follow_58 : decode cX2_follow 58 = .ok (.aload_n 0, 1) := by decide +kernel
theorem dX2_follow_59 : decode cX2_follow 59 = .ok (.getfield 9, 3) := by decide +kernel
theorem dX2_follow_62 : decode cX2_follow 62 = .ok (.aload_n 1, 1) := by decide +kernel
theorem dX2_follow_63 : decode cX2_follow 63 = .ok (.getfield 96, 3) := by decide +kernel
theorem dX2_follow_66 : decode cX2_follow 66 = .ok (.dup2, 1) := by decide +kernel
theorem dX2_follow_67 : decode cX2_follow 67 = .ok (.iaload, 1) := by decide +kernel
theorem dX2_follow_68 : decode cX2_follow 68 = .ok (.aload_n 1, 1) := by decide +kernel
theorem dX2_follow_69 : decode cX2_follow 69 = .ok (.getfield 111, 3) := by decide +kernel
theorem dX2_follow_72 : decode cX2_follow 72 = .ok (.iadd, 1) := by decide +kernel
theorem dX2_follow_73 : decode cX2_follow 73 = .ok (.iastore, 1) := by decide +kernel
theorem dX2_follow_74 : decode cX2_follow 74 = .ok (.return_, 1) := by decide +kernel
theorem dX2_layPoints_0 : decode cX2_layPoints 0 = .ok (.iconst 0, 1) := by decide +kernel
theorem dX2_layPoints_1 : decode cX2_layPoints 1 = .ok (.istore_n 2, 1) := by decide +kernel
theorem dX2_layPoints_2 : decode cX2_layPoints 2 = .ok (.iload_n 2, 1) := by decide +kernel
theorem dX2_layPoints_3 : decode cX2_layPoints 3 = .ok (.aload_n 1, 1) := by decide +kernel
theorem dX2_layPoints_4 : decode cX2_layPoints 4 = .ok (.getfield 71, 3) := by decide +kernel
theorem dX2_layPoints_7 : decode cX2_layPoints 7 = .ok (.if_icmp .ge 103, 3) := by decide +kernel
theorem dX2_layPoints_10 : decode cX2_layPoints 10 = .ok (.aload_n 1, 1) := by decide +kernel
theorem dX2_layPoints_11 : decode cX2_layPoints 11 = .ok (.iload_n 2, 1) := by decide +kernel
theorem dX2_layPoints_12 : decode cX2_layPoints 12 = .ok (.invokevirtual 114, 3) := by decide +kernel
theorem dX2_layPoints_15 : decode cX2_layPoints 15 = .ok (.istore_n 3, 1) := by decide +kernel
theorem dX2_layPoints_16 : decode cX2_layPoints 16 = .ok (.iload_n 2, 1) := by decide +kernel
theorem dX2_layPoints_17 : decode cX2_layPoints 17 = .ok (.iconst 1, 1) := by decide +kernel
theorem dX2_layPoints_18 : decode cX2_layPoints 18 = .ok (.iadd, 1) := by decide +kernel
theorem dX2_layPoints_19 : decode cX2_layPoints 19 = .ok (.istore 4, 2) := by decide +kernel
theorem dX2_layPoints_21 : decode cX2_layPoints 21 = .ok (.aload_n 0, 1) := by decide +kernel
theorem dX2_layPoints_22 : decode cX2_layPoints 22 = .ok (.getfield 21, 3) := by decide +kernel
theorem dX2_layPoints_25 : decode cX2_layPoints 25 = .ok (.iload_n 3, 1) := by decide +kernel
theorem dX2_layPoints_26 : decode cX2_layPoints 26 = .ok (.iaload, 1) := by decide +kernel
theorem dX2_layPoints_27 : decode cX2_layPoints 27 = .ok (.aload_n 0, 1) := by decide +kernel
theorem dX2_layPoints_28 : decode cX2_layPoints 28 = .ok (.getfield 9, 3) := by decide +kernel
theorem dX2_layPoints_31 : decode cX2_layPoints 31 = .ok (.iload_n 2, 1) := by decide +kernel
theorem dX2_layPoints_32 : decode cX2_layPoints 32 = .ok (.iaload, 1) := by decide +kernel
theorem dX2_layPoints_33 : decode cX2_layPoints 33 = .ok (.iadd, 1) := by decide +kernel
theorem dX2_layPoints_34 : decode cX2_layPoints 34 = .ok (.bipush 8, 2) := by decide +kernel
theorem dX2_layPoints_36 : decode cX2_layPoints 36 = .ok (.invokestatic 118, 3) := by decide +kernel
theorem dX2_layPoints_39 : decode cX2_layPoints 39 = .ok (.istore 5, 2) := by decide +kernel
theorem dX2_layPoints_41 : decode cX2_layPoints 41 = .ok (.aload_n 0, 1) := by decide +kernel
theorem dX2_layPoints_42 : decode cX2_layPoints 42 = .ok (.getfield 21, 3) := by decide +kernel
theorem dX2_layPoints_45 : decode cX2_layPoints 45 = .ok (.iload 4, 2) := by decide +kernel
theorem dX2_layPoints_47 : decode cX2_layPoints 47 = .ok (.iload 5, 2) := by decide +kernel
theorem dX2_layPoints_49 : decode cX2_layPoints 49 = .ok (.iastore, 1) := by decide +kernel
theorem dX2_layPoints_50 : decode cX2_layPoints 50 = .ok (.aload_n 0, 1) := by decide +kernel
theorem dX2_layPoints_51 : decode cX2_layPoints 51 = .ok (.getfield 15, 3) := by decide +kernel
theorem dX2_layPoints_54 : decode cX2_layPoints 54 = .ok (.iload 4, 2) := by decide +kernel
theorem dX2_layPoints_56 : decode cX2_layPoints 56 = .ok (.aload_n 0, 1) := by decide +kernel
theorem dX2_layPoints_57 : decode cX2_layPoints 57 = .ok (.getfield 15, 3) := by decide +kernel
theorem dX2_layPoints_60 : decode cX2_layPoints 60 = .ok (.iload_n 3, 1) := by decide +kernel
theorem dX2_layPoints_61 : decode cX2_layPoints 61 = .ok (.iaload, 1) := by decide +kernel
theorem dX2_layPoints_62 : decode cX2_layPoints 62 = .ok (.aload_n 1, 1) := by decide +kernel
theorem dX2_layPoints_63 : decode cX2_layPoints 63 = .ok (.getfield 121, 3) := by decide +kernel
theorem dX2_layPoints_66 : decode cX2_layPoints 66 = .ok (.iload_n 2, 1) := by decide +kernel
theorem dX2_layPoints_67 : decode cX2_layPoints 67 = .ok (.iaload, 1) := by decide +kernel
theorem dX2_layPoints_68 : decode cX2_layPoints 68 = .ok (.getstatic 124, 3) := by decide +kernel
theorem dX2_layPoints_71 : decode cX2_layPoints 71 = .ok (.iload 5, 2) := by decide +kernel
theorem dX2_layPoints_73 : decode cX2_layPoints 73 = .ok (.iaload, 1) := by decide +kernel
theorem dX2_layPoints_74 : decode cX2_layPoints 74 = .ok (.imul, 1) := by decide +kernel
theorem dX2_layPoints_75 : decode cX2_layPoints 75 = .ok (.iadd, 1) := by decide +kernel
theorem dX2_layPoints_76 : decode cX2_layPoints 76 = .ok (.iastore, 1) := by decide +kernel
theorem dX2_layPoints_77 : decode cX2_layPoints 77 = .ok (.aload_n 0, 1) := by decide +kernel
theorem dX2_layPoints_78 : decode cX2_layPoints 78 = .ok (.getfield 18, 3) := by decide +kernel
theorem dX2_layPoints_81 : decode cX2_layPoints 81 = .ok (.iload 4, 2) := by decide +kernel
theorem dX2_layPoints_83 : decode cX2_layPoints 83 = .ok (.aload_n 0, 1) := by decide +kernel
theorem dX2_layPoints_84 : decode cX2_layPoints 84 = .ok (.getfield 18, 3) := by decide +kernel
theorem dX2_layPoints_87 : decode cX2_layPoints 87 = .ok (.iload_n 3, 1) := by decide +kernel
theorem dX2_layPoints_88 : decode cX2_layPoints 88 = .ok (.iaload, 1) := by decide +kernel
theorem dX2_layPoints_89 : decode cX2_layPoints 89 = .ok (.aload_n 1, 1) := by decide +kernel
theorem dX2_layPoints_90 : decode cX2_layPoints 90 = .ok (.getfield 121, 3) := by decide +kernel
theorem dX2_layPoints_93 : decode cX2_layPoints 93 = .ok (.iload_n 2, 1) := by decide +kernel
theorem dX2_layPoints_94 : decode cX2_layPoints 94 = .ok (.iaload, 1) := by decide +kernel
theorem dX2_layPoints_95 : decode cX2_layPoints 95 = .ok (.getstatic 127, 3) := by decide +kernel
theorem dX2_layPoints_98 : decode cX2_layPoints 98 = .ok (.iload 5, 2) := by decide +kernel
theorem dX2_layPoints_100 : decode cX2_layPoints 100 = .ok (.iaload, 1) := by decide +kernel
theorem dX2_layPoints_101 : decode cX2_layPoints 101 = .ok (.imul, 1) := by decide +kernel
theorem dX2_layPoints_102 : decode cX2_layPoints 102 = .ok (.iadd, 1) := by decide +kernel
theorem dX2_layPoints_103 : decode cX2_layPoints 103 = .ok (.iastore, 1) := by decide +kernel
theorem dX2_layPoints_104 : decode cX2_layPoints 104 = .ok (.iinc 2 1, 3) := by decide +kernel
theorem dX2_layPoints_107 : decode cX2_layPoints 107 = .ok (.goto (-105), 3) := by decide +kernel
theorem dX2_layPoints_110 : decode cX2_layPoints 110 = .ok (.return_, 1) := by decide +kernel
theorem dX2_layBox_0 : decode cX2_layBox 0 = .ok (.aload_n 0, 1) := by decide +kernel
theorem dX2_layBox_1 : decode cX2_layBox 1 = .ok (.aload_n 0, 1) := by decide +kernel
theorem dX2_layBox_2 : decode cX2_layBox 2 = .ok (.getfield 15, 3) := by decide +kernel
theorem dX2_layBox_5 : decode cX2_layBox 5 = .ok (.iconst 0, 1) := by decide +kernel
theorem dX2_layBox_6 : decode cX2_layBox 6 = .ok (.iaload, 1) := by decide +kernel
theorem dX2_layBox_7 : decode cX2_layBox 7 = .ok (.putfield 28, 3) := by decide +kernel
theorem dX2_layBox_10 : decode cX2_layBox 10 = .ok (.aload_n 0, 1) := by decide +kernel
theorem dX2_layBox_11 : decode cX2_layBox 11 = .ok (.aload_n 0, 1) := by decide +kernel
theorem dX2_layBox_12 : decode cX2_layBox 12 = .ok (.getfield 15, 3) := by decide +kernel
theorem dX2_layBox_15 : decode cX2_layBox 15 = .ok (.iconst 0, 1) := by decide +kernel
theorem dX2_layBox_16 : decode cX2_layBox 16 = .ok (.iaload, 1) := by decide +kernel
theorem dX2_layBox_17 : decode cX2_layBox 17 = .ok (.putfield 31, 3) := by decide +kernel
theorem dX2_layBox_20 : decode cX2_layBox 20 = .ok (.aload_n 0, 1) := by decide +kernel
theorem dX2_layBox_21 : decode cX2_layBox 21 = .ok (.aload_n 0, 1) := by decide +kernel
theorem dX2_layBox_22 : decode cX2_layBox 22 = .ok (.getfield 18, 3) := by decide +kernel
theorem dX2_layBox_25 : decode cX2_layBox 25 = .ok (.iconst 0, 1) := by decide +kernel
theorem dX2_layBox_26 : decode cX2_layBox 26 = .ok (.iaload, 1) := by decide +kernel
theorem dX2_layBox_27 : decode cX2_layBox 27 = .ok (.putfield 34, 3) := by decide +kernel
theorem dX2_layBox_30 : decode cX2_layBox 30 = .ok (.aload_n 0, 1) := by decide +kernel
theorem dX2_layBox_31 : decode cX2_layBox 31 = .ok (.aload_n 0, 1) := by decide +kernel
theorem dX2_layBox_32 : decode cX2_layBox 32 = .ok (.getfield 18, 3) := by decide +kernel
theorem dX2_layBox_35 : decode cX2_layBox 35 = .ok (.iconst 0, 1) := by decide +kernel
theorem dX2_layBox_36 : decode cX2_layBox 36 = .ok (.iaload, 1) := by decide +kernel
theorem dX2_layBox_37 : decode cX2_layBox 37 = .ok (.putfield 37, 3) := by decide +kernel
theorem dX2_layBox_40 : decode cX2_layBox 40 = .ok (.iconst 1, 1) := by decide +kernel
theorem dX2_layBox_41 : decode cX2_layBox 41 = .ok (.istore_n 2, 1) := by decide +kernel
theorem dX2_layBox_42 : decode cX2_layBox 42 = .ok (.iload_n 2, 1) := by decide +kernel
theorem dX2_layBox_43 : decode cX2_layBox 43 = .ok (.iload_n 1, 1) := by decide +kernel
theorem dX2_layBox_44 : decode cX2_layBox 44 = .ok (.if_icmp .gt 77, 3) := by decide +kernel
theorem dX2_layBox_47 : decode cX2_layBox 47 = .ok (.aload_n 0, 1) := by decide +kernel
theorem dX2_layBox_48 : decode cX2_layBox 48 = .ok (.aload_n 0, 1) := by decide +kernel
theorem dX2_layBox_49 : decode cX2_layBox 49 = .ok (.getfield 28, 3) := by decide +kernel
theorem dX2_layBox_52 : decode cX2_layBox 52 = .ok (.aload_n 0, 1) := by decide +kernel
theorem dX2_layBox_53 : decode cX2_layBox 53 = .ok (.getfield 15, 3) := by decide +kernel
theorem dX2_layBox_56 : decode cX2_layBox 56 = .ok (.iload_n 2, 1) := by decide +kernel
theorem dX2_layBox_57 : decode cX2_layBox 57 = .ok (.iaload, 1) := by decide +kernel
theorem dX2_layBox_58 : decode cX2_layBox 58 = .ok (.invokestatic 83, 3) := by decide +kernel
theorem dX2_layBox_61 : decode cX2_layBox 61 = .ok (.putfield 28, 3) := by decide +kernel
theorem dX2_layBox_64 : decode cX2_layBox 64 = .ok (.aload_n 0, 1) := by decide +kernel
theorem dX2_layBox_65 : decode cX2_layBox 65 = .ok (.aload_n 0, 1) := by decide +kernel
theorem dX2_layBox_66 : decode cX2_layBox 66 = .ok (.getfield 31, 3) := by decide +kernel
theorem dX2_layBox_69 : decode cX2_layBox 69 = .ok (.aload_n 0, 1) := by decide +kernel
theorem dX2_layBox_70 : decode cX2_layBox 70 = .ok (.getfield 15, 3) := by decide +kernel
theorem dX2_layBox_73 : decode cX2_layBox 73 = .ok (.iload_n 2, 1) := by decide +kernel
theorem dX2_layBox_74 : decode cX2_layBox 74 = .ok (.iaload, 1) := by decide +kernel
theorem dX2_layBox_75 : decode cX2_layBox 75 = .ok (.invokestatic 108, 3) := by decide +kernel
theorem dX2_layBox_78 : decode cX2_layBox 78 = .ok (.putfield 31, 3) := by decide +kernel
theorem dX2_layBox_81 : decode cX2_layBox 81 = .ok (.aload_n 0, 1) := by decide +kernel
theorem dX2_layBox_82 : decode cX2_layBox 82 = .ok (.aload_n 0, 1) := by decide +kernel
theorem dX2_layBox_83 : decode cX2_layBox 83 = .ok (.getfield 34, 3) := by decide +kernel
theorem dX2_layBox_86 : decode cX2_layBox 86 = .ok (.aload_n 0, 1) := by decide +kernel
theorem dX2_layBox_87 : decode cX2_layBox 87 = .ok (.getfield 18, 3) := by decide +kernel
theorem dX2_layBox_90 : decode cX2_layBox 90 = .ok (.iload_n 2, 1) := by decide +kernel
theorem dX2_layBox_91 : decode cX2_layBox 91 = .ok (.iaload, 1) := by decide +kernel
theorem dX2_layBox_92 : decode cX2_layBox 92 = .ok (.invokestatic 83, 3) := by decide +kernel
theorem dX2_layBox_95 : decode cX2_layBox 95 = .ok (.putfield 34, 3) := by decide +kernel
theorem dX2_layBox_98 : decode cX2_layBox 98 = .ok (.aload_n 0, 1) := by decide +kernel
theorem dX2_layBox_99 : decode cX2_layBox 99 = .ok (.aload_n 0, 1) := by decide +kernel
theorem dX2_layBox_100 : decode cX2_layBox 100 = .ok (.getfield 37, 3) := by decide +kernel
theorem dX2_layBox_103 : decode cX2_layBox 103 = .ok (.aload_n 0, 1) := by decide +kernel
theorem dX2_layBox_104 : decode cX2_layBox 104 = .ok (.getfield 18, 3) := by decide +kernel
theorem dX2_layBox_107 : decode cX2_layBox 107 = .ok (.iload_n 2, 1) := by decide +kernel
theorem dX2_layBox_108 : decode cX2_layBox 108 = .ok (.iaload, 1) := by decide +kernel
theorem dX2_layBox_109 : decode cX2_layBox 109 = .ok (.invokestatic 108, 3) := by decide +kernel
theorem dX2_layBox_112 : decode cX2_layBox 112 = .ok (.putfield 37, 3) := by decide +kernel
theorem dX2_layBox_115 : decode cX2_layBox 115 = .ok (.iinc 2 1, 3) := by decide +kernel
theorem dX2_layBox_118 : decode cX2_layBox 118 = .ok (.goto (-76), 3) := by decide +kernel
theorem dX2_layBox_121 : decode cX2_layBox 121 = .ok (.return_, 1) := by decide +kernel
theorem dX2_height_0 : decode cX2_height 0 = .ok (.aload_n 0, 1) := by decide +kernel
theorem dX2_height_1 : decode cX2_height 1 = .ok (.getfield 37, 3) := by decide +kernel
theorem dX2_height_4 : decode cX2_height 4 = .ok (.aload_n 0, 1) := by decide +kernel
theorem dX2_height_5 : decode cX2_height 5 = .ok (.getfield 34, 3) := by decide +kernel
theorem dX2_height_8 : decode cX2_height 8 = .ok (.isub, 1) := by decide +kernel
theorem dX2_height_9 : decode cX2_height 9 = .ok (.ireturn, 1) := by decide +kernel
theorem dX2_measure_0 : decode cX2_measure 0 = .ok (.iload_n 1, 1) := by decide +kernel
theorem dX2_measure_1 : decode cX2_measure 1 = .ok (.tableswitch 65 0 4 #[35, 40, 45, 50, 55], 35) := by decide +kernel
theorem dX2_measure_36 : decode cX2_measure 36 = .ok (.aload_n 0, 1) := by decide +kernel
theorem dX2_measure_37 : decode cX2_measure 37 = .ok (.getfield 28, 3) := by decide +kernel
theorem dX2_measure_40 : decode cX2_measure 40 = .ok (.ireturn, 1) := by decide +kernel
theorem dX2_measure_41 : decode cX2_measure 41 = .ok (.aload_n 0, 1) := by decide +kernel
theorem dX2_measure_42 : decode cX2_measure 42 = .ok (.getfield 31, 3) := by decide +kernel
theorem dX2_measure_45 : decode cX2_measure 45 = .ok (.ireturn, 1) := by decide +kernel
theorem dX2_measure_46 : decode cX2_measure 46 = .ok (.aload_n 0, 1) := by decide +kernel
theorem dX2_measure_47 : decode cX2_measure 47 = .ok (.getfield 34, 3) := by decide +kernel
theorem dX2_measure_50 : decode cX2_measure 50 = .ok (.ireturn, 1) := by decide +kernel
theorem dX2_measure_51 : decode cX2_measure 51 = .ok (.aload_n 0, 1) := by decide +kernel
theorem dX2_measure_52 : decode cX2_measure 52 = .ok (.getfield 37, 3) := by decide +kernel
theorem dX2_measure_55 : decode cX2_measure 55 = .ok (.ireturn, 1) := by decide +kernel
theorem dX2_measure_56 : decode cX2_measure 56 = .ok (.aload_n 0, 1) := by decide +kernel
theorem dX2_measure_57 : decode cX2_measure 57 = .ok (.getfield 31, 3) := by decide +kernel
theorem dX2_measure_60 : decode cX2_measure 60 = .ok (.aload_n 0, 1) := by decide +kernel
theorem dX2_measure_61 : decode cX2_measure 61 = .ok (.getfield 28, 3) := by decide +kernel
theorem dX2_measure_64 : decode cX2_measure 64 = .ok (.isub, 1) := by decide +kernel
theorem dX2_measure_65 : decode cX2_measure 65 = .ok (.ireturn, 1) := by decide +kernel
theorem dX2_measure_66 : decode cX2_measure 66 = .ok (.aload_n 0, 1) := by decide +kernel
theorem dX2_measure_67 : decode cX2_measure 67 = .ok (.invokevirtual 130, 3) := by decide +kernel
theorem dX2_measure_70 : decode cX2_measure 70 = .ok (.ireturn, 1) := by decide +kernel
theorem dX2_isWithin_0 : decode cX2_isWithin 0 = .ok (.aload_n 0, 1) := by decide +kernel
theorem dX2_isWithin_1 : decode cX2_isWithin 1 = .ok (.getfield 28, 3) := by decide +kernel
theorem dX2_isWithin_4 : decode cX2_isWithin 4 = .ok (.ineg, 1) := by decide +kernel
theorem dX2_isWithin_5 : decode cX2_isWithin 5 = .ok (.aload_n 0, 1) := by decide +kernel
theorem dX2_isWithin_6 : decode cX2_isWithin 6 = .ok (.getfield 31, 3) := by decide +kernel
theorem dX2_isWithin_9 : decode cX2_isWithin 9 = .ok (.invokestatic 108, 3) := by decide +kernel
theorem dX2_isWithin_12 : decode cX2_isWithin 12 = .ok (.istore 4, 2) := by decide +kernel
theorem dX2_isWithin_14 : decode cX2_isWithin 14 = .ok (.aload_n 0, 1) := by decide +kernel
theorem dX2_isWithin_15 : decode cX2_isWithin 15 = .ok (.getfield 34, 3) := by decide +kernel
theorem dX2_isWithin_18 : decode cX2_isWithin 18 = .ok (.ineg, 1) := by decide +kernel
theorem dX2_isWithin_19 : decode cX2_isWithin 19 = .ok (.aload_n 0, 1) := by decide +kernel
theorem dX2_isWithin_20 : decode cX2_isWithin 20 = .ok (.getfield 37, 3) := by decide +kernel
theorem dX2_isWithin_23 : decode cX2_isWithin 23 = .ok (.invokestatic 108, 3) := by decide +kernel
theorem dX2_isWithin_26 : decode cX2_isWithin 26 = .ok (.istore 5, 2) := by decide +kernel
theorem dX2_isWithin_28 : decode cX2_isWithin 28 = .ok (.iload 4, 2) := by decide +kernel
theorem dX2_isWithin_30 : decode cX2_isWithin 30 = .ok (.iload_n 3, 1) := by decide +kernel
theorem dX2_isWithin_31 : decode cX2_isWithin 31 = .ok (.imul, 1) := by decide +kernel
theorem dX2_isWithin_32 : decode cX2_isWithin 32 = .ok (.iload_n 1, 1) := by decide +kernel
theorem dX2_isWithin_33 : decode cX2_isWithin 33 = .ok (.aload_n 0, 1) := by decide +kernel
theorem dX2_isWithin_34 : decode cX2_isWithin 34 = .ok (.getfield 24, 3) := by decide +kernel
theorem dX2_isWithin_37 : decode cX2_isWithin 37 = .ok (.imul, 1) := by decide +kernel
theorem dX2_isWithin_38 : decode cX2_isWithin 38 = .ok (.if_icmp .gt 20, 3) := by decide +kernel
theorem dX2_isWithin_41 : decode cX2_isWithin 41 = .ok (.iload 5, 2) := by decide +kernel
theorem dX2_isWithin_43 : decode cX2_isWithin 43 = .ok (.iload_n 3, 1) := by decide +kernel
theorem dX2_isWithin_44 : decode cX2_isWithin 44 = .ok (.imul, 1) := by decide +kernel
theorem dX2_isWithin_45 : decode cX2_isWithin 45 = .ok (.iload_n 2, 1) := by decide +kernel
theorem dX2_isWithin_46 : decode cX2_isWithin 46 = .ok (.aload_n 0, 1) := by decide +kernel
theorem dX2_isWithin_47 : decode cX2_isWithin 47 = .ok (.getfield 24, 3) := by decide +kernel
theorem dX2_isWithin_50 : decode cX2_isWithin 50 = .ok (.imul, 1) := by decide +kernel
theorem dX2_isWithin_51 : decode cX2_isWithin 51 = .ok (.if_icmp .gt 7, 3) := by decide +kernel
theorem dX2_isWithin_54 : decode cX2_isWithin 54 = .ok (.iconst 1, 1) := by decide +kernel
theorem dX2_isWithin_55 : decode cX2_isWithin 55 = .ok (.goto 4, 3) := by decide +kernel
theorem dX2_isWithin_58 : decode cX2_isWithin 58 = .ok (.iconst 0, 1) := by decide +kernel
theorem dX2_isWithin_59 : decode cX2_isWithin 59 = .ok (.ireturn, 1) := by decide +kernel
theorem dX3_init_0 : decode cX3_init 0 = .ok (.aload_n 0, 1) := by decide +kernel
theorem dX3_init_1 : decode cX3_init 1 = .ok (.invokespecial 3, 3) := by decide +kernel
theorem dX3_init_4 : decode cX3_init 4 = .ok (.aload_n 0, 1) := by decide +kernel
theorem dX3_init_5 : decode cX3_init 5 = .ok (.bipush 8, 2) := by decide +kernel
theorem dX3_init_7 : decode cX3_init 7 = .ok (.newarray .int, 2) := by decide +kernel
theorem dX3_init_9 : decode cX3_init 9 = .ok (.putfield 9, 3) := by decide +kernel
theorem dX3_init_12 : decode cX3_init 12 = .ok (.aload_n 0, 1) := by decide +kernel
theorem dX3_init_13 : decode cX3_init 13 = .ok (.iconst 0, 1) := by decide +kernel
theorem dX3_init_14 : decode cX3_init 14 = .ok (.putfield 15, 3) := by decide +kernel
theorem dX3_init_17 : decode cX3_init 17 = .ok (.aload_n 0, 1) := by decide +kernel
theorem dX3_init_18 : decode cX3_init 18 = .ok (.sipush 1024, 3) := by decide +kernel
theorem dX3_init_21 : decode cX3_init 21 = .ok (.newarray .int, 2) := by decide +kernel
theorem dX3_init_23 : decode cX3_init 23 = .ok (.putfield 19, 3) := by decide +kernel
theorem dX3_init_26 : decode cX3_init 26 = .ok (.return_, 1) := by decide +kernel
theorem dX3_append_0 : decode cX3_append 0 = .ok (.aload_n 0, 1) := by decide +kernel
theorem dX3_append_1 : decode cX3_append 1 = .ok (.getfield 15, 3) := by decide +kernel
theorem dX3_append_4 : decode cX3_append 4 = .ok (.bipush 8, 2) := by decide +kernel
theorem dX3_append_6 : decode cX3_append 6 = .ok (.if_icmp .lt 6, 3) := by decide +kernel
theorem dX3_append_9 : decode cX3_append 9 = .ok (.bipush (-4), 2) := by decide +kernel
theorem dX3_append_11 : decode cX3_append 11 = .ok (.ireturn, 1) := by decide +kernel
theorem dX3_append_12 : decode cX3_append 12 = .ok (.aload_n 0, 1) := by decide +kernel
theorem dX3_append_13 : decode cX3_append 13 = .ok (.getfield 15, 3) := by decide +kernel
theorem dX3_append_16 : decode cX3_append 16 = .ok (.istore_n 2, 1) := by decide +kernel
theorem dX3_append_17 : decode cX3_append 17 = .ok (.aload_n 0, 1) := by decide +kernel
theorem dX3_append_18 : decode cX3_append 18 = .ok (.getfield 9, 3) := by decide +kernel
theorem dX3_append_21 : decode cX3_append 21 = .ok (.iload_n 2, 1) := by decide +kernel
theorem dX3_append_22 : decode cX3_append 22 = .ok (.iload_n 1, 1) := by decide +kernel
theorem dX3_append_23 : decode cX3_append 23 = .ok (.iastore, 1) := by decide +kernel
theorem dX3_append_24 : decode cX3_append 24 = .ok (.aload_n 0, 1) := by decide +kernel
theorem dX3_append_25 : decode cX3_append 25 = .ok (.dup, 1) := by decide +kernel
theorem dX3_append_26 : decode cX3_append 26 = .ok (.getfield 15, 3) := by decide +kernel
theorem dX3_append_29 : decode cX3_append 29 = .ok (.iconst 1, 1) := by decide +kernel
theorem dX3_append_30 : decode cX3_append 30 = .ok (.iadd, 1) := by decide +kernel
theorem dX3_append_31 : decode cX3_append 31 = .ok (.putfield 15, 3) := by decide +kernel
theorem dX3_append_34 : decode cX3_append 34 = .ok (.aload_n 0, 1) := by decide +kernel
theorem dX3_append_35 : decode cX3_append 35 = .ok (.invokevirtual 22, 3) := by decide +kernel
theorem dX3_append_38 : decode cX3_append 38 = .ok (.iload_n 2, 1) := by decide +kernel
theorem dX3_append_39 : decode cX3_append 39 = .ok (.ireturn, 1) := by decide +kernel
theorem dX3_clear_0 : decode cX3_clear 0 = .ok (.aload_n 0, 1) := by decide +kernel
theorem dX3_clear_1 : decode cX3_clear 1 = .ok (.iconst 0, 1) := by decide +kernel
theorem dX3_clear_2 : decode cX3_clear 2 = .ok (.putfield 15, 3) := by decide +kernel
theorem dX3_clear_5 : decode cX3_clear 5 = .ok (.return_, 1) := by decide +kernel
theorem dX3_leastCost_0 : decode cX3_leastCost 0 = .ok (.aload_n 0, 1) := by decide +kernel
theorem dX3_leastCost_1 : decode cX3_leastCost 1 = .ok (.getfield 15, 3) := by decide +kernel
theorem dX3_leastCost_4 : decode cX3_leastCost 4 = .ok (.ifCond .ne 7, 3) := by decide +kernel
theorem dX3_leastCost_7 : decode cX3_leastCost 7 = .ok (.iconst 0, 1) := by decide +kernel
theorem dX3_leastCost_8 : decode cX3_leastCost 8 = .ok (.goto 12, 3) := by decide +kernel
theorem dX3_leastCost_11 : decode cX3_leastCost 11 = .ok (.aload_n 0, 1) := by decide +kernel
theorem dX3_leastCost_12 : decode cX3_leastCost 12 = .ok (.aload_n 0, 1) := by decide +kernel
theorem dX3_leastCost_13 : decode cX3_leastCost 13 = .ok (.invokevirtual 25, 3) := by decide +kernel
theorem dX3_leastCost_16 : decode cX3_leastCost 16 = .ok (.iconst 0, 1) := by decide +kernel
theorem dX3_leastCost_17 : decode cX3_leastCost 17 = .ok (.invokevirtual 29, 3) := by decide +kernel
theorem dX3_leastCost_20 : decode cX3_leastCost 20 = .ok (.ireturn, 1) := by decide +kernel
theorem dX3_sceneAt_0 : decode cX3_sceneAt 0 = .ok (.iconst 0, 1) := by decide +kernel
theorem dX3_sceneAt_1 : decode cX3_sceneAt 1 = .ok (.istore_n 2, 1) := by decide +kernel
theorem dX3_sceneAt_2 : decode cX3_sceneAt 2 = .ok (.aload_n 0, 1) := by decide +kernel
theorem dX3_sceneAt_3 : decode cX3_sceneAt 3 = .ok (.invokevirtual 25, 3) := by decide +kernel
theorem dX3_sceneAt_6 : decode cX3_sceneAt 6 = .ok (.istore_n 3, 1) := by decide +kernel
theorem dX3_sceneAt_7 : decode cX3_sceneAt 7 = .ok (.iconst 0, 1) := by decide +kernel
theorem dX3_sceneAt_8 : decode cX3_sceneAt 8 = .ok (.istore 4, 2) := by decide +kernel
theorem dX3_sceneAt_10 : decode cX3_sceneAt 10 = .ok (.iload 4, 2) := by decide +kernel
theorem dX3_sceneAt_12 : decode cX3_sceneAt 12 = .ok (.iload_n 1, 1) := by decide +kernel
theorem dX3_sceneAt_13 : decode cX3_sceneAt 13 = .ok (.if_icmp .ge 25, 3) := by decide +kernel
theorem dX3_sceneAt_16 : decode cX3_sceneAt 16 = .ok (.aload_n 0, 1) := by decide +kernel
theorem dX3_sceneAt_17 : decode cX3_sceneAt 17 = .ok (.iload_n 3, 1) := by decide +kernel
theorem dX3_sceneAt_18 : decode cX3_sceneAt 18 = .ok (.iload_n 2, 1) := by decide +kernel
theorem dX3_sceneAt_19 : decode cX3_sceneAt 19 = .ok (.invokevirtual 33, 3) := by decide +kernel
theorem dX3_sceneAt_22 : decode cX3_sceneAt 22 = .ok (.istore_n 2, 1) := by decide +kernel
theorem dX3_sceneAt_23 : decode cX3_sceneAt 23 = .ok (.iload_n 3, 1) := by decide +kernel
theorem dX3_sceneAt_24 : decode cX3_sceneAt 24 = .ok (.iload_n 2, 1) := by decide +kernel
theorem dX3_sceneAt_25 : decode cX3_sceneAt 25 = .ok (.invokestatic 36, 3) := by decide +kernel
theorem dX3_sceneAt_28 : decode cX3_sceneAt 28 = .ok (.iconst (-1), 1) := by decide +kernel
theorem dX3_sceneAt_29 : decode cX3_sceneAt 29 = .ok (.ixor, 1) := by decide +kernel
theorem dX3_sceneAt_30 : decode cX3_sceneAt 30 = .ok (.iand, 1) := by decide +kernel
theorem dX3_sceneAt_31 : decode cX3_sceneAt 31 = .ok (.istore_n 3, 1) := by decide +kernel
theorem dX3_sceneAt_32 : decode cX3_sceneAt 32 = .ok (.iinc 4 1, 3) := by decide +kernel
theorem dX3_sceneAt_35 : decode cX3_sceneAt 35 = .ok (.goto (-25), 3) := by decide +kernel
theorem dX3_sceneAt_38 : decode cX3_sceneAt 38 = .ok (.iload_n 2, 1) := by decide +kernel
theorem dX3_sceneAt_39 : decode cX3_sceneAt 39 = .ok (.ireturn, 1) := by decide +kernel
theorem dX3_fillLeast_0 : decode cX3_fillLeast 0 = .ok (.iconst 1, 1) := by decide +kernel
theorem dX3_fillLeast_1 : decode cX3_fillLeast 1 = .ok (.istore_n 1, 1) := by decide +kernel
theorem dX3_fillLeast_2 : decode cX3_fillLeast 2 = .ok (.iload_n 1, 1) := by decide +kernel
theorem dX3_fillLeast_3 : decode cX3_fillLeast 3 = .ok (.aload_n 0, 1) := by decide +kernel
theorem dX3_fillLeast_4 : decode cX3_fillLeast 4 = .ok (.invokevirtual 25, 3) := by decide +kernel
theorem dX3_fillLeast_7 : decode cX3_fillLeast 7 = .ok (.if_icmp .gt 56, 3) := by decide +kernel
theorem dX3_fillLeast_10 : decode cX3_fillLeast 10 = .ok (.iconst 0, 1) := by decide +kernel
theorem dX3_fillLeast_11 : decode cX3_fillLeast 11 = .ok (.istore_n 2, 1) := by decide +kernel
theorem dX3_fillLeast_12 : decode cX3_fillLeast 12 = .ok (.iload_n 2, 1) := by decide +kernel
theorem dX3_fillLeast_13 : decode cX3_fillLeast 13 = .ok (.aload_n 0, 1) := by decide +kernel
theorem dX3_fillLeast_14 : decode cX3_fillLeast 14 = .ok (.getfield 15, 3) := by decide +kernel
theorem dX3_fillLeast_17 : decode cX3_fillLeast 17 = .ok (.if_icmp .ge 40, 3) := by decide +kernel
theorem dX3_fillLeast_20 : decode cX3_fillLeast 20 = .ok (.iload_n 1, 1) := by decide +kernel
theorem dX3_fillLeast_21 : decode cX3_fillLeast 21 = .ok (.iload_n 2, 1) := by decide +kernel
theorem dX3_fillLeast_22 : decode cX3_fillLeast 22 = .ok (.invokestatic 40, 3) := by decide +kernel
theorem dX3_fillLeast_25 : decode cX3_fillLeast 25 = .ok (.ifCond .ne 26, 3) := by decide +kernel
theorem dX3_fillLeast_28 : decode cX3_fillLeast 28 = .ok (.aload_n 0, 1) := by decide +kernel
theorem dX3_fillLeast_29 : decode cX3_fillLeast 29 = .ok (.getfield 19, 3) := by decide +kernel
theorem dX3_fillLeast_32 : decode cX3_fillLeast 32 = .ok (.iload_n 1, 1) := by decide +kernel
theorem dX3_fillLeast_33 : decode cX3_fillLeast 33 = .ok (.bipush 8, 2) := by decide +kernel
theorem dX3_fillLeast_35 : decode cX3_fillLeast 35 = .ok (.imul, 1) := by decide +kernel
theorem dX3_fillLeast_36 : decode cX3_fillLeast 36 = .ok (.iload_n 2, 1) := by decide +kernel
theorem dX3_fillLeast_37 : decode cX3_fillLeast 37 = .ok (.iadd, 1) := by decide +kernel
theorem dX3_fillLeast_38 : decode cX3_fillLeast 38 = .ok (.aload_n 0, 1) := by decide +kernel
theorem dX3_fillLeast_39 : decode cX3_fillLeast 39 = .ok (.iload_n 1, 1) := by decide +kernel
theorem dX3_fillLeast_40 : decode cX3_fillLeast 40 = .ok (.iload_n 2, 1) := by decide +kernel
theorem dX3_fillLeast_41 : decode cX3_fillLeast 41 = .ok (.aload_n 0, 1) := by decide +kernel
theorem dX3_fillLeast_42 : decode cX3_fillLeast 42 = .ok (.iload_n 1, 1) := by decide +kernel
theorem dX3_fillLeast_43 : decode cX3_fillLeast 43 = .ok (.iload_n 2, 1) := by decide +kernel
theorem dX3_fillLeast_44 : decode cX3_fillLeast 44 = .ok (.invokevirtual 33, 3) := by decide +kernel
theorem dX3_fillLeast_47 : decode cX3_fillLeast 47 = .ok (.invokevirtual 44, 3) := by decide +kernel
theorem dX3_fillLeast_50 : decode cX3_fillLeast 50 = .ok (.iastore, 1) := by decide +kernel
theorem dX3_fillLeast_51 : decode cX3_fillLeast 51 = .ok (.iinc 2 1, 3) := by decide +kernel
theorem dX3_fillLeast_54 : decode cX3_fillLeast 54 = .ok (.goto (-42), 3) := by decide +kernel
theorem dX3_fillLeast_57 : decode cX3_fillLeast 57 = .ok (.iinc 1 1, 3) := by decide +kernel
theorem dX3_fillLeast_60 : decode cX3_fillLeast 60 = .ok (.goto (-58), 3) := by decide +kernel
theorem dX3_fillLeast_63 : decode cX3_fillLeast 63 = .ok (.return_, 1) := by decide +kernel
theorem dX3_firstBestNext_0 : decode cX3_firstBestNext 0 = .ok (.iload_n 2, 1) := by decide +kernel
theorem dX3_firstBestNext_1 : decode cX3_firstBestNext 1 = .ok (.istore_n 3, 1) := by decide +kernel
theorem dX3_firstBestNext_2 : decode cX3_firstBestNext 2 = .ok (.ldc 50, 2) := by decide +kernel
theorem dX3_firstBestNext_4 : decode cX3_firstBestNext 4 = .ok (.istore 4, 2) := by decide +kernel
theorem dX3_firstBestNext_6 : decode cX3_firstBestNext 6 = .ok (.iconst 1, 1) := by decide +kernel
theorem dX3_firstBestNext_7 : decode cX3_firstBestNext 7 = .ok (.istore 5, 2) := by decide +kernel
theorem dX3_firstBestNext_9 : decode cX3_firstBestNext 9 = .ok (.iload 5, 2) := by decide +kernel
theorem dX3_firstBestNext_11 : decode cX3_firstBestNext 11 = .ok (.aload_n 0, 1) := by decide +kernel
theorem dX3_firstBestNext_12 : decode cX3_firstBestNext 12 = .ok (.getfield 15, 3) := by decide +kernel
theorem dX3_firstBestNext_15 : decode cX3_firstBestNext 15 = .ok (.if_icmp .ge 47, 3) := by decide +kernel
theorem dX3_firstBestNext_18 : decode cX3_firstBestNext 18 = .ok (.iload_n 1, 1) := by decide +kernel
theorem dX3_firstBestNext_19 : decode cX3_firstBestNext 19 = .ok (.iload 5, 2) := by decide +kernel
theorem dX3_firstBestNext_21 : decode cX3_firstBestNext 21 = .ok (.invokestatic 40, 3) := by decide +kernel
theorem dX3_firstBestNext_24 : decode cX3_firstBestNext 24 = .ok (.ifCond .eq 14, 3) := by decide +kernel
theorem dX3_firstBestNext_27 : decode cX3_firstBestNext 27 = .ok (.aload_n 0, 1) := by decide +kernel
theorem dX3_firstBestNext_28 : decode cX3_firstBestNext 28 = .ok (.iload_n 1, 1) := by decide +kernel
theorem dX3_firstBestNext_29 : decode cX3_firstBestNext 29 = .ok (.iload_n 2, 1) := by decide +kernel
theorem dX3_firstBestNext_30 : decode cX3_firstBestNext 30 = .ok (.iload 5, 2) := by decide +kernel
theorem dX3_firstBestNext_32 : decode cX3_firstBestNext 32 = .ok (.invokevirtual 44, 3) := by decide +kernel
theorem dX3_firstBestNext_35 : decode cX3_firstBestNext 35 = .ok (.goto 5, 3) := by decide +kernel
theorem dX3_firstBestNext_38 : decode cX3_firstBestNext 38 = .ok (.ldc 50, 2) := by decide +kernel
theorem dX3_firstBestNext_40 : decode cX3_firstBestNext 40 = .ok (.istore 6, 2) := by decide +kernel
theorem dX3_firstBestNext_42 : decode cX3_firstBestNext 42 = .ok (.iload 6, 2) := by decide +kernel
theorem dX3_firstBestNext_44 : decode cX3_firstBestNext 44 = .ok (.iload 4, 2) := by decide +kernel
theorem dX3_firstBestNext_46 : decode cX3_firstBestNext 46 = .ok (.if_icmp .ge 10, 3) := by decide +kernel
theorem dX3_firstBestNext_49 : decode cX3_firstBestNext 49 = .ok (.iload 5, 2) := by decide +kernel
theorem dX3_firstBestNext_51 : decode cX3_firstBestNext 51 = .ok (.istore_n 3, 1) := by decide +kernel
theorem dX3_firstBestNext_52 : decode cX3_firstBestNext 52 = .ok (.iload 6, 2) := by decide +kernel
theorem dX3_firstBestNext_54 : decode cX3_firstBestNext 54 = .ok (.istore 4, 2) := by decide +kernel
theorem dX3_firstBestNext_56 : decode cX3_firstBestNext 56 = .ok (.iinc 5 1, 3) := by decide +kernel
theorem dX3_firstBestNext_59 : decode cX3_firstBestNext 59 = .ok (.goto (-50), 3) := by decide +kernel
theorem dX3_firstBestNext_62 : decode cX3_firstBestNext 62 = .ok (.iload_n 3, 1) := by decide +kernel
theorem dX3_firstBestNext_63 : decode cX3_firstBestNext 63 = .ok (.ireturn, 1) := by decide +kernel
theorem dX3_costVia_0 : decode cX3_costVia 0 = .ok (.aload_n 0, 1) := by decide +kernel
theorem dX3_costVia_1 : decode cX3_costVia 1 = .ok (.getfield 9, 3) := by decide +kernel
theorem dX3_costVia_4 : decode cX3_costVia 4 = .ok (.iload_n 2, 1) := by decide +kernel
theorem dX3_costVia_5 : decode cX3_costVia 5 = .ok (.iaload, 1) := by decide +kernel
theorem dX3_costVia_6 : decode cX3_costVia 6 = .ok (.aload_n 0, 1) := by decide +kernel
theorem dX3_costVia_7 : decode cX3_costVia 7 = .ok (.getfield 9, 3) := by decide +kernel
theorem dX3_costVia_10 : decode cX3_costVia 10 = .ok (.iload_n 3, 1) := by decide +kernel
theorem dX3_costVia_11 : decode cX3_costVia 11 = .ok (.iaload, 1) := by decide +kernel
theorem dX3_costVia_12 : decode cX3_costVia 12 = .ok (.ixor, 1) := by decide +kernel
theorem dX3_costVia_13 : decode cX3_costVia 13 = .ok (.invokestatic 51, 3) := by decide +kernel
theorem dX3_costVia_16 : decode cX3_costVia 16 = .ok (.aload_n 0, 1) := by decide +kernel
theorem dX3_costVia_17 : decode cX3_costVia 17 = .ok (.iload_n 1, 1) := by decide +kernel
theorem dX3_costVia_18 : decode cX3_costVia 18 = .ok (.iload_n 3, 1) := by decide +kernel
theorem dX3_costVia_19 : decode cX3_costVia 19 = .ok (.invokestatic 36, 3) := by decide +kernel
theorem dX3_costVia_22 : decode cX3_costVia 22 = .ok (.iconst (-1), 1) := by decide +kernel
theorem dX3_costVia_23 : decode cX3_costVia 23 = .ok (.ixor, 1) := by decide +kernel
theorem dX3_costVia_24 : decode cX3_costVia 24 = .ok (.iand, 1) := by decide +kernel
theorem dX3_costVia_25 : decode cX3_costVia 25 = .ok (.iload_n 3, 1) := by decide +kernel
theorem dX3_costVia_26 : decode cX3_costVia 26 = .ok (.invokevirtual 29, 3) := by decide +kernel
theorem dX3_costVia_29 : decode cX3_costVia 29 = .ok (.iadd, 1) := by decide +kernel
theorem dX3_costVia_30 : decode cX3_costVia 30 = .ok (.ireturn, 1) := by decide +kernel
theorem dX3_least_0 : decode cX3_least 0 = .ok (.aload_n 0, 1) := by decide +kernel
theorem dX3_least_1 : decode cX3_least 1 = .ok (.getfield 19, 3) := by decide +kernel
theorem dX3_least_4 : decode cX3_least 4 = .ok (.iload_n 1, 1) := by decide +kernel
theorem dX3_least_5 : decode cX3_least 5 = .ok (.bipush 8, 2) := by decide +kernel
theorem dX3_least_7 : decode cX3_least 7 = .ok (.imul, 1) := by decide +kernel
theorem dX3_least_8 : decode cX3_least 8 = .ok (.iload_n 2, 1) := by decide +kernel
theorem dX3_least_9 : decode cX3_least 9 = .ok (.iadd, 1) := by decide +kernel
theorem dX3_least_10 : decode cX3_least 10 = .ok (.iaload, 1) := by decide +kernel
theorem dX3_least_11 : decode cX3_least 11 = .ok (.ireturn, 1) := by decide +kernel
theorem dX3_allButFirst_0 : decode cX3_allButFirst 0 = .ok (.iconst 1, 1) := by decide +kernel
theorem dX3_allButFirst_1 : decode cX3_allButFirst 1 = .ok (.aload_n 0, 1) := by decide +kernel
theorem dX3_allButFirst_2 : decode cX3_allButFirst 2 = .ok (.getfield 15, 3) := by decide +kernel
theorem dX3_allButFirst_5 : decode cX3_allButFirst 5 = .ok (.iconst 1, 1) := by decide +kernel
theorem dX3_allButFirst_6 : decode cX3_allButFirst 6 = .ok (.isub, 1) := by decide +kernel
theorem dX3_allButFirst_7 : decode cX3_allButFirst 7 = .ok (.ishl, 1) := by decide +kernel
theorem dX3_allButFirst_8 : decode cX3_allButFirst 8 = .ok (.iconst 1, 1) := by decide +kernel
theorem dX3_allButFirst_9 : decode cX3_allButFirst 9 = .ok (.isub, 1) := by decide +kernel
theorem dX3_allButFirst_10 : decode cX3_allButFirst 10 = .ok (.ireturn, 1) := by decide +kernel
theorem dX3_isIn_0 : decode cX3_isIn 0 = .ok (.iload_n 0, 1) := by decide +kernel
theorem dX3_isIn_1 : decode cX3_isIn 1 = .ok (.iload_n 1, 1) := by decide +kernel
theorem dX3_isIn_2 : decode cX3_isIn 2 = .ok (.invokestatic 36, 3) := by decide +kernel
theorem dX3_isIn_5 : decode cX3_isIn 5 = .ok (.iand, 1) := by decide +kernel
theorem dX3_isIn_6 : decode cX3_isIn 6 = .ok (.ifCond .eq 7, 3) := by decide +kernel
theorem dX3_isIn_9 : decode cX3_isIn 9 = .ok (.iconst 1, 1) := by decide +kernel
theorem dX3_isIn_10 : decode cX3_isIn 10 = .ok (.goto 4, 3) := by decide +kernel
theorem dX3_isIn_13 : decode cX3_isIn 13 = .ok (.iconst 0, 1) := by decide +kernel
theorem dX3_isIn_14 : decode cX3_isIn 14 = .ok (.ireturn, 1) := by decide +kernel
theorem dX3_sceneBit_0 : decode cX3_sceneBit 0 = .ok (.iconst 1, 1) := by decide +kernel
theorem dX3_sceneBit_1 : decode cX3_sceneBit 1 = .ok (.iload_n 0, 1) := by decide +kernel
theorem dX3_sceneBit_2 : decode cX3_sceneBit 2 = .ok (.ishl, 1) := by decide +kernel
theorem dX3_sceneBit_3 : decode cX3_sceneBit 3 = .ok (.iconst 1, 1) := by decide +kernel
theorem dX3_sceneBit_4 : decode cX3_sceneBit 4 = .ok (.ishr, 1) := by decide +kernel
theorem dX3_sceneBit_5 : decode cX3_sceneBit 5 = .ok (.ireturn, 1) := by decide +kernel
theorem dX4_init_0 : decode cX4_init 0 = .ok (.aload_n 0, 1) := by decide +kernel
theorem dX4_init_1 : decode cX4_init 1 = .ok (.invokespecial 3, 3) := by decide +kernel
theorem dX4_init_4 : decode cX4_init 4 = .ok (.aload_n 0, 1) := by decide +kernel
theorem dX4_init_5 : decode cX4_init 5 = .ok (.bipush 60, 2) := by decide +kernel
theorem dX4_init_7 : decode cX4_init 7 = .ok (.anewarray 9, 3) := by decide +kernel
theorem dX4_init_10 : decode cX4_init 10 = .ok (.putfield 11, 3) := by decide +kernel
theorem dX4_init_13 : decode cX4_init 13 = .ok (.aload_n 0, 1) := by decide +kernel
theorem dX4_init_14 : decode cX4_init 14 = .ok (.iconst 0, 1) := by decide +kernel
theorem dX4_init_15 : decode cX4_init 15 = .ok (.putfield 17, 3) := by decide +kernel
theorem dX4_init_18 : decode cX4_init 18 = .ok (.return_, 1) := by decide +kernel
theorem dX4_insert_0 : decode cX4_insert 0 = .ok (.aload_n 0, 1) := by decide +kernel
theorem dX4_insert_1 : decode cX4_insert 1 = .ok (.getfield 17, 3) := by decide +kernel
theorem dX4_insert_4 : decode cX4_insert 4 = .ok (.bipush 60, 2) := by decide +kernel
theorem dX4_insert_6 : decode cX4_insert 6 = .ok (.if_icmp .lt 6, 3) := by decide +kernel
theorem dX4_insert_9 : decode cX4_insert 9 = .ok (.bipush (-4), 2) := by decide +kernel
theorem dX4_insert_11 : decode cX4_insert 11 = .ok (.ireturn, 1) := by decide +kernel
theorem dX4_insert_12 : decode cX4_insert 12 = .ok (.aload_n 0, 1) := by decide +kernel
theorem dX4_insert_13 : decode cX4_insert 13 = .ok (.getfield 17, 3) := by decide +kernel
theorem dX4_insert_16 : decode cX4_insert 16 = .ok (.istore_n 2, 1) := by decide +kernel
theorem dX4_insert_17 : decode cX4_insert 17 = .ok (.iload_n 2, 1) := by decide +kernel
theorem dX4_insert_18 : decode cX4_insert 18 = .ok (.ifCond .le 41, 3) := by decide +kernel
theorem dX4_insert_21 : decode cX4_insert 21 = .ok (.aload_n 0, 1) := by decide +kernel
theorem dX4_insert_22 : decode cX4_insert 22 = .ok (.getfield 11, 3) := by decide +kernel
theorem dX4_insert_25 : decode cX4_insert 25 = .ok (.iload_n 2, 1) := by decide +kernel
theorem dX4_insert_26 : decode cX4_insert 26 = .ok (.iconst 1, 1) := by decide +kernel
theorem dX4_insert_27 : decode cX4_insert 27 = .ok (.isub, 1) := by decide +kernel
theorem dX4_insert_28 : decode cX4_insert 28 = .ok (.aaload, 1) := by decide +kernel
theorem dX4_insert_29 : decode cX4_insert 29 = .ok (.aload_n 1, 1) := by decide +kernel
theorem dX4_insert_30 : decode cX4_insert 30 = .ok (.getfield 21, 3) := by decide +kernel
theorem dX4_insert_33 : decode cX4_insert 33 = .ok (.invokestatic 24, 3) := by decide +kernel
theorem dX4_insert_36 : decode cX4_insert 36 = .ok (.ifCond .eq 23, 3) := by decide +kernel
theorem dX4_insert_39 : decode cX4_insert 39 = .ok (.aload_n 0, 1) := by decide +kernel
theorem dX4_insert_40 : decode cX4_insert 40 = .ok (.getfield 11, 3) := by decide +kernel
theorem dX4_insert_43 : decode cX4_insert 43 = .ok (.iload_n 2, 1) := by decide +kernel
theorem dX4_insert_44 : decode cX4_insert 44 = .ok (.aload_n 0, 1) := by decide +kernel
theorem dX4_insert_45 : decode cX4_insert 45 = .ok (.getfield 11, 3) := by decide +kernel
theorem dX4_insert_48 : decode cX4_insert 48 = .ok (.iload_n 2, 1) := by decide +kernel
theorem dX4_insert_49 : decode cX4_insert 49 = .ok (.iconst 1, 1) := by decide +kernel
theorem dX4_insert_50 : decode cX4_insert 50 = .ok (.isub, 1) := by decide +kernel
theorem dX4_insert_51 : decode cX4_insert 51 = .ok (.aaload, 1) := by decide +kernel
theorem dX4_insert_52 : decode cX4_insert 52 = .ok (.aastore, 1) := by decide +kernel
theorem dX4_insert_53 : decode cX4_insert 53 = .ok (.iinc 2 (-1), 3) := by decide +kernel
theorem dX4_insert_56 : decode cX4_insert 56 = .ok (.goto (-39), 3) := by decide +kernel
theorem dX4_insert_59 : decode cX4_insert 59 = .ok (.aload_n 0, 1) := by decide +kernel
theorem dX4_insert_60 : decode cX4_insert 60 = .ok (.getfield 11, 3) := by decide +kernel
theorem dX4_insert_63 : decode cX4_insert 63 = .ok (.iload_n 2, 1) := by decide +kernel
theorem dX4_insert_64 : decode cX4_insert 64 = .ok (.aload_n 1, 1) := by decide +kernel
theorem dX4_insert_65 : decode cX4_insert 65 = .ok (.aastore, 1) := by decide +kernel
theorem dX4_insert_66 : decode cX4_insert 66 = .ok (.aload_n 0, 1) := by decide +kernel
theorem dX4_insert_67 : decode cX4_insert 67 = .ok (.dup, 1) := by decide +kernel
theorem dX4_insert_68 : decode cX4_insert 68 = .ok (.getfield 17, 3) := by decide +kernel
theorem dX4_insert_71 : decode cX4_insert 71 = .ok (.iconst 1, 1) := by decide +kernel
theorem dX4_insert_72 : decode cX4_insert 72 = .ok (.iadd, 1) := by decide +kernel
theorem dX4_insert_73 : decode cX4_insert 73 = .ok (.putfield 17, 3) := by decide +kernel
theorem dX4_insert_76 : decode cX4_insert 76 = .ok (.aload_n 1, 1) := by decide +kernel
theorem dX4_insert_77 : decode cX4_insert 77 = .ok (.getfield 28, 3) := by decide +kernel
theorem dX4_insert_80 : decode cX4_insert 80 = .ok (.ireturn, 1) := by decide +kernel
theorem dX4_isAfter_0 : decode cX4_isAfter 0 = .ok (.aload_n 0, 1) := by decide +kernel
theorem dX4_isAfter_1 : decode cX4_isAfter 1 = .ok (.ifnull 15, 3) := by decide +kernel
theorem dX4_isAfter_4 : decode cX4_isAfter 4 = .ok (.aload_n 0, 1) := by decide +kernel
theorem dX4_isAfter_5 : decode cX4_isAfter 5 = .ok (.getfield 21, 3) := by decide +kernel
theorem dX4_isAfter_8 : decode cX4_isAfter 8 = .ok (.iload_n 1, 1) := by decide +kernel
theorem dX4_isAfter_9 : decode cX4_isAfter 9 = .ok (.if_icmp .le 7, 3) := by decide +kernel
theorem dX4_isAfter_12 : decode cX4_isAfter 12 = .ok (.iconst 1, 1) := by decide +kernel
theorem dX4_isAfter_13 : decode cX4_isAfter 13 = .ok (.goto 4, 3) := by decide +kernel
theorem dX4_isAfter_16 : decode cX4_isAfter 16 = .ok (.iconst 0, 1) := by decide +kernel
theorem dX4_isAfter_17 : decode cX4_isAfter 17 = .ok (.ireturn, 1) := by decide +kernel
theorem dX4_keepFirst_0 : decode cX4_keepFirst 0 = .ok (.iconst 0, 1) := by decide +kernel
theorem dX4_keepFirst_1 : decode cX4_keepFirst 1 = .ok (.istore_n 2, 1) := by decide +kernel
theorem dX4_keepFirst_2 : decode cX4_keepFirst 2 = .ok (.iconst 0, 1) := by decide +kernel
theorem dX4_keepFirst_3 : decode cX4_keepFirst 3 = .ok (.istore_n 3, 1) := by decide +kernel
theorem dX4_keepFirst_4 : decode cX4_keepFirst 4 = .ok (.iload_n 3, 1) := by decide +kernel
theorem dX4_keepFirst_5 : decode cX4_keepFirst 5 = .ok (.aload_n 0, 1) := by decide +kernel
theorem dX4_keepFirst_6 : decode cX4_keepFirst 6 = .ok (.getfield 17, 3) := by decide +kernel
theorem dX4_keepFirst_9 : decode cX4_keepFirst 9 = .ok (.if_icmp .ge 49, 3) := by decide +kernel
theorem dX4_keepFirst_12 : decode cX4_keepFirst 12 = .ok (.aload_n 0, 1) := by decide +kernel
theorem dX4_keepFirst_13 : decode cX4_keepFirst 13 = .ok (.getfield 11, 3) := by decide +kernel
theorem dX4_keepFirst_16 : decode cX4_keepFirst 16 = .ok (.iload_n 3, 1) := by decide +kernel
theorem dX4_keepFirst_17 : decode cX4_keepFirst 17 = .ok (.aaload, 1) := by decide +kernel
theorem dX4_keepFirst_18 : decode cX4_keepFirst 18 = .ok (.astore 4, 2) := by decide +kernel
theorem dX4_keepFirst_20 : decode cX4_keepFirst 20 = .ok (.aload_n 0, 1) := by decide +kernel
theorem dX4_keepFirst_21 : decode cX4_keepFirst 21 = .ok (.getfield 11, 3) := by decide +kernel
theorem dX4_keepFirst_24 : decode cX4_keepFirst 24 = .ok (.iload_n 3, 1) := by decide +kernel
theorem dX4_keepFirst_25 : decode cX4_keepFirst 25 = .ok (.aconst_null, 1) := by decide +kernel
theorem dX4_keepFirst_26 : decode cX4_keepFirst 26 = .ok (.aastore, 1) := by decide +kernel
theorem dX4_keepFirst_27 : decode cX4_keepFirst 27 = .ok (.aload 4, 2) := by decide +kernel
theorem dX4_keepFirst_29 : decode cX4_keepFirst 29 = .ok (.ifnull 23, 3) := by decide +kernel
theorem dX4_keepFirst_32 : decode cX4_keepFirst 32 = .ok (.aload 4, 2) := by decide +kernel
theorem dX4_keepFirst_34 : decode cX4_keepFirst 34 = .ok (.getfield 28, 3) := by decide +kernel
theorem dX4_keepFirst_37 : decode cX4_keepFirst 37 = .ok (.iload_n 1, 1) := by decide +kernel
theorem dX4_keepFirst_38 : decode cX4_keepFirst 38 = .ok (.if_icmp .ge 14, 3) := by decide +kernel
theorem dX4_keepFirst_41 : decode cX4_keepFirst 41 = .ok (.aload_n 0, 1) := by decide +kernel
theorem dX4_keepFirst_42 : decode cX4_keepFirst 42 = .ok (.getfield 11, 3) := by decide +kernel
theorem dX4_keepFirst_45 : decode cX4_keepFirst 45 = .ok (.iload_n 2, 1) := by decide +kernel
theorem dX4_keepFirst_46 : decode cX4_keepFirst 46 = .ok (.aload 4, 2) := by decide +kernel
theorem dX4_keepFirst_48 : decode cX4_keepFirst 48 = .ok (.aastore, 1) := by decide +kernel
theorem dX4_keepFirst_49 : decode cX4_keepFirst 49 = .ok (.iinc 2 1, 3) := by decide +kernel
theorem dX4_keepFirst_52 : decode cX4_keepFirst 52 = .ok (.iinc 3 1, 3) := by decide +kernel
theorem dX4_keepFirst_55 : decode cX4_keepFirst 55 = .ok (.goto (-51), 3) := by decide +kernel
theorem dX4_keepFirst_58 : decode cX4_keepFirst 58 = .ok (.aload_n 0, 1) := by decide +kernel
theorem dX4_keepFirst_59 : decode cX4_keepFirst 59 = .ok (.iload_n 2, 1) := by decide +kernel
theorem dX4_keepFirst_60 : decode cX4_keepFirst 60 = .ok (.putfield 17, 3) := by decide +kernel
theorem dX4_keepFirst_63 : decode cX4_keepFirst 63 = .ok (.return_, 1) := by decide +kernel
theorem dX4_hasMoveIn_0 : decode cX4_hasMoveIn 0 = .ok (.aload_n 0, 1) := by decide +kernel
theorem dX4_hasMoveIn_1 : decode cX4_hasMoveIn 1 = .ok (.getfield 11, 3) := by decide +kernel
theorem dX4_hasMoveIn_4 : decode cX4_hasMoveIn 4 = .ok (.astore_n 2, 1) := by decide +kernel
theorem dX4_hasMoveIn_5 : decode cX4_hasMoveIn 5 = .ok (.aload_n 2, 1) := by decide +kernel
theorem dX4_hasMoveIn_6 : decode cX4_hasMoveIn 6 = .ok (.arraylength, 1) := by decide +kernel
theorem dX4_hasMoveIn_7 : decode cX4_hasMoveIn 7 = .ok (.istore_n 3, 1) := by decide +kernel
theorem dX4_hasMoveIn_8 : decode cX4_hasMoveIn 8 = .ok (.iconst 0, 1) := by decide +kernel
theorem dX4_hasMoveIn_9 : decode cX4_hasMoveIn 9 = .ok (.istore 4, 2) := by decide +kernel
theorem dX4_hasMoveIn_11 : decode cX4_hasMoveIn 11 = .ok (.iload 4, 2) := by decide +kernel
theorem dX4_hasMoveIn_13 : decode cX4_hasMoveIn 13 = .ok (.iload_n 3, 1) := by decide +kernel
theorem dX4_hasMoveIn_14 : decode cX4_hasMoveIn 14 = .ok (.if_icmp .ge 31, 3) := by decide +kernel
theorem dX4_hasMoveIn_17 : decode cX4_hasMoveIn 17 = .ok (.aload_n 2, 1) := by decide +kernel
theorem dX4_hasMoveIn_18 : decode cX4_hasMoveIn 18 = .ok (.iload 4, 2) := by decide +kernel
theorem dX4_hasMoveIn_20 : decode cX4_hasMoveIn 20 = .ok (.aaload, 1) := by decide +kernel
theorem dX4_hasMoveIn_21 : decode cX4_hasMoveIn 21 = .ok (.astore 5, 2) := by decide +kernel
theorem dX4_hasMoveIn_23 : decode cX4_hasMoveIn 23 = .ok (.aload 5, 2) := by decide +kernel
theorem dX4_hasMoveIn_25 : decode cX4_hasMoveIn 25 = .ok (.ifnull 14, 3) := by decide +kernel
theorem dX4_hasMoveIn_28 : decode cX4_hasMoveIn 28 = .ok (.aload 5, 2) := by decide +kernel
theorem dX4_hasMoveIn_30 : decode cX4_hasMoveIn 30 = .ok (.getfield 21, 3) := by decide +kernel
theorem dX4_hasMoveIn_33 : decode cX4_hasMoveIn 33 = .ok (.iload_n 1, 1) := by decide +kernel
theorem dX4_hasMoveIn_34 : decode cX4_hasMoveIn 34 = .ok (.if_icmp .ne 5, 3) := by decide +kernel
theorem dX4_hasMoveIn_37 : decode cX4_hasMoveIn 37 = .ok (.iconst 1, 1) := by decide +kernel
theorem dX4_hasMoveIn_38 : decode cX4_hasMoveIn 38 = .ok (.ireturn, 1) := by decide +kernel
theorem dX4_hasMoveIn_39 : decode cX4_hasMoveIn 39 = .ok (.iinc 4 1, 3) := by decide +kernel
theorem dX4_hasMoveIn_42 : decode cX4_hasMoveIn 42 = .ok (.goto (-31), 3) := by decide +kernel
theorem dX4_hasMoveIn_45 : decode cX4_hasMoveIn 45 = .ok (.iconst 0, 1) := by decide +kernel
theorem dX4_hasMoveIn_46 : decode cX4_hasMoveIn 46 = .ok (.ireturn, 1) := by decide +kernel
theorem dX4_rodsMoved_0 : decode cX4_rodsMoved 0 = .ok (.iconst 0, 1) := by decide +kernel
theorem dX4_rodsMoved_1 : decode cX4_rodsMoved 1 = .ok (.istore_n 3, 1) := by decide +kernel
theorem dX4_rodsMoved_2 : decode cX4_rodsMoved 2 = .ok (.aload_n 0, 1) := by decide +kernel
theorem dX4_rodsMoved_3 : decode cX4_rodsMoved 3 = .ok (.getfield 11, 3) := by decide +kernel
theorem dX4_rodsMoved_6 : decode cX4_rodsMoved 6 = .ok (.astore 4, 2) := by decide +kernel
theorem dX4_rodsMoved_8 : decode cX4_rodsMoved 8 = .ok (.aload 4, 2) := by decide +kernel
theorem dX4_rodsMoved_10 : decode cX4_rodsMoved 10 = .ok (.arraylength, 1) := by decide +kernel
theorem dX4_rodsMoved_11 : decode cX4_rodsMoved 11 = .ok (.istore 5, 2) := by decide +kernel
theorem dX4_rodsMoved_13 : decode cX4_rodsMoved 13 = .ok (.iconst 0, 1) := by decide +kernel
theorem dX4_rodsMoved_14 : decode cX4_rodsMoved 14 = .ok (.istore 6, 2) := by decide +kernel
theorem dX4_rodsMoved_16 : decode cX4_rodsMoved 16 = .ok (.iload 6, 2) := by decide +kernel
theorem dX4_rodsMoved_18 : decode cX4_rodsMoved 18 = .ok (.iload 5, 2) := by decide +kernel
theorem dX4_rodsMoved_20 : decode cX4_rodsMoved 20 = .ok (.if_icmp .ge 50, 3) := by decide +kernel
theorem dX4_rodsMoved_23 : decode cX4_rodsMoved 23 = .ok (.aload 4, 2) := by decide +kernel
theorem dX4_rodsMoved_25 : decode cX4_rodsMoved 25 = .ok (.iload 6, 2) := by decide +kernel
theorem dX4_rodsMoved_27 : decode cX4_rodsMoved 27 = .ok (.aaload, 1) := by decide +kernel
theorem dX4_rodsMoved_28 : decode cX4_rodsMoved 28 = .ok (.astore 7, 2) := by decide +kernel
theorem dX4_rodsMoved_30 : decode cX4_rodsMoved 30 = .ok (.aload 7, 2) := by decide +kernel
theorem dX4_rodsMoved_32 : decode cX4_rodsMoved 32 = .ok (.ifnull 32, 3) := by decide +kernel
theorem dX4_rodsMoved_35 : decode cX4_rodsMoved 35 = .ok (.aload 7, 2) := by decide +kernel
theorem dX4_rodsMoved_37 : decode cX4_rodsMoved 37 = .ok (.getfield 21, 3) := by decide +kernel
theorem dX4_rodsMoved_40 : decode cX4_rodsMoved 40 = .ok (.iload_n 2, 1) := by decide +kernel
theorem dX4_rodsMoved_41 : decode cX4_rodsMoved 41 = .ok (.if_icmp .ne 23, 3) := by decide +kernel
theorem dX4_rodsMoved_44 : decode cX4_rodsMoved 44 = .ok (.aload 7, 2) := by decide +kernel
theorem dX4_rodsMoved_46 : decode cX4_rodsMoved 46 = .ok (.getfield 31, 3) := by decide +kernel
theorem dX4_rodsMoved_49 : decode cX4_rodsMoved 49 = .ok (.iload_n 1, 1) := by decide +kernel
theorem dX4_rodsMoved_50 : decode cX4_rodsMoved 50 = .ok (.if_icmp .ne 14, 3) := by decide +kernel
theorem dX4_rodsMoved_53 : decode cX4_rodsMoved 53 = .ok (.iload_n 3, 1) := by decide +kernel
theorem dX4_rodsMoved_54 : decode cX4_rodsMoved 54 = .ok (.aload 7, 2) := by decide +kernel
theorem dX4_rodsMoved_56 : decode cX4_rodsMoved 56 = .ok (.getfield 34, 3) := by decide +kernel
theorem dX4_rodsMoved_59 : decode cX4_rodsMoved 59 = .ok (.invokestatic 37, 3) := by decide +kernel
theorem dX4_rodsMoved_62 : decode cX4_rodsMoved 62 = .ok (.ior, 1) := by decide +kernel
theorem dX4_rodsMoved_63 : decode cX4_rodsMoved 63 = .ok (.istore_n 3, 1) := by decide +kernel
theorem dX4_rodsMoved_64 : decode cX4_rodsMoved 64 = .ok (.iinc 6 1, 3) := by decide +kernel
theorem dX4_rodsMoved_67 : decode cX4_rodsMoved 67 = .ok (.goto (-51), 3) := by decide +kernel
theorem dX4_rodsMoved_70 : decode cX4_rodsMoved 70 = .ok (.iload_n 3, 1) := by decide +kernel
theorem dX4_rodsMoved_71 : decode cX4_rodsMoved 71 = .ok (.ireturn, 1) := by decide +kernel
theorem dX4_rodBit_0 : decode cX4_rodBit 0 = .ok (.iconst 1, 1) := by decide +kernel
theorem dX4_rodBit_1 : decode cX4_rodBit 1 = .ok (.iload_n 0, 1) := by decide +kernel
theorem dX4_rodBit_2 : decode cX4_rodBit 2 = .ok (.iconst 1, 1) := by decide +kernel
theorem dX4_rodBit_3 : decode cX4_rodBit 3 = .ok (.iadd, 1) := by decide +kernel
theorem dX4_rodBit_4 : decode cX4_rodBit 4 = .ok (.ishl, 1) := by decide +kernel
theorem dX4_rodBit_5 : decode cX4_rodBit 5 = .ok (.ireturn, 1) := by decide +kernel
theorem dX5_init_0 : decode cX5_init 0 = .ok (.aload_n 0, 1) := by decide +kernel
theorem dX5_init_1 : decode cX5_init 1 = .ok (.invokespecial 1, 3) := by decide +kernel
theorem dX5_init_4 : decode cX5_init 4 = .ok (.aload_n 0, 1) := by decide +kernel
theorem dX5_init_5 : decode cX5_init 5 = .ok (.lconst 0, 1) := by decide +kernel
theorem dX5_init_6 : decode cX5_init 6 = .ok (.putfield 7, 3) := by decide +kernel
theorem dX5_init_9 : decode cX5_init 9 = .ok (.aload_n 0, 1) := by decide +kernel
theorem dX5_init_10 : decode cX5_init 10 = .ok (.lconst 0, 1) := by decide +kernel
theorem dX5_init_11 : decode cX5_init 11 = .ok (.putfield 13, 3) := by decide +kernel
theorem dX5_init_14 : decode cX5_init 14 = .ok (.aload_n 0, 1) := by decide +kernel
theorem dX5_init_15 : decode cX5_init 15 = .ok (.lconst 0, 1) := by decide +kernel
theorem dX5_init_16 : decode cX5_init 16 = .ok (.putfield 16, 3) := by decide +kernel
theorem dX5_init_19 : decode cX5_init 19 = .ok (.aload_n 0, 1) := by decide +kernel
theorem dX5_init_20 : decode cX5_init 20 = .ok (.lconst 0, 1) := by decide +kernel
theorem dX5_init_21 : decode cX5_init 21 = .ok (.putfield 19, 3) := by decide +kernel
theorem dX5_init_24 : decode cX5_init 24 = .ok (.return_, 1) := by decide +kernel
theorem dX5_lay_0 : decode cX5_lay 0 = .ok (.aload_n 0, 1) := by decide +kernel
theorem dX5_lay_1 : decode cX5_lay 1 = .ok (.aload_n 1, 1) := by decide +kernel
theorem dX5_lay_2 : decode cX5_lay 2 = .ok (.getfield 22, 3) := by decide +kernel
theorem dX5_lay_5 : decode cX5_lay 5 = .ok (.iload_n 2, 1) := by decide +kernel
theorem dX5_lay_6 : decode cX5_lay 6 = .ok (.iaload, 1) := by decide +kernel
theorem dX5_lay_7 : decode cX5_lay 7 = .ok (.i2l, 1) := by decide +kernel
theorem dX5_lay_8 : decode cX5_lay 8 = .ok (.iload 4, 2) := by decide +kernel
theorem dX5_lay_10 : decode cX5_lay 10 = .ok (.i2l, 1) := by decide +kernel
theorem dX5_lay_11 : decode cX5_lay 11 = .ok (.lmul, 1) := by decide +kernel
theorem dX5_lay_12 : decode cX5_lay 12 = .ok (.putfield 7, 3) := by decide +kernel
theorem dX5_lay_15 : decode cX5_lay 15 = .ok (.aload_n 0, 1) := by decide +kernel
theorem dX5_lay_16 : decode cX5_lay 16 = .ok (.aload_n 1, 1) := by decide +kernel
theorem dX5_lay_17 : decode cX5_lay 17 = .ok (.getfield 28, 3) := by decide +kernel
theorem dX5_lay_20 : decode cX5_lay 20 = .ok (.iload_n 2, 1) := by decide +kernel
theorem dX5_lay_21 : decode cX5_lay 21 = .ok (.iaload, 1) := by decide +kernel
theorem dX5_lay_22 : decode cX5_lay 22 = .ok (.i2l, 1) := by decide +kernel
theorem dX5_lay_23 : decode cX5_lay 23 = .ok (.iload 4, 2) := by decide +kernel
theorem dX5_lay_25 : decode cX5_lay 25 = .ok (.i2l, 1) := by decide +kernel
theorem dX5_lay_26 : decode cX5_lay 26 = .ok (.lmul, 1) := by decide +kernel
theorem dX5_lay_27 : decode cX5_lay 27 = .ok (.putfield 13, 3) := by decide +kernel
theorem dX5_lay_30 : decode cX5_lay 30 = .ok (.aload_n 0, 1) := by decide +kernel
theorem dX5_lay_31 : decode cX5_lay 31 = .ok (.aload_n 1, 1) := by decide +kernel
theorem dX5_lay_32 : decode cX5_lay 32 = .ok (.getfield 22, 3) := by decide +kernel
theorem dX5_lay_35 : decode cX5_lay 35 = .ok (.iload_n 3, 1) := by decide +kernel
theorem dX5_lay_36 : decode cX5_lay 36 = .ok (.iaload, 1) := by decide +kernel
theorem dX5_lay_37 : decode cX5_lay 37 = .ok (.i2l, 1) := by decide +kernel
theorem dX5_lay_38 : decode cX5_lay 38 = .ok (.iload 4, 2) := by decide +kernel
theorem dX5_lay_40 : decode cX5_lay 40 = .ok (.i2l, 1) := by decide +kernel
theorem dX5_lay_41 : decode cX5_lay 41 = .ok (.lmul, 1) := by decide +kernel
theorem dX5_lay_42 : decode cX5_lay 42 = .ok (.putfield 16, 3) := by decide +kernel
theorem dX5_lay_45 : decode cX5_lay 45 = .ok (.aload_n 0, 1) := by decide +kernel
theorem dX5_lay_46 : decode cX5_lay 46 = .ok (.aload_n 1, 1) := by decide +kernel
theorem dX5_lay_47 : decode cX5_lay 47 = .ok (.getfield 28, 3) := by decide +kernel
theorem dX5_lay_50 : decode cX5_lay 50 = .ok (.iload_n 3, 1) := by decide +kernel
theorem dX5_lay_51 : decode cX5_lay 51 = .ok (.iaload, 1) := by decide +kernel
theorem dX5_lay_52 : decode cX5_lay 52 = .ok (.i2l, 1) := by decide +kernel
theorem dX5_lay_53 : decode cX5_lay 53 = .ok (.iload 4, 2) := by decide +kernel
theorem dX5_lay_55 : decode cX5_lay 55 = .ok (.i2l, 1) := by decide +kernel
theorem dX5_lay_56 : decode cX5_lay 56 = .ok (.lmul, 1) := by decide +kernel
theorem dX5_lay_57 : decode cX5_lay 57 = .ok (.putfield 19, 3) := by decide +kernel
theorem dX5_lay_60 : decode cX5_lay 60 = .ok (.return_, 1) := by decide +kernel
theorem dX5_meets_0 : decode cX5_meets 0 = .ok (.aload_n 0, 1) := by decide +kernel
theorem dX5_meets_1 : decode cX5_meets 1 = .ok (.getfield 7, 3) := by decide +kernel
theorem dX5_meets_4 : decode cX5_meets 4 = .ok (.aload_n 0, 1) := by decide +kernel
theorem dX5_meets_5 : decode cX5_meets 5 = .ok (.getfield 16, 3) := by decide +kernel
theorem dX5_meets_8 : decode cX5_meets 8 = .ok (.aload_n 1, 1) := by decide +kernel
theorem dX5_meets_9 : decode cX5_meets 9 = .ok (.getfield 7, 3) := by decide +kernel
theorem dX5_meets_12 : decode cX5_meets 12 = .ok (.aload_n 1, 1) := by decide +kernel
theorem dX5_meets_13 : decode cX5_meets 13 = .ok (.getfield 16, 3) := by decide +kernel
theorem dX5_meets_16 : decode cX5_meets 16 = .ok (.invokestatic 31, 3) := by decide +kernel
theorem dX5_meets_19 : decode cX5_meets 19 = .ok (.ifCond .eq 45, 3) := by decide +kernel
theorem dX5_meets_22 : decode cX5_meets 22 = .ok (.aload_n 0, 1) := by decide +kernel
theorem dX5_meets_23 : decode cX5_meets 23 = .ok (.getfield 13, 3) := by decide +kernel
theorem dX5_meets_26 : decode cX5_meets 26 = .ok (.aload_n 0, 1) := by decide +kernel
theorem dX5_meets_27 : decode cX5_meets 27 = .ok (.getfield 19, 3) := by decide +kernel
theorem dX5_meets_30 : decode cX5_meets 30 = .ok (.aload_n 1, 1) := by decide +kernel
theorem dX5_meets_31 : decode cX5_meets 31 = .ok (.getfield 13, 3) := by decide +kernel
theorem dX5_meets_34 : decode cX5_meets 34 = .ok (.aload_n 1, 1) := by decide +kernel
theorem dX5_meets_35 : decode cX5_meets 35 = .ok (.getfield 19, 3) := by decide +kernel
theorem dX5_meets_38 : decode cX5_meets 38 = .ok (.invokestatic 31, 3) := by decide +kernel
theorem dX5_meets_41 : decode cX5_meets 41 = .ok (.ifCond .eq 23, 3) := by decide +kernel
theorem dX5_meets_44 : decode cX5_meets 44 = .ok (.aload_n 0, 1) := by decide +kernel
theorem dX5_meets_45 : decode cX5_meets 45 = .ok (.aload_n 1, 1) := by decide +kernel
theorem dX5_meets_46 : decode cX5_meets 46 = .ok (.invokevirtual 35, 3) := by decide +kernel
theorem dX5_meets_49 : decode cX5_meets 49 = .ok (.ifCond .eq 15, 3) := by decide +kernel
theorem dX5_meets_52 : decode cX5_meets 52 = .ok (.aload_n 1, 1) := by decide +kernel
theorem dX5_meets_53 : decode cX5_meets 53 = .ok (.aload_n 0, 1) := by decide +kernel
theorem dX5_meets_54 : decode cX5_meets 54 = .ok (.invokevirtual 35, 3) := by decide +kernel
theorem dX5_meets_57 : decode cX5_meets 57 = .ok (.ifCond .eq 7, 3) := by decide +kernel
theorem dX5_meets_60 : decode cX5_meets 60 = .ok (.iconst 1, 1) := by decide +kernel
theorem dX5_meets_61 : decode cX5_meets 61 = .ok (.goto 4, 3) := by decide +kernel
theorem dX5_meets_64 : decode cX5_meets 64 = .ok (.iconst 0, 1) := by decide +kernel
theorem dX5_meets_65 : decode cX5_meets 65 = .ok (.ireturn, 1) := by decide +kernel
theorem dX5_rangesMeet_0 : decode cX5_rangesMeet 0 = .ok (.lload_n 0, 1) := by decide +kernel
theorem dX5_rangesMeet_1 : decode cX5_rangesMeet 1 = .ok (.lload_n 2, 1) := by decide +kernel
theorem dX5_rangesMeet_2 : decode cX5_rangesMeet 2 = .ok (.invokestatic 39, 3) := by decide +kernel
theorem dX5_rangesMeet_5 : decode cX5_rangesMeet 5 = .ok (.lload 4, 2) := by decide +kernel
theorem dX5_rangesMeet_7 : decode cX5_rangesMeet 7 = .ok (.lload 6, 2) := by decide +kernel
theorem dX5_rangesMeet_9 : decode cX5_rangesMeet 9 = .ok (.invokestatic 45, 3) := by decide +kernel
theorem dX5_rangesMeet_12 : decode cX5_rangesMeet 12 = .ok (.lcmp, 1) := by decide +kernel
theorem dX5_rangesMeet_13 : decode cX5_rangesMeet 13 = .ok (.ifCond .lt 23, 3) := by decide +kernel
theorem dX5_rangesMeet_16 : decode cX5_rangesMeet 16 = .ok (.lload 4, 2) := by decide +kernel
theorem dX5_rangesMeet_18 : decode cX5_rangesMeet 18 = .ok (.lload 6, 2) := by decide +kernel
theorem dX5_rangesMeet_20 : decode cX5_rangesMeet 20 = .ok (.invokestatic 39, 3) := by decide +kernel
theorem dX5_rangesMeet_23 : decode cX5_rangesMeet 23 = .ok (.lload_n 0, 1) := by decide +kernel
theorem dX5_rangesMeet_24 : decode cX5_rangesMeet 24 = .ok (.lload_n 2, 1) := by decide +kernel
theorem dX5_rangesMeet_25 : decode cX5_rangesMeet 25 = .ok (.invokestatic 45, 3) := by decide +kernel
theorem dX5_rangesMeet_28 : decode cX5_rangesMeet 28 = .ok (.lcmp, 1) := by decide +kernel
theorem dX5_rangesMeet_29 : decode cX5_rangesMeet 29 = .ok (.ifCond .lt 7, 3) := by decide +kernel
theorem dX5_rangesMeet_32 : decode cX5_rangesMeet 32 = .ok (.iconst 1, 1) := by decide +kernel
theorem dX5_rangesMeet_33 : decode cX5_rangesMeet 33 = .ok (.goto 4, 3) := by decide +kernel
theorem dX5_rangesMeet_36 : decode cX5_rangesMeet 36 = .ok (.iconst 0, 1) := by decide +kernel
theorem dX5_rangesMeet_37 : decode cX5_rangesMeet 37 = .ok (.ireturn, 1) := by decide +kernel
theorem dX5_lineMeets_0 : decode cX5_lineMeets 0 = .ok (.aload_n 0, 1) := by decide +kernel
theorem dX5_lineMeets_1 : decode cX5_lineMeets 1 = .ok (.aload_n 1, 1) := by decide +kernel
theorem dX5_lineMeets_2 : decode cX5_lineMeets 2 = .ok (.getfield 7, 3) := by decide +kernel
theorem dX5_lineMeets_5 : decode cX5_lineMeets 5 = .ok (.aload_n 1, 1) := by decide +kernel
theorem dX5_lineMeets_6 : decode cX5_lineMeets 6 = .ok (.getfield 13, 3) := by decide +kernel
theorem dX5_lineMeets_9 : decode cX5_lineMeets 9 = .ok (.invokevirtual 48, 3) := by decide +kernel
theorem dX5_lineMeets_12 : decode cX5_lineMeets 12 = .ok (.aload_n 0, 1) := by decide +kernel
theorem dX5_lineMeets_13 : decode cX5_lineMeets 13 = .ok (.aload_n 1, 1) := by decide +kernel
theorem dX5_lineMeets_14 : decode cX5_lineMeets 14 = .ok (.getfield 16, 3) := by decide +kernel
theorem dX5_lineMeets_17 : decode cX5_lineMeets 17 = .ok (.aload_n 1, 1) := by decide +kernel
theorem dX5_lineMeets_18 : decode cX5_lineMeets 18 = .ok (.getfield 19, 3) := by decide +kernel
theorem dX5_lineMeets_21 : decode cX5_lineMeets 21 = .ok (.invokevirtual 48, 3) := by decide +kernel
theorem dX5_lineMeets_24 : decode cX5_lineMeets 24 = .ok (.imul, 1) := by decide +kernel
theorem dX5_lineMeets_25 : decode cX5_lineMeets 25 = .ok (.ifCond .gt 7, 3) := by decide +kernel
theorem dX5_lineMeets_28 : decode cX5_lineMeets 28 = .ok (.iconst 1, 1) := by decide +kernel
theorem dX5_lineMeets_29 : decode cX5_lineMeets 29 = .ok (.goto 4, 3) := by decide +kernel
theorem dX5_lineMeets_32 : decode cX5_lineMeets 32 = .ok (.iconst 0, 1) := by decide +kernel
theorem dX5_lineMeets_33 : decode cX5_lineMeets 33 = .ok (.ireturn, 1) := by decide +kernel
theorem dX5_side_0 : decode cX5_side 0 = .ok (.aload_n 0, 1) := by decide +kernel
theorem dX5_side_1 : decode cX5_side 1 = .ok (.getfield 16, 3) := by decide +kernel
theorem dX5_side_4 : decode cX5_side 4 = .ok (.aload_n 0, 1) := by decide +kernel
theorem dX5_side_5 : decode cX5_side 5 = .ok (.getfield 7, 3) := by decide +kernel
theorem dX5_side_8 : decode cX5_side 8 = .ok (.lsub, 1) := by decide +kernel
theorem dX5_side_9 : decode cX5_side 9 = .ok (.lload_n 3, 1) := by decide +kernel
theorem dX5_side_10 : decode cX5_side 10 = .ok (.aload_n 0, 1) := by decide +kernel
theorem dX5_side_11 : decode cX5_side 11 = .ok (.getfield 13, 3) := by decide +kernel
theorem dX5_side_14 : decode cX5_side 14 = .ok (.lsub, 1) := by decide +kernel
theorem dX5_side_15 : decode cX5_side 15 = .ok (.lmul, 1) := by decide +kernel
theorem dX5_side_16 : decode cX5_side 16 = .ok (.aload_n 0, 1) := by decide +kernel
theorem dX5_side_17 : decode cX5_side 17 = .ok (.getfield 19, 3) := by decide +kernel
theorem dX5_side_20 : decode cX5_side 20 = .ok (.aload_n 0, 1) := by decide +kernel
theorem dX5_side_21 : decode cX5_side 21 = .ok (.getfield 13, 3) := by decide +kernel
theorem dX5_side_24 : decode cX5_side 24 = .ok (.lsub, 1) := by decide +kernel
theorem dX5_side_25 : decode cX5_side 25 = .ok (.lload_n 1, 1) := by decide +kernel
theorem dX5_side_26 : decode cX5_side 26 = .ok (.aload_n 0, 1) := by decide +kernel
theorem dX5_side_27 : decode cX5_side 27 = .ok (.getfield 7, 3) := by decide +kernel
theorem dX5_side_30 : decode cX5_side 30 = .ok (.lsub, 1) := by decide +kernel
theorem dX5_side_31 : decode cX5_side 31 = .ok (.lmul, 1) := by decide +kernel
theorem dX5_side_32 : decode cX5_side 32 = .ok (.lsub, 1) := by decide +kernel
theorem dX5_side_33 : decode cX5_side 33 = .ok (.lstore 5, 2) := by decide +kernel
theorem dX5_side_35 : decode cX5_side 35 = .ok (.lload 5, 2) := by decide +kernel
theorem dX5_side_37 : decode cX5_side 37 = .ok (.lconst 0, 1) := by decide +kernel
theorem dX5_side_38 : decode cX5_side 38 = .ok (.invokestatic 52, 3) := by decide +kernel
theorem dX5_side_41 : decode cX5_side 41 = .ok (.ireturn, 1) := by decide +kernel
theorem dX6_init_0 : decode cX6_init 0 = .ok (.aload_n 0, 1) := by decide +kernel
theorem dX6_init_1 : decode cX6_init 1 = .ok (.invokespecial 3, 3) := by decide +kernel
theorem dX6_init_4 : decode cX6_init 4 = .ok (.aload_n 0, 1) := by decide +kernel
theorem dX6_init_5 : decode cX6_init 5 = .ok (.bipush 100, 2) := by decide +kernel
theorem dX6_init_7 : decode cX6_init 7 = .ok (.putfield 9, 3) := by decide +kernel
theorem dX6_init_10 : decode cX6_init 10 = .ok (.aload_n 0, 1) := by decide +kernel
theorem dX6_init_11 : decode cX6_init 11 = .ok (.iconst 0, 1) := by decide +kernel
theorem dX6_init_12 : decode cX6_init 12 = .ok (.putfield 15, 3) := by decide +kernel
theorem dX6_init_15 : decode cX6_init 15 = .ok (.aload_n 0, 1) := by decide +kernel
theorem dX6_init_16 : decode cX6_init 16 = .ok (.bipush 6, 2) := by decide +kernel
theorem dX6_init_18 : decode cX6_init 18 = .ok (.anewarray 18, 3) := by decide +kernel
theorem dX6_init_21 : decode cX6_init 21 = .ok (.putfield 20, 3) := by decide +kernel
theorem dX6_init_24 : decode cX6_init 24 = .ok (.aload_n 0, 1) := by decide +kernel
theorem dX6_init_25 : decode cX6_init 25 = .ok (.new 24, 3) := by decide +kernel
theorem dX6_init_28 : decode cX6_init 28 = .ok (.dup, 1) := by decide +kernel
theorem dX6_init_29 : decode cX6_init 29 = .ok (.invokespecial 26, 3) := by decide +kernel
theorem dX6_init_32 : decode cX6_init 32 = .ok (.putfield 27, 3) := by decide +kernel
theorem dX6_init_35 : decode cX6_init 35 = .ok (.aload_n 0, 1) := by decide +kernel
theorem dX6_init_36 : decode cX6_init 36 = .ok (.new 31, 3) := by decide +kernel
theorem dX6_init_39 : decode cX6_init 39 = .ok (.dup, 1) := by decide +kernel
theorem dX6_init_40 : decode cX6_init 40 = .ok (.invokespecial 33, 3) := by decide +kernel
theorem dX6_init_43 : decode cX6_init 43 = .ok (.putfield 34, 3) := by decide +kernel
theorem dX6_init_46 : decode cX6_init 46 = .ok (.aload_n 0, 1) := by decide +kernel
theorem dX6_init_47 : decode cX6_init 47 = .ok (.new 38, 3) := by decide +kernel
theorem dX6_init_50 : decode cX6_init 50 = .ok (.dup, 1) := by decide +kernel
theorem dX6_init_51 : decode cX6_init 51 = .ok (.invokespecial 40, 3) := by decide +kernel
theorem dX6_init_54 : decode cX6_init 54 = .ok (.putfield 41, 3) := by decide +kernel
theorem dX6_init_57 : decode cX6_init 57 = .ok (.aload_n 0, 1) := by decide +kernel
theorem dX6_init_58 : decode cX6_init 58 = .ok (.new 38, 3) := by decide +kernel
theorem dX6_init_61 : decode cX6_init 61 = .ok (.dup, 1) := by decide +kernel
theorem dX6_init_62 : decode cX6_init 62 = .ok (.invokespecial 40, 3) := by decide +kernel
theorem dX6_init_65 : decode cX6_init 65 = .ok (.putfield 45, 3) := by decide +kernel
theorem dX6_init_68 : decode cX6_init 68 = .ok (.aload_n 0, 1) := by decide +kernel
theorem dX6_init_69 : decode cX6_init 69 = .ok (.new 48, 3) := by decide +kernel
theorem dX6_init_72 : decode cX6_init 72 = .ok (.dup, 1) := by decide +kernel
theorem dX6_init_73 : decode cX6_init 73 = .ok (.invokespecial 50, 3) := by decide +kernel
theorem dX6_init_76 : decode cX6_init 76 = .ok (.putfield 51, 3) := by decide +kernel
theorem dX6_init_79 : decode cX6_init 79 = .ok (.aload_n 0, 1) := by decide +kernel
theorem dX6_init_80 : decode cX6_init 80 = .ok (.new 48, 3) := by decide +kernel
theorem dX6_init_83 : decode cX6_init 83 = .ok (.dup, 1) := by decide +kernel
theorem dX6_init_84 : decode cX6_init 84 = .ok (.invokespecial 50, 3) := by decide +kernel
theorem dX6_init_87 : decode cX6_init 87 = .ok (.putfield 55, 3) := by decide +kernel
theorem dX6_init_90 : decode cX6_init 90 = .ok (.return_, 1) := by decide +kernel
theorem dX6_setDistance_0 : decode cX6_setDistance 0 = .ok (.iload_n 1, 1) := by decide +kernel
theorem dX6_setDistance_1 : decode cX6_setDistance 1 = .ok (.bipush 10, 2) := by decide +kernel
theorem dX6_setDistance_3 : decode cX6_setDistance 3 = .ok (.sipush 200, 3) := by decide +kernel
theorem dX6_setDistance_6 : decode cX6_setDistance 6 = .ok (.invokestatic 58, 3) := by decide +kernel
theorem dX6_setDistance_9 : decode cX6_setDistance 9 = .ok (.ifCond .ne 6, 3) := by decide +kernel
theorem dX6_setDistance_12 : decode cX6_setDistance 12 = .ok (.bipush (-3), 2) := by decide +kernel
theorem dX6_setDistance_14 : decode cX6_setDistance 14 = .ok (.ireturn, 1) := by decide +kernel
theorem dX6_setDistance_15 : decode cX6_setDistance 15 = .ok (.aload_n 0, 1) := by decide +kernel
theorem dX6_setDistance_16 : decode cX6_setDistance 16 = .ok (.getfield 9, 3) := by decide +kernel
theorem dX6_setDistance_19 : decode cX6_setDistance 19 = .ok (.istore_n 2, 1) := by decide +kernel
theorem dX6_setDistance_20 : decode cX6_setDistance 20 = .ok (.aload_n 0, 1) := by decide +kernel
theorem dX6_setDistance_21 : decode cX6_setDistance 21 = .ok (.iload_n 1, 1) := by decide +kernel
theorem dX6_setDistance_22 : decode cX6_setDistance 22 = .ok (.putfield 9, 3) := by decide +kernel
theorem dX6_setDistance_25 : decode cX6_setDistance 25 = .ok (.iload_n 2, 1) := by decide +kernel
theorem dX6_setDistance_26 : decode cX6_setDistance 26 = .ok (.ireturn, 1) := by decide +kernel
theorem dX6_addFigure_0 : decode cX6_addFigure 0 = .ok (.iload_n 1, 1) := by decide +kernel
theorem dX6_addFigure_1 : decode cX6_addFigure 1 = .ok (.bipush (-100), 2) := by decide +kernel
theorem dX6_addFigure_3 : decode cX6_addFigure 3 = .ok (.bipush 100, 2) := by decide +kernel
theorem dX6_addFigure_5 : decode cX6_addFigure 5 = .ok (.invokestatic 58, 3) := by decide +kernel
theorem dX6_addFigure_8 : decode cX6_addFigure 8 = .ok (.ifCond .eq 26, 3) := by decide +kernel
theorem dX6_addFigure_11 : decode cX6_addFigure 11 = .ok (.iload_n 2, 1) := by decide +kernel
theorem dX6_addFigure_12 : decode cX6_addFigure 12 = .ok (.bipush (-100), 2) := by decide +kernel
theorem dX6_addFigure_14 : decode cX6_addFigure 14 = .ok (.bipush 100, 2) := by decide +kernel
theorem dX6_addFigure_16 : decode cX6_addFigure 16 = .ok (.invokestatic 58, 3) := by decide +kernel
theorem dX6_addFigure_19 : decode cX6_addFigure 19 = .ok (.ifCond .eq 15, 3) := by decide +kernel
theorem dX6_addFigure_22 : decode cX6_addFigure 22 = .ok (.iload_n 3, 1) := by decide +kernel
theorem dX6_addFigure_23 : decode cX6_addFigure 23 = .ok (.iconst 1, 1) := by decide +kernel
theorem dX6_addFigure_24 : decode cX6_addFigure 24 = .ok (.aload_n 0, 1) := by decide +kernel
theorem dX6_addFigure_25 : decode cX6_addFigure 25 = .ok (.getfield 9, 3) := by decide +kernel
theorem dX6_addFigure_28 : decode cX6_addFigure 28 = .ok (.invokestatic 58, 3) := by decide +kernel
theorem dX6_addFigure_31 : decode cX6_addFigure 31 = .ok (.ifCond .ne 6, 3) := by decide +kernel
theorem dX6_addFigure_34 : decode cX6_addFigure 34 = .ok (.bipush (-3), 2) := by decide +kernel
theorem dX6_addFigure_36 : decode cX6_addFigure 36 = .ok (.ireturn, 1) := by decide +kernel
theorem dX6_addFigure_37 : decode cX6_addFigure 37 = .ok (.aload_n 0, 1) := by decide +kernel
theorem dX6_addFigure_38 : decode cX6_addFigure 38 = .ok (.getfield 15, 3) := by decide +kernel
theorem dX6_addFigure_41 : decode cX6_addFigure 41 = .ok (.bipush 6, 2) := by decide +kernel
theorem dX6_addFigure_43 : decode cX6_addFigure 43 = .ok (.if_icmp .lt 6, 3) := by decide +kernel
theorem dX6_addFigure_46 : decode cX6_addFigure 46 = .ok (.bipush (-4), 2) := by decide +kernel
theorem dX6_addFigure_48 : decode cX6_addFigure 48 = .ok (.ireturn, 1) := by decide +kernel
theorem dX6_addFigure_49 : decode cX6_addFigure 49 = .ok (.aload_n 0, 1) := by decide +kernel
theorem dX6_addFigure_50 : decode cX6_addFigure 50 = .ok (.getfield 15, 3) := by decide +kernel
theorem dX6_addFigure_53 : decode cX6_addFigure 53 = .ok (.istore 4, 2) := by decide +kernel
theorem dX6_addFigure_55 : decode cX6_addFigure 55 = .ok (.aload_n 0, 1) := by decide +kernel
theorem dX6_addFigure_56 : decode cX6_addFigure 56 = .ok (.getfield 20, 3) := by decide +kernel
theorem dX6_addFigure_59 : decode cX6_addFigure 59 = .ok (.iload 4, 2) := by decide +kernel
theorem dX6_addFigure_61 : decode cX6_addFigure 61 = .ok (.new 18, 3) := by decide +kernel
theorem dX6_addFigure_64 : decode cX6_addFigure 64 = .ok (.dup, 1) := by decide +kernel
theorem dX6_addFigure_65 : decode cX6_addFigure 65 = .ok (.iload 4, 2) := by decide +kernel
theorem dX6_addFigure_67 : decode cX6_addFigure 67 = .ok (.iload_n 1, 1) := by decide +kernel
theorem dX6_addFigure_68 : decode cX6_addFigure 68 = .ok (.iload_n 2, 1) := by decide +kernel
theorem dX6_addFigure_69 : decode cX6_addFigure 69 = .ok (.iload_n 3, 1) := by decide +kernel
theorem dX6_addFigure_70 : decode cX6_addFigure 70 = .ok (.invokespecial 62, 3) := by decide +kernel
theorem dX6_addFigure_73 : decode cX6_addFigure 73 = .ok (.aastore, 1) := by decide +kernel
theorem dX6_addFigure_74 : decode cX6_addFigure 74 = .ok (.aload_n 0, 1) := by decide +kernel
theorem dX6_addFigure_75 : decode cX6_addFigure 75 = .ok (.dup, 1) := by decide +kernel
theorem dX6_addFigure_76 : decode cX6_addFigure 76 = .ok (.getfield 15, 3) := by decide +kernel
theorem dX6_addFigure_79 : decode cX6_addFigure 79 = .ok (.iconst 1, 1) := by decide +kernel
theorem dX6_addFigure_80 : decode cX6_addFigure 80 = .ok (.iadd, 1) := by decide +kernel
theorem dX6_addFigure_81 : decode cX6_addFigure 81 = .ok (.putfield 15, 3) := by decide +kernel
theorem dX6_addFigure_84 : decode cX6_addFigure 84 = .ok (.iload 4, 2) := by decide +kernel
theorem dX6_addFigure_86 : decode cX6_addFigure 86 = .ok (.ireturn, 1) := by decide +kernel
theorem dX6_addLimb_0 : decode cX6_addLimb 0 = .ok (.aload_n 0, 1) := by decide +kernel
theorem dX6_addLimb_1 : decode cX6_addLimb 1 = .ok (.iload_n 1, 1) := by decide +kernel
theorem dX6_addLimb_2 : decode cX6_addLimb 2 = .ok (.invokevirtual 65, 3) := by decide +kernel
theorem dX6_addLimb_5 : decode cX6_addLimb 5 = .ok (.astore 5, 2) := by decide +kernel
theorem dX6_addLimb_7 : decode cX6_addLimb 7 = .ok (.aload 5, 2) := by decide +kernel
theorem dX6_addLimb_9 : decode cX6_addLimb 9 = .ok (.ifnonnull 5, 3) := by decide +kernel
theorem dX6_addLimb_12 : decode cX6_addLimb 12 = .ok (.iconst (-1), 1) := by decide +kernel
theorem dX6_addLimb_13 : decode cX6_addLimb 13 = .ok (.ireturn, 1) := by decide +kernel
theorem dX6_addLimb_14 : decode cX6_addLimb 14 = .ok (.iload_n 2, 1) := by decide +kernel
theorem dX6_addLimb_15 : decode cX6_addLimb 15 = .ok (.iconst (-1), 1) := by decide +kernel
theorem dX6_addLimb_16 : decode cX6_addLimb 16 = .ok (.if_icmp .eq 15, 3) := by decide +kernel
theorem dX6_addLimb_19 : decode cX6_addLimb 19 = .ok (.aload 5, 2) := by decide +kernel
theorem dX6_addLimb_21 : decode cX6_addLimb 21 = .ok (.iload_n 2, 1) := by decide +kernel
theorem dX6_addLimb_22 : decode cX6_addLimb 22 = .ok (.invokevirtual 69, 3) := by decide +kernel
theorem dX6_addLimb_25 : decode cX6_addLimb 25 = .ok (.ifCond .ne 6, 3) := by decide +kernel
theorem dX6_addLimb_28 : decode cX6_addLimb 28 = .ok (.bipush (-2), 2) := by decide +kernel
theorem dX6_addLimb_30 : decode cX6_addLimb 30 = .ok (.ireturn, 1) := by decide +kernel
theorem dX6_addLimb_31 : decode cX6_addLimb 31 = .ok (.iload_n 3, 1) := by decide +kernel
theorem dX6_addLimb_32 : decode cX6_addLimb 32 = .ok (.iconst 1, 1) := by decide +kernel
theorem dX6_addLimb_33 : decode cX6_addLimb 33 = .ok (.bipush 20, 2) := by decide +kernel
theorem dX6_addLimb_35 : decode cX6_addLimb 35 = .ok (.invokestatic 58, 3) := by decide +kernel
theorem dX6_addLimb_38 : decode cX6_addLimb 38 = .ok (.ifCond .eq 14, 3) := by decide +kernel
theorem dX6_addLimb_41 : decode cX6_addLimb 41 = .ok (.iload 4, 2) := by decide +kernel
theorem dX6_addLimb_43 : decode cX6_addLimb 43 = .ok (.iconst 0, 1) := by decide +kernel
theorem dX6_addLimb_44 : decode cX6_addLimb 44 = .ok (.bipush 7, 2) := by decide +kernel
theorem dX6_addLimb_46 : decode cX6_addLimb 46 = .ok (.invokestatic 58, 3) := by decide +kernel
theorem dX6_addLimb_49 : decode cX6_addLimb 49 = .ok (.ifCond .ne 6, 3) := by decide +kernel
theorem dX6_addLimb_52 : decode cX6_addLimb 52 = .ok (.bipush (-3), 2) := by decide +kernel
theorem dX6_addLimb_54 : decode cX6_addLimb 54 = .ok (.ireturn, 1) := by decide +kernel
theorem dX6_addLimb_55 : decode cX6_addLimb 55 = .ok (.aload 5, 2) := by decide +kernel
theorem dX6_addLimb_57 : decode cX6_addLimb 57 = .ok (.iload_n 2, 1) := by decide +kernel
theorem dX6_addLimb_58 : decode cX6_addLimb 58 = .ok (.iload_n 3, 1) := by decide +kernel
theorem dX6_addLimb_59 : decode cX6_addLimb 59 = .ok (.iload 4, 2) := by decide +kernel
theorem dX6_addLimb_61 : decode cX6_addLimb 61 = .ok (.invokevirtual 73, 3) := by decide +kernel
theorem dX6_addLimb_64 : decode cX6_addLimb 64 = .ok (.ireturn, 1) := by decide +kernel
theorem dX6_count_0 : decode cX6_count 0 = .ok (.iload_n 1, 1) := by decide +kernel
theorem dX6_count_1 : decode cX6_count 1 = .ok (.tableswitch 57 0 3 #[31, 36, 44, 52], 31) := by decide +kernel
theorem dX6_count_32 : decode cX6_count 32 = .ok (.aload_n 0, 1) := by decide +kernel
theorem dX6_count_33 : decode cX6_count 33 = .ok (.getfield 15, 3) := by decide +kernel
theorem dX6_count_36 : decode cX6_count 36 = .ok (.ireturn, 1) := by decide +kernel
theorem dX6_count_37 : decode cX6_count 37 = .ok (.aload_n 0, 1) := by decide +kernel
theorem dX6_count_38 : decode cX6_count 38 = .ok (.getfield 27, 3) := by decide +kernel
theorem dX6_count_41 : decode cX6_count 41 = .ok (.getfield 77, 3) := by decide +kernel
theorem dX6_count_44 : decode cX6_count 44 = .ok (.ireturn, 1) := by decide +kernel
theorem dX6_count_45 : decode cX6_count 45 = .ok (.aload_n 0, 1) := by decide +kernel
theorem dX6_count_46 : decode cX6_count 46 = .ok (.getfield 34, 3) := by decide +kernel
theorem dX6_count_49 : decode cX6_count 49 = .ok (.getfield 80, 3) := by decide +kernel
theorem dX6_count_52 : decode cX6_count 52 = .ok (.ireturn, 1) := by decide +kernel
theorem dX6_count_53 : decode cX6_count 53 = .ok (.aload_n 0, 1) := by decide +kernel
theorem dX6_count_54 : decode cX6_count 54 = .ok (.invokevirtual 81, 3) := by decide +kernel
theorem dX6_count_57 : decode cX6_count 57 = .ok (.ireturn, 1) := by decide +kernel
theorem dX6_count_58 : decode cX6_count 58 = .ok (.bipush (-3), 2) := by decide +kernel
theorem dX6_count_60 : decode cX6_count 60 = .ok (.ireturn, 1) := by decide +kernel
theorem dX6_addTurn_0 : decode cX6_addTurn 0 = .ok (.aload_n 0, 1) := by decide +kernel
theorem dX6_addTurn_1 : decode cX6_addTurn 1 = .ok (.iload_n 2, 1) := by decide +kernel
theorem dX6_addTurn_2 : decode cX6_addTurn 2 = .ok (.invokevirtual 65, 3) := by decide +kernel
theorem dX6_addTurn_5 : decode cX6_addTurn 5 = .ok (.astore 5, 2) := by decide +kernel
theorem dX6_addTurn_7 : decode cX6_addTurn 7 = .ok (.aload 5, 2) := by decide +kernel
theorem dX6_addTurn_9 : decode cX6_addTurn 9 = .ok (.ifnonnull 5, 3) := by decide +kernel
theorem dX6_addTurn_12 : decode cX6_addTurn 12 = .ok (.iconst (-1), 1) := by decide +kernel
theorem dX6_addTurn_13 : decode cX6_addTurn 13 = .ok (.ireturn, 1) := by decide +kernel
theorem dX6_addTurn_14 : decode cX6_addTurn 14 = .ok (.aload 5, 2) := by decide +kernel
theorem dX6_addTurn_16 : decode cX6_addTurn 16 = .ok (.iload_n 3, 1) := by decide +kernel
theorem dX6_addTurn_17 : decode cX6_addTurn 17 = .ok (.invokevirtual 69, 3) := by decide +kernel
theorem dX6_addTurn_20 : decode cX6_addTurn 20 = .ok (.ifCond .ne 6, 3) := by decide +kernel
theorem dX6_addTurn_23 : decode cX6_addTurn 23 = .ok (.bipush (-2), 2) := by decide +kernel
theorem dX6_addTurn_25 : decode cX6_addTurn 25 = .ok (.ireturn, 1) := by decide +kernel
theorem dX6_addTurn_26 : decode cX6_addTurn 26 = .ok (.iload_n 1, 1) := by decide +kernel
theorem dX6_addTurn_27 : decode cX6_addTurn 27 = .ok (.invokestatic 85, 3) := by decide +kernel
theorem dX6_addTurn_30 : decode cX6_addTurn 30 = .ok (.ifCond .eq 20, 3) := by decide +kernel
theorem dX6_addTurn_33 : decode cX6_addTurn 33 = .ok (.iload 4, 2) := by decide +kernel
theorem dX6_addTurn_35 : decode cX6_addTurn 35 = .ok (.bipush (-7), 2) := by decide +kernel
theorem dX6_addTurn_37 : decode cX6_addTurn 37 = .ok (.bipush 7, 2) := by decide +kernel
theorem dX6_addTurn_39 : decode cX6_addTurn 39 = .ok (.invokestatic 58, 3) := by decide +kernel
theorem dX6_addTurn_42 : decode cX6_addTurn 42 = .ok (.ifCond .eq 8, 3) := by decide +kernel
theorem dX6_addTurn_45 : decode cX6_addTurn 45 = .ok (.iload 4, 2) := by decide +kernel
theorem dX6_addTurn_47 : decode cX6_addTurn 47 = .ok (.ifCond .ne 6, 3) := by decide +kernel
theorem dX6_addTurn_50 : decode cX6_addTurn 50 = .ok (.bipush (-3), 2) := by decide +kernel
theorem dX6_addTurn_52 : decode cX6_addTurn 52 = .ok (.ireturn, 1) := by decide +kernel
theorem dX6_addTurn_53 : decode cX6_addTurn 53 = .ok (.new 88, 3) := by decide +kernel
theorem dX6_addTurn_56 : decode cX6_addTurn 56 = .ok (.dup, 1) := by decide +kernel
theorem dX6_addTurn_57 : decode cX6_addTurn 57 = .ok (.aload_n 0, 1) := by decide +kernel
theorem dX6_addTurn_58 : decode cX6_addTurn 58 = .ok (.getfield 27, 3) := by decide +kernel
theorem dX6_addTurn_61 : decode cX6_addTurn 61 = .ok (.getfield 77, 3) := by decide +kernel
theorem dX6_addTurn_64 : decode cX6_addTurn 64 = .ok (.iload_n 1, 1) := by decide +kernel
theorem dX6_addTurn_65 : decode cX6_addTurn 65 = .ok (.iload_n 2, 1) := by decide +kernel
theorem dX6_addTurn_66 : decode cX6_addTurn 66 = .ok (.iload_n 3, 1) := by decide +kernel
theorem dX6_addTurn_67 : decode cX6_addTurn 67 = .ok (.invokespecial 90, 3) := by decide +kernel
theorem dX6_addTurn_70 : decode cX6_addTurn 70 = .ok (.astore 6, 2) := by decide +kernel
theorem dX6_addTurn_72 : decode cX6_addTurn 72 = .ok (.aload 6, 2) := by decide +kernel
theorem dX6_addTurn_74 : decode cX6_addTurn 74 = .ok (.iload 4, 2) := by decide +kernel
theorem dX6_addTurn_76 : decode cX6_addTurn 76 = .ok (.putfield 91, 3) := by decide +kernel
theorem dX6_addTurn_79 : decode cX6_addTurn 79 = .ok (.aload_n 0, 1) := by decide +kernel
theorem dX6_addTurn_80 : decode cX6_addTurn 80 = .ok (.getfield 27, 3) := by decide +kernel
theorem dX6_addTurn_83 : decode cX6_addTurn 83 = .ok (.aload 6, 2) := by decide +kernel
theorem dX6_addTurn_85 : decode cX6_addTurn 85 = .ok (.invokevirtual 94, 3) := by decide +kernel
theorem dX6_addTurn_88 : decode cX6_addTurn 88 = .ok (.ireturn, 1) := by decide +kernel
theorem dX6_addShift_0 : decode cX6_addShift 0 = .ok (.aload_n 0, 1) := by decide +kernel
theorem dX6_addShift_1 : decode cX6_addShift 1 = .ok (.iload_n 2, 1) := by decide +kernel
theorem dX6_addShift_2 : decode cX6_addShift 2 = .ok (.invokevirtual 65, 3) := by decide +kernel
theorem dX6_addShift_5 : decode cX6_addShift 5 = .ok (.ifnonnull 5, 3) := by decide +kernel
theorem dX6_addShift_8 : decode cX6_addShift 8 = .ok (.iconst (-1), 1) := by decide +kernel
theorem dX6_addShift_9 : decode cX6_addShift 9 = .ok (.ireturn, 1) := by decide +kernel
theorem dX6_addShift_10 : decode cX6_addShift 10 = .ok (.iload_n 1, 1) := by decide +kernel
theorem dX6_addShift_11 : decode cX6_addShift 11 = .ok (.invokestatic 85, 3) := by decide +kernel
theorem dX6_addShift_14 : decode cX6_addShift 14 = .ok (.ifCond .eq 38, 3) := by decide +kernel
theorem dX6_addShift_17 : decode cX6_addShift 17 = .ok (.iload_n 3, 1) := by decide +kernel
theorem dX6_addShift_18 : decode cX6_addShift 18 = .ok (.bipush (-50), 2) := by decide +kernel
theorem dX6_addShift_20 : decode cX6_addShift 20 = .ok (.bipush 50, 2) := by decide +kernel
theorem dX6_addShift_22 : decode cX6_addShift 22 = .ok (.invokestatic 58, 3) := by decide +kernel
theorem dX6_addShift_25 : decode cX6_addShift 25 = .ok (.ifCond .eq 27, 3) := by decide +kernel
theorem dX6_addShift_28 : decode cX6_addShift 28 = .ok (.iload 4, 2) := by decide +kernel
theorem dX6_addShift_30 : decode cX6_addShift 30 = .ok (.bipush (-50), 2) := by decide +kernel
theorem dX6_addShift_32 : decode cX6_addShift 32 = .ok (.bipush 50, 2) := by decide +kernel
theorem dX6_addShift_34 : decode cX6_addShift 34 = .ok (.invokestatic 58, 3) := by decide +kernel
theorem dX6_addShift_37 : decode cX6_addShift 37 = .ok (.ifCond .eq 15, 3) := by decide +kernel
theorem dX6_addShift_40 : decode cX6_addShift 40 = .ok (.iload 5, 2) := by decide +kernel
theorem dX6_addShift_42 : decode cX6_addShift 42 = .ok (.bipush (-100), 2) := by decide +kernel
theorem dX6_addShift_44 : decode cX6_addShift 44 = .ok (.bipush 100, 2) := by decide +kernel
theorem dX6_addShift_46 : decode cX6_addShift 46 = .ok (.invokestatic 58, 3) := by decide +kernel
theorem dX6_addShift_49 : decode cX6_addShift 49 = .ok (.ifCond .ne 6, 3) := by decide +kernel
theorem dX6_addShift_52 : decode cX6_addShift 52 = .ok (.bipush (-3), 2) := by decide +kernel
theorem dX6_addShift_54 : decode cX6_addShift 54 = .ok (.ireturn, 1) := by decide +kernel
theorem dX6_addShift_55 : decode cX6_addShift 55 = .ok (.new 88, 3) := by decide +kernel
theorem dX6_addShift_58 : decode cX6_addShift 58 = .ok (.dup, 1) := by decide +kernel
theorem dX6_addShift_59 : decode cX6_addShift 59 = .ok (.aload_n 0, 1) := by decide +kernel
theorem dX6_addShift_60 : decode cX6_addShift 60 = .ok (.getfield 27, 3) := by decide +kernel
theorem dX6_addShift_63 : decode cX6_addShift 63 = .ok (.getfield 77, 3) := by decide +kernel
theorem dX6_addShift_66 : decode cX6_addShift 66 = .ok (.iload_n 1, 1) := by decide +kernel
theorem dX6_addShift_67 : decode cX6_addShift 67 = .ok (.iload_n 2, 1) := by decide +kernel
theorem dX6_addShift_68 : decode cX6_addShift 68 = .ok (.iconst (-1), 1) := by decide +kernel
theorem dX6_addShift_69 : decode cX6_addShift 69 = .ok (.invokespecial 90, 3) := by decide +kernel
theorem dX6_addShift_72 : decode cX6_addShift 72 = .ok (.astore 6, 2) := by decide +kernel
theorem dX6_addShift_74 : decode cX6_addShift 74 = .ok (.aload 6, 2) := by decide +kernel
theorem dX6_addShift_76 : decode cX6_addShift 76 = .ok (.iload_n 3, 1) := by decide +kernel
theorem dX6_addShift_77 : decode cX6_addShift 77 = .ok (.putfield 98, 3) := by decide +kernel
theorem dX6_addShift_80 : decode cX6_addShift 80 = .ok (.aload 6, 2) := by decide +kernel
theorem dX6_addShift_82 : decode cX6_addShift 82 = .ok (.iload 4, 2) := by decide +kernel
theorem dX6_addShift_84 : decode cX6_addShift 84 = .ok (.putfield 101, 3) := by decide +kernel
theorem dX6_addShift_87 : decode cX6_addShift 87 = .ok (.aload 6, 2) := by decide +kernel
theorem dX6_addShift_89 : decode cX6_addShift 89 = .ok (.iload 5, 2) := by decide +kernel
theorem dX6_addShift_91 : decode cX6_addShift 91 = .ok (.putfield 104, 3) := by decide +kernel
theorem dX6_addShift_94 : decode cX6_addShift 94 = .ok (.aload_n 0, 1) := by decide +kernel
theorem dX6_addShift_95 : decode cX6_addShift 95 = .ok (.getfield 27, 3) := by decide +kernel
theorem dX6_addShift_98 : decode cX6_addShift 98 = .ok (.aload 6, 2) := by decide +kernel
theorem dX6_addShift_100 : decode cX6_addShift 100 = .ok (.invokevirtual 94, 3) := by decide +kernel
theorem dX6_addShift_103 : decode cX6_addShift 103 = .ok (.ireturn, 1) := by decide +kernel
theorem dX6_removeMoves_0 : decode cX6_removeMoves 0 = .ok (.iload_n 1, 1) := by decide +kernel
theorem dX6_removeMoves_1 : decode cX6_removeMoves 1 = .ok (.iconst 0, 1) := by decide +kernel
theorem dX6_removeMoves_2 : decode cX6_removeMoves 2 = .ok (.aload_n 0, 1) := by decide +kernel
theorem dX6_removeMoves_3 : decode cX6_removeMoves 3 = .ok (.getfield 27, 3) := by decide +kernel
theorem dX6_removeMoves_6 : decode cX6_removeMoves 6 = .ok (.getfield 77, 3) := by decide +kernel
theorem dX6_removeMoves_9 : decode cX6_removeMoves 9 = .ok (.invokestatic 58, 3) := by decide +kernel
theorem dX6_removeMoves_12 : decode cX6_removeMoves 12 = .ok (.ifCond .ne 6, 3) := by decide +kernel
theorem dX6_removeMoves_15 : decode cX6_removeMoves 15 = .ok (.bipush (-3), 2) := by decide +kernel
theorem dX6_removeMoves_17 : decode cX6_removeMoves 17 = .ok (.ireturn, 1) := by decide +kernel
theorem dX6_removeMoves_18 : decode cX6_removeMoves 18 = .ok (.aload_n 0, 1) := by decide +kernel
theorem dX6_removeMoves_19 : decode cX6_removeMoves 19 = .ok (.getfield 27, 3) := by decide +kernel
theorem dX6_removeMoves_22 : decode cX6_removeMoves 22 = .ok (.aload_n 0, 1) := by decide +kernel
theorem dX6_removeMoves_23 : decode cX6_removeMoves 23 = .ok (.getfield 27, 3) := by decide +kernel
theorem dX6_removeMoves_26 : decode cX6_removeMoves 26 = .ok (.getfield 77, 3) := by decide +kernel
theorem dX6_removeMoves_29 : decode cX6_removeMoves 29 = .ok (.iload_n 1, 1) := by decide +kernel
theorem dX6_removeMoves_30 : decode cX6_removeMoves 30 = .ok (.isub, 1) := by decide +kernel
theorem dX6_removeMoves_31 : decode cX6_removeMoves 31 = .ok (.invokevirtual 107, 3) := by decide +kernel
theorem dX6_removeMoves_34 : decode cX6_removeMoves 34 = .ok (.aload_n 0, 1) := by decide +kernel
theorem dX6_removeMoves_35 : decode cX6_removeMoves 35 = .ok (.getfield 27, 3) := by decide +kernel
theorem dX6_removeMoves_38 : decode cX6_removeMoves 38 = .ok (.getfield 77, 3) := by decide +kernel
theorem dX6_removeMoves_41 : decode cX6_removeMoves 41 = .ok (.ireturn, 1) := by decide +kernel
theorem dX6_position_0 : decode cX6_position 0 = .ok (.aload_n 0, 1) := by decide +kernel
theorem dX6_position_1 : decode cX6_position 1 = .ok (.iload_n 1, 1) := by decide +kernel
theorem dX6_position_2 : decode cX6_position 2 = .ok (.invokevirtual 65, 3) := by decide +kernel
theorem dX6_position_5 : decode cX6_position 5 = .ok (.astore 5, 2) := by decide +kernel
theorem dX6_position_7 : decode cX6_position 7 = .ok (.aload 5, 2) := by decide +kernel
theorem dX6_position_9 : decode cX6_position 9 = .ok (.ifnull 33, 3) := by decide +kernel
theorem dX6_position_12 : decode cX6_position 12 = .ok (.iload_n 2, 1) := by decide +kernel
theorem dX6_position_13 : decode cX6_position 13 = .ok (.iconst 0, 1) := by decide +kernel
theorem dX6_position_14 : decode cX6_position 14 = .ok (.aload 5, 2) := by decide +kernel
theorem dX6_position_16 : decode cX6_position 16 = .ok (.getfield 111, 3) := by decide +kernel
theorem dX6_position_19 : decode cX6_position 19 = .ok (.invokestatic 58, 3) := by decide +kernel
theorem dX6_position_22 : decode cX6_position 22 = .ok (.ifCond .eq 20, 3) := by decide +kernel
theorem dX6_position_25 : decode cX6_position 25 = .ok (.iload_n 3, 1) := by decide +kernel
theorem dX6_position_26 : decode cX6_position 26 = .ok (.invokestatic 85, 3) := by decide +kernel
theorem dX6_position_29 : decode cX6_position 29 = .ok (.ifCond .eq 13, 3) := by decide +kernel
theorem dX6_position_32 : decode cX6_position 32 = .ok (.iload 4, 2) := by decide +kernel
theorem dX6_position_34 : decode cX6_position 34 = .ok (.iconst 0, 1) := by decide +kernel
theorem dX6_position_35 : decode cX6_position 35 = .ok (.iconst 3, 1) := by decide +kernel
theorem dX6_position_36 : decode cX6_position 36 = .ok (.invokestatic 58, 3) := by decide +kernel
theorem dX6_position_39 : decode cX6_position 39 = .ok (.ifCond .ne 7, 3) := by decide +kernel
theorem dX6_position_42 : decode cX6_position 42 = .ok (.ldc2_w 114, 3) := by decide +kernel
theorem dX6_position_45 : decode cX6_position 45 = .ok (.lreturn, 1) := by decide +kernel
theorem dX6_position_46 : decode cX6_position 46 = .ok (.aload_n 0, 1) := by decide +kernel
theorem dX6_position_47 : decode cX6_position 47 = .ok (.getfield 41, 3) := by decide +kernel
theorem dX6_position_50 : decode cX6_position 50 = .ok (.aload 5, 2) := by decide +kernel
theorem dX6_position_52 : decode cX6_position 52 = .ok (.aload_n 0, 1) := by decide +kernel
theorem dX6_position_53 : decode cX6_position 53 = .ok (.getfield 27, 3) := by decide +kernel
theorem dX6_position_56 : decode cX6_position 56 = .ok (.iload_n 3, 1) := by decide +kernel
theorem dX6_position_57 : decode cX6_position 57 = .ok (.aload_n 0, 1) := by decide +kernel
theorem dX6_position_58 : decode cX6_position 58 = .ok (.getfield 9, 3) := by decide +kernel
theorem dX6_position_61 : decode cX6_position 61 = .ok (.invokevirtual 116, 3) := by decide +kernel
theorem dX6_position_64 : decode cX6_position 64 = .ok (.pop, 1) := by decide +kernel
theorem dX6_position_65 : decode cX6_position 65 = .ok (.iload 4, 2) := by decide +kernel
theorem dX6_position_67 : decode cX6_position 67 = .ok (.tableswitch 58 0 2 #[25, 36, 47], 25) := by decide +kernel
theorem dX6_position_92 : decode cX6_position 92 = .ok (.aload_n 0, 1) := by decide +kernel
theorem dX6_position_93 : decode cX6_position 93 = .ok (.getfield 41, 3) := by decide +kernel
theorem dX6_position_96 : decode cX6_position 96 = .ok (.getfield 120, 3) := by decide +kernel
theorem dX6_position_99 : decode cX6_position 99 = .ok (.iload_n 2, 1) := by decide +kernel
theorem dX6_position_100 : decode cX6_position 100 = .ok (.iaload, 1) := by decide +kernel
theorem dX6_position_101 : decode cX6_position 101 = .ok (.i2l, 1) := by decide +kernel
theorem dX6_position_102 : decode cX6_position 102 = .ok (.lreturn, 1) := by decide +kernel
theorem dX6_position_103 : decode cX6_position 103 = .ok (.aload_n 0, 1) := by decide +kernel
theorem dX6_position_104 : decode cX6_position 104 = .ok (.getfield 41, 3) := by decide +kernel
theorem dX6_position_107 : decode cX6_position 107 = .ok (.getfield 124, 3) := by decide +kernel
theorem dX6_position_110 : decode cX6_position 110 = .ok (.iload_n 2, 1) := by decide +kernel
theorem dX6_position_111 : decode cX6_position 111 = .ok (.iaload, 1) := by decide +kernel
theorem dX6_position_112 : decode cX6_position 112 = .ok (.i2l, 1) := by decide +kernel
theorem dX6_position_113 : decode cX6_position 113 = .ok (.lreturn, 1) := by decide +kernel
theorem dX6_position_114 : decode cX6_position 114 = .ok (.aload_n 0, 1) := by decide +kernel
theorem dX6_position_115 : decode cX6_position 115 = .ok (.getfield 41, 3) := by decide +kernel
theorem dX6_position_118 : decode cX6_position 118 = .ok (.getfield 127, 3) := by decide +kernel
theorem dX6_position_121 : decode cX6_position 121 = .ok (.iload_n 2, 1) := by decide +kernel
theorem dX6_position_122 : decode cX6_position 122 = .ok (.iaload, 1) := by decide +kernel
theorem dX6_position_123 : decode cX6_position 123 = .ok (.i2l, 1) := by decide +kernel
theorem dX6_position_124 : decode cX6_position 124 = .ok (.lreturn, 1) := by decide +kernel
theorem dX6_position_125 : decode cX6_position 125 = .ok (.aload_n 0, 1) := by decide +kernel
theorem dX6_position_126 : decode cX6_position 126 = .ok (.getfield 41, 3) := by decide +kernel
theorem dX6_position_129 : decode cX6_position 129 = .ok (.getfield 130, 3) := by decide +kernel
theorem dX6_position_132 : decode cX6_position 132 = .ok (.i2l, 1) := by decide +kernel
theorem dX6_position_133 : decode cX6_position 133 = .ok (.lreturn, 1) := by decide +kernel
theorem dX6_box_0 : decode cX6_box 0 = .ok (.aload_n 0, 1) := by decide +kernel
theorem dX6_box_1 : decode cX6_box 1 = .ok (.iload_n 1, 1) := by decide +kernel
theorem dX6_box_2 : decode cX6_box 2 = .ok (.invokevirtual 65, 3) := by decide +kernel
theorem dX6_box_5 : decode cX6_box 5 = .ok (.astore 5, 2) := by decide +kernel
theorem dX6_box_7 : decode cX6_box 7 = .ok (.aload 5, 2) := by decide +kernel
theorem dX6_box_9 : decode cX6_box 9 = .ok (.ifnull 29, 3) := by decide +kernel
theorem dX6_box_12 : decode cX6_box 12 = .ok (.iload_n 2, 1) := by decide +kernel
theorem dX6_box_13 : decode cX6_box 13 = .ok (.invokestatic 85, 3) := by decide +kernel
theorem dX6_box_16 : decode cX6_box 16 = .ok (.ifCond .eq 22, 3) := by decide +kernel
theorem dX6_box_19 : decode cX6_box 19 = .ok (.iload_n 3, 1) := by decide +kernel
theorem dX6_box_20 : decode cX6_box 20 = .ok (.iconst 0, 1) := by decide +kernel
theorem dX6_box_21 : decode cX6_box 21 = .ok (.iconst 5, 1) := by decide +kernel
theorem dX6_box_22 : decode cX6_box 22 = .ok (.invokestatic 58, 3) := by decide +kernel
theorem dX6_box_25 : decode cX6_box 25 = .ok (.ifCond .eq 13, 3) := by decide +kernel
theorem dX6_box_28 : decode cX6_box 28 = .ok (.iload 4, 2) := by decide +kernel
theorem dX6_box_30 : decode cX6_box 30 = .ok (.iconst 0, 1) := by decide +kernel
theorem dX6_box_31 : decode cX6_box 31 = .ok (.iconst 1, 1) := by decide +kernel
theorem dX6_box_32 : decode cX6_box 32 = .ok (.invokestatic 58, 3) := by decide +kernel
theorem dX6_box_35 : decode cX6_box 35 = .ok (.ifCond .ne 7, 3) := by decide +kernel
theorem dX6_box_38 : decode cX6_box 38 = .ok (.ldc2_w 114, 3) := by decide +kernel
theorem dX6_box_41 : decode cX6_box 41 = .ok (.lreturn, 1) := by decide +kernel
theorem dX6_box_42 : decode cX6_box 42 = .ok (.aload_n 0, 1) := by decide +kernel
theorem dX6_box_43 : decode cX6_box 43 = .ok (.getfield 41, 3) := by decide +kernel
theorem dX6_box_46 : decode cX6_box 46 = .ok (.aload 5, 2) := by decide +kernel
theorem dX6_box_48 : decode cX6_box 48 = .ok (.aload_n 0, 1) := by decide +kernel
theorem dX6_box_49 : decode cX6_box 49 = .ok (.getfield 27, 3) := by decide +kernel
theorem dX6_box_52 : decode cX6_box 52 = .ok (.iload_n 2, 1) := by decide +kernel
theorem dX6_box_53 : decode cX6_box 53 = .ok (.aload_n 0, 1) := by decide +kernel
theorem dX6_box_54 : decode cX6_box 54 = .ok (.getfield 9, 3) := by decide +kernel
theorem dX6_box_57 : decode cX6_box 57 = .ok (.invokevirtual 116, 3) := by decide +kernel
theorem dX6_box_60 : decode cX6_box 60 = .ok (.pop, 1) := by decide +kernel
theorem dX6_box_61 : decode cX6_box 61 = .ok (.aload_n 0, 1) := by decide +kernel
theorem dX6_box_62 : decode cX6_box 62 = .ok (.getfield 41, 3) := by decide +kernel
theorem dX6_box_65 : decode cX6_box 65 = .ok (.iload_n 3, 1) := by decide +kernel
theorem dX6_box_66 : decode cX6_box 66 = .ok (.invokevirtual 133, 3) := by decide +kernel
theorem dX6_box_69 : decode cX6_box 69 = .ok (.i2l, 1) := by decide +kernel
theorem dX6_box_70 : decode cX6_box 70 = .ok (.aload_n 0, 1) := by decide +kernel
theorem dX6_box_71 : decode cX6_box 71 = .ok (.getfield 9, 3) := by decide +kernel
theorem dX6_box_74 : decode cX6_box 74 = .ok (.i2l, 1) := by decide +kernel
theorem dX6_box_75 : decode cX6_box 75 = .ok (.lmul, 1) := by decide +kernel
theorem dX6_box_76 : decode cX6_box 76 = .ok (.lstore 6, 2) := by decide +kernel
theorem dX6_box_78 : decode cX6_box 78 = .ok (.lload 6, 2) := by decide +kernel
theorem dX6_box_80 : decode cX6_box 80 = .ok (.aload_n 0, 1) := by decide +kernel
theorem dX6_box_81 : decode cX6_box 81 = .ok (.getfield 41, 3) := by decide +kernel
theorem dX6_box_84 : decode cX6_box 84 = .ok (.getfield 130, 3) := by decide +kernel
theorem dX6_box_87 : decode cX6_box 87 = .ok (.i2l, 1) := by decide +kernel
theorem dX6_box_88 : decode cX6_box 88 = .ok (.iload 4, 2) := by decide +kernel
theorem dX6_box_90 : decode cX6_box 90 = .ok (.invokestatic 137, 3) := by decide +kernel
theorem dX6_box_93 : decode cX6_box 93 = .ok (.lreturn, 1) := by decide +kernel
theorem dX6_overlap_0 : decode cX6_overlap 0 = .ok (.aload_n 0, 1) := by decide +kernel
theorem dX6_overlap_1 : decode cX6_overlap 1 = .ok (.iload_n 1, 1) := by decide +kernel
theorem dX6_overlap_2 : decode cX6_overlap 2 = .ok (.invokevirtual 65, 3) := by decide +kernel
theorem dX6_overlap_5 : decode cX6_overlap 5 = .ok (.astore 5, 2) := by decide +kernel
theorem dX6_overlap_7 : decode cX6_overlap 7 = .ok (.aload_n 0, 1) := by decide +kernel
theorem dX6_overlap_8 : decode cX6_overlap 8 = .ok (.iload_n 2, 1) := by decide +kernel
theorem dX6_overlap_9 : decode cX6_overlap 9 = .ok (.invokevirtual 65, 3) := by decide +kernel
theorem dX6_overlap_12 : decode cX6_overlap 12 = .ok (.astore 6, 2) := by decide +kernel
theorem dX6_overlap_14 : decode cX6_overlap 14 = .ok (.aload 5, 2) := by decide +kernel
theorem dX6_overlap_16 : decode cX6_overlap 16 = .ok (.ifnull 25, 3) := by decide +kernel
theorem dX6_overlap_19 : decode cX6_overlap 19 = .ok (.aload 6, 2) := by decide +kernel
theorem dX6_overlap_21 : decode cX6_overlap 21 = .ok (.ifnull 20, 3) := by decide +kernel
theorem dX6_overlap_24 : decode cX6_overlap 24 = .ok (.iload_n 3, 1) := by decide +kernel
theorem dX6_overlap_25 : decode cX6_overlap 25 = .ok (.invokestatic 85, 3) := by decide +kernel
theorem dX6_overlap_28 : decode cX6_overlap 28 = .ok (.ifCond .eq 13, 3) := by decide +kernel
theorem dX6_overlap_31 : decode cX6_overlap 31 = .ok (.iload 4, 2) := by decide +kernel
theorem dX6_overlap_33 : decode cX6_overlap 33 = .ok (.iconst 0, 1) := by decide +kernel
theorem dX6_overlap_34 : decode cX6_overlap 34 = .ok (.iconst 1, 1) := by decide +kernel
theorem dX6_overlap_35 : decode cX6_overlap 35 = .ok (.invokestatic 58, 3) := by decide +kernel
theorem dX6_overlap_38 : decode cX6_overlap 38 = .ok (.ifCond .ne 7, 3) := by decide +kernel
theorem dX6_overlap_41 : decode cX6_overlap 41 = .ok (.ldc2_w 114, 3) := by decide +kernel
theorem dX6_overlap_44 : decode cX6_overlap 44 = .ok (.lreturn, 1) := by decide +kernel
theorem dX6_overlap_45 : decode cX6_overlap 45 = .ok (.aload_n 0, 1) := by decide +kernel
theorem dX6_overlap_46 : decode cX6_overlap 46 = .ok (.aload 5, 2) := by decide +kernel
theorem dX6_overlap_48 : decode cX6_overlap 48 = .ok (.aload 6, 2) := by decide +kernel
theorem dX6_overlap_50 : decode cX6_overlap 50 = .ok (.iload_n 3, 1) := by decide +kernel
theorem dX6_overlap_51 : decode cX6_overlap 51 = .ok (.invokevirtual 141, 3) := by decide +kernel
theorem dX6_overlap_54 : decode cX6_overlap 54 = .ok (.aload_n 0, 1) := by decide +kernel
theorem dX6_overlap_55 : decode cX6_overlap 55 = .ok (.getfield 41, 3) := by decide +kernel
theorem dX6_overlap_58 : decode cX6_overlap 58 = .ok (.getfield 130, 3) := by decide +kernel
theorem dX6_overlap_61 : decode cX6_overlap 61 = .ok (.i2l, 1) := by decide +kernel
theorem dX6_overlap_62 : decode cX6_overlap 62 = .ok (.lstore 7, 2) := by decide +kernel
theorem dX6_overlap_64 : decode cX6_overlap 64 = .ok (.aload_n 0, 1) := by decide +kernel
theorem dX6_overlap_65 : decode cX6_overlap 65 = .ok (.getfield 45, 3) := by decide +kernel
theorem dX6_overlap_68 : decode cX6_overlap 68 = .ok (.getfield 130, 3) := by decide +kernel
theorem dX6_overlap_71 : decode cX6_overlap 71 = .ok (.i2l, 1) := by decide +kernel
theorem dX6_overlap_72 : decode cX6_overlap 72 = .ok (.lstore 9, 2) := by decide +kernel
theorem dX6_overlap_74 : decode cX6_overlap 74 = .ok (.aload_n 0, 1) := by decide +kernel
theorem dX6_overlap_75 : decode cX6_overlap 75 = .ok (.getfield 41, 3) := by decide +kernel
theorem dX6_overlap_78 : decode cX6_overlap 78 = .ok (.getfield 145, 3) := by decide +kernel
theorem dX6_overlap_81 : decode cX6_overlap 81 = .ok (.i2l, 1) := by decide +kernel
theorem dX6_overlap_82 : decode cX6_overlap 82 = .ok (.lload 9, 2) := by decide +kernel
theorem dX6_overlap_84 : decode cX6_overlap 84 = .ok (.lmul, 1) := by decide +kernel
theorem dX6_overlap_85 : decode cX6_overlap 85 = .ok (.aload_n 0, 1) := by decide +kernel
theorem dX6_overlap_86 : decode cX6_overlap 86 = .ok (.getfield 45, 3) := by decide +kernel
theorem dX6_overlap_89 : decode cX6_overlap 89 = .ok (.getfield 145, 3) := by decide +kernel
theorem dX6_overlap_92 : decode cX6_overlap 92 = .ok (.i2l, 1) := by decide +kernel
theorem dX6_overlap_93 : decode cX6_overlap 93 = .ok (.lload 7, 2) := by decide +kernel
theorem dX6_overlap_95 : decode cX6_overlap 95 = .ok (.lmul, 1) := by decide +kernel
theorem dX6_overlap_96 : decode cX6_overlap 96 = .ok (.invokestatic 148, 3) := by decide +kernel
theorem dX6_overlap_99 : decode cX6_overlap 99 = .ok (.aload_n 0, 1) := by decide +kernel
theorem dX6_overlap_100 : decode cX6_overlap 100 = .ok (.getfield 41, 3) := by decide +kernel
theorem dX6_overlap_103 : decode cX6_overlap 103 = .ok (.getfield 154, 3) := by decide +kernel
theorem dX6_overlap_106 : decode cX6_overlap 106 = .ok (.i2l, 1) := by decide +kernel
theorem dX6_overlap_107 : decode cX6_overlap 107 = .ok (.lload 9, 2) := by decide +kernel
theorem dX6_overlap_109 : decode cX6_overlap 109 = .ok (.lmul, 1) := by decide +kernel
theorem dX6_overlap_110 : decode cX6_overlap 110 = .ok (.aload_n 0, 1) := by decide +kernel
theorem dX6_overlap_111 : decode cX6_overlap 111 = .ok (.getfield 45, 3) := by decide +kernel
theorem dX6_overlap_114 : decode cX6_overlap 114 = .ok (.getfield 154, 3) := by decide +kernel
theorem dX6_overlap_117 : decode cX6_overlap 117 = .ok (.i2l, 1) := by decide +kernel
theorem dX6_overlap_118 : decode cX6_overlap 118 = .ok (.lload 7, 2) := by decide +kernel
theorem dX6_overlap_120 : decode cX6_overlap 120 = .ok (.lmul, 1) := by decide +kernel
theorem dX6_overlap_121 : decode cX6_overlap 121 = .ok (.invokestatic 157, 3) := by decide +kernel
theorem dX6_overlap_124 : decode cX6_overlap 124 = .ok (.lsub, 1) := by decide +kernel
theorem dX6_overlap_125 : decode cX6_overlap 125 = .ok (.lstore 11, 2) := by decide +kernel
theorem dX6_overlap_127 : decode cX6_overlap 127 = .ok (.aload_n 0, 1) := by decide +kernel
theorem dX6_overlap_128 : decode cX6_overlap 128 = .ok (.getfield 41, 3) := by decide +kernel
theorem dX6_overlap_131 : decode cX6_overlap 131 = .ok (.getfield 160, 3) := by decide +kernel
theorem dX6_overlap_134 : decode cX6_overlap 134 = .ok (.i2l, 1) := by decide +kernel
theorem dX6_overlap_135 : decode cX6_overlap 135 = .ok (.lload 9, 2) := by decide +kernel
theorem dX6_overlap_137 : decode cX6_overlap 137 = .ok (.lmul, 1) := by decide +kernel
theorem dX6_overlap_138 : decode cX6_overlap 138 = .ok (.aload_n 0, 1) := by decide +kernel
theorem dX6_overlap_139 : decode cX6_overlap 139 = .ok (.getfield 45, 3) := by decide +kernel
theorem dX6_overlap_142 : decode cX6_overlap 142 = .ok (.getfield 160, 3) := by decide +kernel
theorem dX6_overlap_145 : decode cX6_overlap 145 = .ok (.i2l, 1) := by decide +kernel
theorem dX6_overlap_146 : decode cX6_overlap 146 = .ok (.lload 7, 2) := by decide +kernel
theorem dX6_overlap_148 : decode cX6_overlap 148 = .ok (.lmul, 1) := by decide +kernel
theorem dX6_overlap_149 : decode cX6_overlap 149 = .ok (.invokestatic 148, 3) := by decide +kernel
theorem dX6_overlap_152 : decode cX6_overlap 152 = .ok (.aload_n 0, 1) := by decide +kernel
theorem dX6_overlap_153 : decode cX6_overlap 153 = .ok (.getfield 41, 3) := by decide +kernel
theorem dX6_overlap_156 : decode cX6_overlap 156 = .ok (.getfield 163, 3) := by decide +kernel
theorem dX6_overlap_159 : decode cX6_overlap 159 = .ok (.i2l, 1) := by decide +kernel
theorem dX6_overlap_160 : decode cX6_overlap 160 = .ok (.lload 9, 2) := by decide +kernel
theorem dX6_overlap_162 : decode cX6_overlap 162 = .ok (.lmul, 1) := by decide +kernel
theorem dX6_overlap_163 : decode cX6_overlap 163 = .ok (.aload_n 0, 1) := by decide +kernel
theorem dX6_overlap_164 : decode cX6_overlap 164 = .ok (.getfield 45, 3) := by decide +kernel
theorem dX6_overlap_167 : decode cX6_overlap 167 = .ok (.getfield 163, 3) := by decide +kernel
theorem dX6_overlap_170 : decode cX6_overlap 170 = .ok (.i2l, 1) := by decide +kernel
theorem dX6_overlap_171 : decode cX6_overlap 171 = .ok (.lload 7, 2) := by decide +kernel
theorem dX6_overlap_173 : decode cX6_overlap 173 = .ok (.lmul, 1) := by decide +kernel
theorem dX6_overlap_174 : decode cX6_overlap 174 = .ok (.invokestatic 157, 3) := by decide +kernel
theorem dX6_overlap_177 : decode cX6_overlap 177 = .ok (.lsub, 1) := by decide +kernel
theorem dX6_overlap_178 : decode cX6_overlap 178 = .ok (.lstore 13, 2) := by decide +kernel
theorem dX6_overlap_180 : decode cX6_overlap 180 = .ok (.lload 11, 2) := by decide +kernel
theorem dX6_overlap_182 : decode cX6_overlap 182 = .ok (.lconst 0, 1) := by decide +kernel
theorem dX6_overlap_183 : decode cX6_overlap 183 = .ok (.lcmp, 1) := by decide +kernel
theorem dX6_overlap_184 : decode cX6_overlap 184 = .ok (.ifCond .le 10, 3) := by decide +kernel
theorem dX6_overlap_187 : decode cX6_overlap 187 = .ok (.lload 13, 2) := by decide +kernel
theorem dX6_overlap_189 : decode cX6_overlap 189 = .ok (.lconst 0, 1) := by decide +kernel
theorem dX6_overlap_190 : decode cX6_overlap 190 = .ok (.lcmp, 1) := by decide +kernel
theorem dX6_overlap_191 : decode cX6_overlap 191 = .ok (.ifCond .gt 7, 3) := by decide +kernel
theorem dX6_overlap_194 : decode cX6_overlap 194 = .ok (.lconst 0, 1) := by decide +kernel
theorem dX6_overlap_195 : decode cX6_overlap 195 = .ok (.goto 8, 3) := by decide +kernel
theorem dX6_overlap_198 : decode cX6_overlap 198 = .ok (.lload 11, 2) := by decide +kernel
theorem dX6_overlap_200 : decode cX6_overlap 200 = .ok (.lload 13, 2) := by decide +kernel
theorem dX6_overlap_202 : decode cX6_overlap 202 = .ok (.lmul, 1) := by decide +kernel
theorem dX6_overlap_203 : decode cX6_overlap 203 = .ok (.lstore 15, 2) := by decide +kernel
theorem dX6_overlap_205 : decode cX6_overlap 205 = .ok (.lload 15, 2) := by decide +kernel
theorem dX6_overlap_207 : decode cX6_overlap 207 = .ok (.aload_n 0, 1) := by decide +kernel
theorem dX6_overlap_208 : decode cX6_overlap 208 = .ok (.getfield 9, 3) := by decide +kernel
theorem dX6_overlap_211 : decode cX6_overlap 211 = .ok (.i2l, 1) := by decide +kernel
theorem dX6_overlap_212 : decode cX6_overlap 212 = .ok (.lmul, 1) := by decide +kernel
theorem dX6_overlap_213 : decode cX6_overlap 213 = .ok (.aload_n 0, 1) := by decide +kernel
theorem dX6_overlap_214 : decode cX6_overlap 214 = .ok (.getfield 9, 3) := by decide +kernel
theorem dX6_overlap_217 : decode cX6_overlap 217 = .ok (.i2l, 1) := by decide +kernel
theorem dX6_overlap_218 : decode cX6_overlap 218 = .ok (.lmul, 1) := by decide +kernel
theorem dX6_overlap_219 : decode cX6_overlap 219 = .ok (.lload 7, 2) := by decide +kernel
theorem dX6_overlap_221 : decode cX6_overlap 221 = .ok (.lload 9, 2) := by decide +kernel
theorem dX6_overlap_223 : decode cX6_overlap 223 = .ok (.lmul, 1) := by decide +kernel
theorem dX6_overlap_224 : decode cX6_overlap 224 = .ok (.lload 7, 2) := by decide +kernel
theorem dX6_overlap_226 : decode cX6_overlap 226 = .ok (.lmul, 1) := by decide +kernel
theorem dX6_overlap_227 : decode cX6_overlap 227 = .ok (.lload 9, 2) := by decide +kernel
theorem dX6_overlap_229 : decode cX6_overlap 229 = .ok (.lmul, 1) := by decide +kernel
theorem dX6_overlap_230 : decode cX6_overlap 230 = .ok (.iload 4, 2) := by decide +kernel
theorem dX6_overlap_232 : decode cX6_overlap 232 = .ok (.invokestatic 137, 3) := by decide +kernel
theorem dX6_overlap_235 : decode cX6_overlap 235 = .ok (.lreturn, 1) := by decide +kernel
theorem dX6_crossings_0 : decode cX6_crossings 0 = .ok (.aload_n 0, 1) := by decide +kernel
theorem dX6_crossings_1 : decode cX6_crossings 1 = .ok (.iload_n 1, 1) := by decide +kernel
theorem dX6_crossings_2 : decode cX6_crossings 2 = .ok (.invokevirtual 65, 3) := by decide +kernel
theorem dX6_crossings_5 : decode cX6_crossings 5 = .ok (.astore 4, 2) := by decide +kernel
theorem dX6_crossings_7 : decode cX6_crossings 7 = .ok (.aload_n 0, 1) := by decide +kernel
theorem dX6_crossings_8 : decode cX6_crossings 8 = .ok (.iload_n 2, 1) := by decide +kernel
theorem dX6_crossings_9 : decode cX6_crossings 9 = .ok (.invokevirtual 65, 3) := by decide +kernel
theorem dX6_crossings_12 : decode cX6_crossings 12 = .ok (.astore 5, 2) := by decide +kernel
theorem dX6_crossings_14 : decode cX6_crossings 14 = .ok (.aload 4, 2) := by decide +kernel
theorem dX6_crossings_16 : decode cX6_crossings 16 = .ok (.ifnull 8, 3) := by decide +kernel
theorem dX6_crossings_19 : decode cX6_crossings 19 = .ok (.aload 5, 2) := by decide +kernel
theorem dX6_crossings_21 : decode cX6_crossings 21 = .ok (.ifnonnull 5, 3) := by decide +kernel
theorem dX6_crossings_24 : decode cX6_crossings 24 = .ok (.iconst (-1), 1) := by decide +kernel
theorem dX6_crossings_25 : decode cX6_crossings 25 = .ok (.ireturn, 1) := by decide +kernel
theorem dX6_crossings_26 : decode cX6_crossings 26 = .ok (.iload_n 1, 1) := by decide +kernel
theorem dX6_crossings_27 : decode cX6_crossings 27 = .ok (.iload_n 2, 1) := by decide +kernel
theorem dX6_crossings_28 : decode cX6_crossings 28 = .ok (.if_icmp .eq 10, 3) := by decide +kernel
theorem dX6_crossings_31 : decode cX6_crossings 31 = .ok (.iload_n 3, 1) := by decide +kernel
theorem dX6_crossings_32 : decode cX6_crossings 32 = .ok (.invokestatic 85, 3) := by decide +kernel
theorem dX6_crossings_35 : decode cX6_crossings 35 = .ok (.ifCond .ne 6, 3) := by decide +kernel
theorem dX6_crossings_38 : decode cX6_crossings 38 = .ok (.bipush (-3), 2) := by decide +kernel
theorem dX6_crossings_40 : decode cX6_crossings 40 = .ok (.ireturn, 1) := by decide +kernel
theorem dX6_crossings_41 : decode cX6_crossings 41 = .ok (.aload_n 0, 1) := by decide +kernel
theorem dX6_crossings_42 : decode cX6_crossings 42 = .ok (.aload 4, 2) := by decide +kernel
theorem dX6_crossings_44 : decode cX6_crossings 44 = .ok (.aload 5, 2) := by decide +kernel
theorem dX6_crossings_46 : decode cX6_crossings 46 = .ok (.iload_n 3, 1) := by decide +kernel
theorem dX6_crossings_47 : decode cX6_crossings 47 = .ok (.invokevirtual 166, 3) := by decide +kernel
theorem dX6_crossings_50 : decode cX6_crossings 50 = .ok (.ireturn, 1) := by decide +kernel
theorem dX6_nextCrossing_0 : decode cX6_nextCrossing 0 = .ok (.aload_n 0, 1) := by decide +kernel
theorem dX6_nextCrossing_1 : decode cX6_nextCrossing 1 = .ok (.iload_n 1, 1) := by decide +kernel
theorem dX6_nextCrossing_2 : decode cX6_nextCrossing 2 = .ok (.invokevirtual 65, 3) := by decide +kernel
theorem dX6_nextCrossing_5 : decode cX6_nextCrossing 5 = .ok (.astore 4, 2) := by decide +kernel
theorem dX6_nextCrossing_7 : decode cX6_nextCrossing 7 = .ok (.aload_n 0, 1) := by decide +kernel
theorem dX6_nextCrossing_8 : decode cX6_nextCrossing 8 = .ok (.iload_n 2, 1) := by decide +kernel
theorem dX6_nextCrossing_9 : decode cX6_nextCrossing 9 = .ok (.invokevirtual 65, 3) := by decide +kernel
theorem dX6_nextCrossing_12 : decode cX6_nextCrossing 12 = .ok (.astore 5, 2) := by decide +kernel
theorem dX6_nextCrossing_14 : decode cX6_nextCrossing 14 = .ok (.aload 4, 2) := by decide +kernel
theorem dX6_nextCrossing_16 : decode cX6_nextCrossing 16 = .ok (.ifnull 8, 3) := by decide +kernel
theorem dX6_nextCrossing_19 : decode cX6_nextCrossing 19 = .ok (.aload 5, 2) := by decide +kernel
theorem dX6_nextCrossing_21 : decode cX6_nextCrossing 21 = .ok (.ifnonnull 5, 3) := by decide +kernel
theorem dX6_nextCrossing_24 : decode cX6_nextCrossing 24 = .ok (.iconst (-1), 1) := by decide +kernel
theorem dX6_nextCrossing_25 : decode cX6_nextCrossing 25 = .ok (.ireturn, 1) := by decide +kernel
theorem dX6_nextCrossing_26 : decode cX6_nextCrossing 26 = .ok (.iload_n 1, 1) := by decide +kernel
theorem dX6_nextCrossing_27 : decode cX6_nextCrossing 27 = .ok (.iload_n 2, 1) := by decide +kernel
theorem dX6_nextCrossing_28 : decode cX6_nextCrossing 28 = .ok (.if_icmp .eq 10, 3) := by decide +kernel
theorem dX6_nextCrossing_31 : decode cX6_nextCrossing 31 = .ok (.iload_n 3, 1) := by decide +kernel
theorem dX6_nextCrossing_32 : decode cX6_nextCrossing 32 = .ok (.invokestatic 85, 3) := by decide +kernel
theorem dX6_nextCrossing_35 : decode cX6_nextCrossing 35 = .ok (.ifCond .ne 6, 3) := by decide +kernel
theorem dX6_nextCrossing_38 : decode cX6_nextCrossing 38 = .ok (.bipush (-3), 2) := by decide +kernel
theorem dX6_nextCrossing_40 : decode cX6_nextCrossing 40 = .ok (.ireturn, 1) := by decide +kernel
theorem dX6_nextCrossing_41 : decode cX6_nextCrossing 41 = .ok (.iload_n 3, 1) := by decide +kernel
theorem dX6_nextCrossing_42 : decode cX6_nextCrossing 42 = .ok (.istore 6, 2) := by decide +kernel
theorem dX6_nextCrossing_44 : decode cX6_nextCrossing 44 = .ok (.iload 6, 2) := by decide +kernel
theorem dX6_nextCrossing_46 : decode cX6_nextCrossing 46 = .ok (.bipush 99, 2) := by decide +kernel
theorem dX6_nextCrossing_48 : decode cX6_nextCrossing 48 = .ok (.if_icmp .gt 55, 3) := by decide +kernel
theorem dX6_nextCrossing_51 : decode cX6_nextCrossing 51 = .ok (.iload 6, 2) := by decide +kernel
theorem dX6_nextCrossing_53 : decode cX6_nextCrossing 53 = .ok (.iload_n 3, 1) := by decide +kernel
theorem dX6_nextCrossing_54 : decode cX6_nextCrossing 54 = .ok (.if_icmp .eq 15, 3) := by decide +kernel
theorem dX6_nextCrossing_57 : decode cX6_nextCrossing 57 = .ok (.aload_n 0, 1) := by decide +kernel
theorem dX6_nextCrossing_58 : decode cX6_nextCrossing 58 = .ok (.getfield 27, 3) := by decide +kernel
theorem dX6_nextCrossing_61 : decode cX6_nextCrossing 61 = .ok (.iload 6, 2) := by decide +kernel
theorem dX6_nextCrossing_63 : decode cX6_nextCrossing 63 = .ok (.invokevirtual 170, 3) := by decide +kernel
theorem dX6_nextCrossing_66 : decode cX6_nextCrossing 66 = .ok (.ifCond .eq 7, 3) := by decide +kernel
theorem dX6_nextCrossing_69 : decode cX6_nextCrossing 69 = .ok (.iconst 1, 1) := by decide +kernel
theorem dX6_nextCrossing_70 : decode cX6_nextCrossing 70 = .ok (.goto 4, 3) := by decide +kernel
theorem dX6_nextCrossing_73 : decode cX6_nextCrossing 73 = .ok (.iconst 0, 1) := by decide +kernel
theorem dX6_nextCrossing_74 : decode cX6_nextCrossing 74 = .ok (.istore 7, 2) := by decide +kernel
theorem dX6_nextCrossing_76 : decode cX6_nextCrossing 76 = .ok (.iload 7, 2) := by decide +kernel
theorem dX6_nextCrossing_78 : decode cX6_nextCrossing 78 = .ok (.ifCond .eq 19, 3) := by decide +kernel
theorem dX6_nextCrossing_81 : decode cX6_nextCrossing 81 = .ok (.aload_n 0, 1) := by decide +kernel
theorem dX6_nextCrossing_82 : decode cX6_nextCrossing 82 = .ok (.aload 4, 2) := by decide +kernel
theorem dX6_nextCrossing_84 : decode cX6_nextCrossing 84 = .ok (.aload 5, 2) := by decide +kernel
theorem dX6_nextCrossing_86 : decode cX6_nextCrossing 86 = .ok (.iload 6, 2) := by decide +kernel
theorem dX6_nextCrossing_88 : decode cX6_nextCrossing 88 = .ok (.invokevirtual 166, 3) := by decide +kernel
theorem dX6_nextCrossing_91 : decode cX6_nextCrossing 91 = .ok (.ifCond .le 6, 3) := by decide +kernel
theorem dX6_nextCrossing_94 : decode cX6_nextCrossing 94 = .ok (.iload 6, 2) := by decide +kernel
theorem dX6_nextCrossing_96 : decode cX6_nextCrossing 96 = .ok (.ireturn, 1) := by decide +kernel
theorem dX6_nextCrossing_97 : decode cX6_nextCrossing 97 = .ok (.iinc 6 1, 3) := by decide +kernel
theorem dX6_nextCrossing_100 : decode cX6_nextCrossing 100 = .ok (.goto (-56), 3) := by decide +kernel
theorem dX6_nextCrossing_103 : decode cX6_nextCrossing 103 = .ok (.bipush (-5), 2) := by decide +kernel
theorem dX6_nextCrossing_105 : decode cX6_nextCrossing 105 = .ok (.ireturn, 1) := by decide +kernel
theorem dX6_within_0 : decode cX6_within 0 = .ok (.iload_n 1, 1) := by decide +kernel
theorem dX6_within_1 : decode cX6_within 1 = .ok (.iconst 0, 1) := by decide +kernel
theorem dX6_within_2 : decode cX6_within 2 = .ok (.sipush 20000, 3) := by decide +kernel
theorem dX6_within_5 : decode cX6_within 5 = .ok (.invokestatic 58, 3) := by decide +kernel
theorem dX6_within_8 : decode cX6_within 8 = .ok (.ifCond .eq 21, 3) := by decide +kernel
theorem dX6_within_11 : decode cX6_within 11 = .ok (.iload_n 2, 1) := by decide +kernel
theorem dX6_within_12 : decode cX6_within 12 = .ok (.iconst 0, 1) := by decide +kernel
theorem dX6_within_13 : decode cX6_within 13 = .ok (.sipush 20000, 3) := by decide +kernel
theorem dX6_within_16 : decode cX6_within 16 = .ok (.invokestatic 58, 3) := by decide +kernel
theorem dX6_within_19 : decode cX6_within 19 = .ok (.ifCond .eq 10, 3) := by decide +kernel
theorem dX6_within_22 : decode cX6_within 22 = .ok (.iload_n 3, 1) := by decide +kernel
theorem dX6_within_23 : decode cX6_within 23 = .ok (.invokestatic 85, 3) := by decide +kernel
theorem dX6_within_26 : decode cX6_within 26 = .ok (.ifCond .ne 6, 3) := by decide +kernel
theorem dX6_within_29 : decode cX6_within 29 = .ok (.bipush (-3), 2) := by decide +kernel
theorem dX6_within_31 : decode cX6_within 31 = .ok (.ireturn, 1) := by decide +kernel
theorem dX6_within_32 : decode cX6_within 32 = .ok (.iconst 0, 1) := by decide +kernel
theorem dX6_within_33 : decode cX6_within 33 = .ok (.istore 4, 2) := by decide +kernel
theorem dX6_within_35 : decode cX6_within 35 = .ok (.aload_n 0, 1) := by decide +kernel
theorem dX6_within_36 : decode cX6_within 36 = .ok (.getfield 20, 3) := by decide +kernel
theorem dX6_within_39 : decode cX6_within 39 = .ok (.astore 5, 2) := by decide +kernel
theorem dX6_within_41 : decode cX6_within 41 = .ok (.aload 5, 2) := by decide +kernel
theorem dX6_within_43 : decode cX6_within 43 = .ok (.arraylength, 1) := by decide +kernel
theorem dX6_within_44 : decode cX6_within 44 = .ok (.istore 6, 2) := by decide +kernel
theorem dX6_within_46 : decode cX6_within 46 = .ok (.iconst 0, 1) := by decide +kernel
theorem dX6_within_47 : decode cX6_within 47 = .ok (.istore 7, 2) := by decide +kernel
theorem dX6_within_49 : decode cX6_within 49 = .ok (.iload 7, 2) := by decide +kernel
theorem dX6_within_51 : decode cX6_within 51 = .ok (.iload 6, 2) := by decide +kernel
theorem dX6_within_53 : decode cX6_within 53 = .ok (.if_icmp .ge 63, 3) := by decide +kernel
theorem dX6_within_56 : decode cX6_within 56 = .ok (.aload 5, 2) := by decide +kernel
theorem dX6_within_58 : decode cX6_within 58 = .ok (.iload 7, 2) := by decide +kernel
theorem dX6_within_60 : decode cX6_within 60 = .ok (.aaload, 1) := by decide +kernel
theorem dX6_within_61 : decode cX6_within 61 = .ok (.astore 8, 2) := by decide +kernel
theorem dX6_within_63 : decode cX6_within 63 = .ok (.aload 8, 2) := by decide +kernel
theorem dX6_within_65 : decode cX6_within 65 = .ok (.ifnull 45, 3) := by decide +kernel
theorem dX6_within_68 : decode cX6_within 68 = .ok (.aload_n 0, 1) := by decide +kernel
theorem dX6_within_69 : decode cX6_within 69 = .ok (.getfield 41, 3) := by decide +kernel
theorem dX6_within_72 : decode cX6_within 72 = .ok (.aload 8, 2) := by decide +kernel
theorem dX6_within_74 : decode cX6_within 74 = .ok (.aload_n 0, 1) := by decide +kernel
theorem dX6_within_75 : decode cX6_within 75 = .ok (.getfield 27, 3) := by decide +kernel
theorem dX6_within_78 : decode cX6_within 78 = .ok (.iload_n 3, 1) := by decide +kernel
theorem dX6_within_79 : decode cX6_within 79 = .ok (.aload_n 0, 1) := by decide +kernel
theorem dX6_within_80 : decode cX6_within 80 = .ok (.getfield 9, 3) := by decide +kernel
theorem dX6_within_83 : decode cX6_within 83 = .ok (.invokevirtual 116, 3) := by decide +kernel
theorem dX6_within_86 : decode cX6_within 86 = .ok (.iload_n 1, 1) := by decide +kernel
theorem dX6_within_87 : decode cX6_within 87 = .ok (.iload_n 2, 1) := by decide +kernel
theorem dX6_within_88 : decode cX6_within 88 = .ok (.aload_n 0, 1) := by decide +kernel
theorem dX6_within_89 : decode cX6_within 89 = .ok (.getfield 9, 3) := by decide +kernel
theorem dX6_within_92 : decode cX6_within 92 = .ok (.invokevirtual 173, 3) := by decide +kernel
theorem dX6_within_95 : decode cX6_within 95 = .ok (.ifCond .eq 15, 3) := by decide +kernel
theorem dX6_within_98 : decode cX6_within 98 = .ok (.iload 4, 2) := by decide +kernel
theorem dX6_within_100 : decode cX6_within 100 = .ok (.iconst 1, 1) := by decide +kernel
theorem dX6_within_101 : decode cX6_within 101 = .ok (.aload 8, 2) := by decide +kernel
theorem dX6_within_103 : decode cX6_within 103 = .ok (.getfield 176, 3) := by decide +kernel
theorem dX6_within_106 : decode cX6_within 106 = .ok (.ishl, 1) := by decide +kernel
theorem dX6_within_107 : decode cX6_within 107 = .ok (.ior, 1) := by decide +kernel
theorem dX6_within_108 : decode cX6_within 108 = .ok (.istore 4, 2) := by decide +kernel
theorem dX6_within_110 : decode cX6_within 110 = .ok (.iinc 7 1, 3) := by decide +kernel
theorem dX6_within_113 : decode cX6_within 113 = .ok (.goto (-64), 3) := by decide +kernel
theorem dX6_within_116 : decode cX6_within 116 = .ok (.iload 4, 2) := by decide +kernel
theorem dX6_within_118 : decode cX6_within 118 = .ok (.ireturn, 1) := by decide +kernel
theorem dX6_highest_0 : decode cX6_highest 0 = .ok (.iload_n 1, 1) := by decide +kernel
theorem dX6_highest_1 : decode cX6_highest 1 = .ok (.invokestatic 85, 3) := by decide +kernel
theorem dX6_highest_4 : decode cX6_highest 4 = .ok (.ifCond .ne 6, 3) := by decide +kernel
theorem dX6_highest_7 : decode cX6_highest 7 = .ok (.bipush (-3), 2) := by decide +kernel
theorem dX6_highest_9 : decode cX6_highest 9 = .ok (.ireturn, 1) := by decide +kernel
theorem dX6_highest_10 : decode cX6_highest 10 = .ok (.aconst_null, 1) := by decide +kernel
theorem dX6_highest_11 : decode cX6_highest 11 = .ok (.astore_n 2, 1) := by decide +kernel
theorem dX6_highest_12 : decode cX6_highest 12 = .ok (.aload_n 0, 1) := by decide +kernel
theorem dX6_highest_13 : decode cX6_highest 13 = .ok (.getfield 20, 3) := by decide +kernel
theorem dX6_highest_16 : decode cX6_highest 16 = .ok (.astore_n 3, 1) := by decide +kernel
theorem dX6_highest_17 : decode cX6_highest 17 = .ok (.aload_n 3, 1) := by decide +kernel
theorem dX6_highest_18 : decode cX6_highest 18 = .ok (.arraylength, 1) := by decide +kernel
theorem dX6_highest_19 : decode cX6_highest 19 = .ok (.istore 4, 2) := by decide +kernel
theorem dX6_highest_21 : decode cX6_highest 21 = .ok (.iconst 0, 1) := by decide +kernel
theorem dX6_highest_22 : decode cX6_highest 22 = .ok (.istore 5, 2) := by decide +kernel
theorem dX6_highest_24 : decode cX6_highest 24 = .ok (.iload 5, 2) := by decide +kernel
theorem dX6_highest_26 : decode cX6_highest 26 = .ok (.iload 4, 2) := by decide +kernel
theorem dX6_highest_28 : decode cX6_highest 28 = .ok (.if_icmp .ge 38, 3) := by decide +kernel
theorem dX6_highest_31 : decode cX6_highest 31 = .ok (.aload_n 3, 1) := by decide +kernel
theorem dX6_highest_32 : decode cX6_highest 32 = .ok (.iload 5, 2) := by decide +kernel
theorem dX6_highest_34 : decode cX6_highest 34 = .ok (.aaload, 1) := by decide +kernel
end
section
theorem dX6_highest_35 : decode cX6_highest 35 = .ok (.astore 6, 2) := by decide +kernel
theorem dX6_highest_37 : decode cX6_highest 37 = .ok (.aload 6, 2) := by decide +kernel
theorem dX6_highest_39 : decode cX6_highest 39 = .ok (.ifnull 21, 3) := by decide +kernel
theorem dX6_highest_42 : decode cX6_highest 42 = .ok (.aload_n 2, 1) := by decide +kernel
theorem dX6_highest_43 : decode cX6_highest 43 = .ok (.ifnull 14, 3) := by decide +kernel
theorem dX6_highest_46 : decode cX6_highest 46 = .ok (.aload_n 0, 1) := by decide +kernel
theorem dX6_highest_47 : decode cX6_highest 47 = .ok (.aload 6, 2) := by decide +kernel
theorem dX6_highest_49 : decode cX6_highest 49 = .ok (.aload_n 2, 1) := by decide +kernel
theorem dX6_highest_50 : decode cX6_highest 50 = .ok (.iload_n 1, 1) := by decide +kernel
theorem dX6_highest_51 : decode cX6_highest 51 = .ok (.invokevirtual 179, 3) := by decide +kernel
theorem dX6_highest_54 : decode cX6_highest 54 = .ok (.ifCond .eq 6, 3) := by decide +kernel
theorem dX6_highest_57 : decode cX6_highest 57 = .ok (.aload 6, 2) := by decide +kernel
theorem dX6_highest_59 : decode cX6_highest 59 = .ok (.astore_n 2, 1) := by decide +kernel
theorem dX6_highest_60 : decode cX6_highest 60 = .ok (.iinc 5 1, 3) := by decide +kernel
theorem dX6_highest_63 : decode cX6_highest 63 = .ok (.goto (-39), 3) := by decide +kernel
theorem dX6_highest_66 : decode cX6_highest 66 = .ok (.aload_n 2, 1) := by decide +kernel
theorem dX6_highest_67 : decode cX6_highest 67 = .ok (.ifnonnull 8, 3) := by decide +kernel
theorem dX6_highest_70 : decode cX6_highest 70 = .ok (.bipush (-5), 2) := by decide +kernel
theorem dX6_highest_72 : decode cX6_highest 72 = .ok (.goto 7, 3) := by decide +kernel
theorem dX6_highest_75 : decode cX6_highest 75 = .ok (.aload_n 2, 1) := by decide +kernel
theorem dX6_highest_76 : decode cX6_highest 76 = .ok (.getfield 176, 3) := by decide +kernel
theorem dX6_highest_79 : decode cX6_highest 79 = .ok (.ireturn, 1) := by decide +kernel
theorem dX6_planeFor_0 : decode cX6_planeFor 0 = .ok (.aload_n 0, 1) := by decide +kernel
theorem dX6_planeFor_1 : decode cX6_planeFor 1 = .ok (.iload_n 1, 1) := by decide +kernel
theorem dX6_planeFor_2 : decode cX6_planeFor 2 = .ok (.invokevirtual 65, 3) := by decide +kernel
theorem dX6_planeFor_5 : decode cX6_planeFor 5 = .ok (.astore 4, 2) := by decide +kernel
theorem dX6_planeFor_7 : decode cX6_planeFor 7 = .ok (.aload 4, 2) := by decide +kernel
theorem dX6_planeFor_9 : decode cX6_planeFor 9 = .ok (.ifnonnull 5, 3) := by decide +kernel
theorem dX6_planeFor_12 : decode cX6_planeFor 12 = .ok (.iconst (-1), 1) := by decide +kernel
theorem dX6_planeFor_13 : decode cX6_planeFor 13 = .ok (.ireturn, 1) := by decide +kernel
theorem dX6_planeFor_14 : decode cX6_planeFor 14 = .ok (.iload_n 2, 1) := by decide +kernel
theorem dX6_planeFor_15 : decode cX6_planeFor 15 = .ok (.invokestatic 85, 3) := by decide +kernel
theorem dX6_planeFor_18 : decode cX6_planeFor 18 = .ok (.ifCond .eq 13, 3) := by decide +kernel
theorem dX6_planeFor_21 : decode cX6_planeFor 21 = .ok (.iload_n 3, 1) := by decide +kernel
theorem dX6_planeFor_22 : decode cX6_planeFor 22 = .ok (.iconst 0, 1) := by decide +kernel
theorem dX6_planeFor_23 : decode cX6_planeFor 23 = .ok (.ldc 183, 2) := by decide +kernel
theorem dX6_planeFor_25 : decode cX6_planeFor 25 = .ok (.invokestatic 58, 3) := by decide +kernel
theorem dX6_planeFor_28 : decode cX6_planeFor 28 = .ok (.ifCond .ne 6, 3) := by decide +kernel
theorem dX6_planeFor_31 : decode cX6_planeFor 31 = .ok (.bipush (-3), 2) := by decide +kernel
theorem dX6_planeFor_33 : decode cX6_planeFor 33 = .ok (.ireturn, 1) := by decide +kernel
theorem dX6_planeFor_34 : decode cX6_planeFor 34 = .ok (.iload_n 3, 1) := by decide +kernel
theorem dX6_planeFor_35 : decode cX6_planeFor 35 = .ok (.ifCond .ne 8, 3) := by decide +kernel
theorem dX6_planeFor_38 : decode cX6_planeFor 38 = .ok (.aload_n 0, 1) := by decide +kernel
theorem dX6_planeFor_39 : decode cX6_planeFor 39 = .ok (.getfield 9, 3) := by decide +kernel
theorem dX6_planeFor_42 : decode cX6_planeFor 42 = .ok (.ireturn, 1) := by decide +kernel
theorem dX6_planeFor_43 : decode cX6_planeFor 43 = .ok (.aload_n 0, 1) := by decide +kernel
theorem dX6_planeFor_44 : decode cX6_planeFor 44 = .ok (.getfield 41, 3) := by decide +kernel
theorem dX6_planeFor_47 : decode cX6_planeFor 47 = .ok (.aload 4, 2) := by decide +kernel
theorem dX6_planeFor_49 : decode cX6_planeFor 49 = .ok (.aload_n 0, 1) := by decide +kernel
theorem dX6_planeFor_50 : decode cX6_planeFor 50 = .ok (.getfield 27, 3) := by decide +kernel
theorem dX6_planeFor_53 : decode cX6_planeFor 53 = .ok (.iload_n 2, 1) := by decide +kernel
theorem dX6_planeFor_54 : decode cX6_planeFor 54 = .ok (.aload_n 0, 1) := by decide +kernel
theorem dX6_planeFor_55 : decode cX6_planeFor 55 = .ok (.getfield 9, 3) := by decide +kernel
theorem dX6_planeFor_58 : decode cX6_planeFor 58 = .ok (.invokevirtual 116, 3) := by decide +kernel
theorem dX6_planeFor_61 : decode cX6_planeFor 61 = .ok (.pop, 1) := by decide +kernel
theorem dX6_planeFor_62 : decode cX6_planeFor 62 = .ok (.aload_n 0, 1) := by decide +kernel
theorem dX6_planeFor_63 : decode cX6_planeFor 63 = .ok (.getfield 41, 3) := by decide +kernel
theorem dX6_planeFor_66 : decode cX6_planeFor 66 = .ok (.invokevirtual 184, 3) := by decide +kernel
theorem dX6_planeFor_69 : decode cX6_planeFor 69 = .ok (.aload_n 0, 1) := by decide +kernel
theorem dX6_planeFor_70 : decode cX6_planeFor 70 = .ok (.getfield 9, 3) := by decide +kernel
theorem dX6_planeFor_73 : decode cX6_planeFor 73 = .ok (.imul, 1) := by decide +kernel
theorem dX6_planeFor_74 : decode cX6_planeFor 74 = .ok (.iload_n 3, 1) := by decide +kernel
theorem dX6_planeFor_75 : decode cX6_planeFor 75 = .ok (.idiv, 1) := by decide +kernel
theorem dX6_planeFor_76 : decode cX6_planeFor 76 = .ok (.aload_n 0, 1) := by decide +kernel
theorem dX6_planeFor_77 : decode cX6_planeFor 77 = .ok (.getfield 9, 3) := by decide +kernel
theorem dX6_planeFor_80 : decode cX6_planeFor 80 = .ok (.invokestatic 187, 3) := by decide +kernel
theorem dX6_planeFor_83 : decode cX6_planeFor 83 = .ok (.istore 5, 2) := by decide +kernel
theorem dX6_planeFor_85 : decode cX6_planeFor 85 = .ok (.iload 5, 2) := by decide +kernel
theorem dX6_planeFor_87 : decode cX6_planeFor 87 = .ok (.iconst 1, 1) := by decide +kernel
theorem dX6_planeFor_88 : decode cX6_planeFor 88 = .ok (.if_icmp .lt 8, 3) := by decide +kernel
theorem dX6_planeFor_91 : decode cX6_planeFor 91 = .ok (.iload 5, 2) := by decide +kernel
theorem dX6_planeFor_93 : decode cX6_planeFor 93 = .ok (.goto 5, 3) := by decide +kernel
theorem dX6_planeFor_96 : decode cX6_planeFor 96 = .ok (.bipush (-5), 2) := by decide +kernel
theorem dX6_planeFor_98 : decode cX6_planeFor 98 = .ok (.ireturn, 1) := by decide +kernel
theorem dX6_hands_0 : decode cX6_hands 0 = .ok (.iload_n 1, 1) := by decide +kernel
theorem dX6_hands_1 : decode cX6_hands 1 = .ok (.invokestatic 85, 3) := by decide +kernel
theorem dX6_hands_4 : decode cX6_hands 4 = .ok (.ifCond .eq 11, 3) := by decide +kernel
theorem dX6_hands_7 : decode cX6_hands 7 = .ok (.aload_n 0, 1) := by decide +kernel
theorem dX6_hands_8 : decode cX6_hands 8 = .ok (.iload_n 1, 1) := by decide +kernel
theorem dX6_hands_9 : decode cX6_hands 9 = .ok (.invokevirtual 190, 3) := by decide +kernel
theorem dX6_hands_12 : decode cX6_hands 12 = .ok (.goto 5, 3) := by decide +kernel
theorem dX6_hands_15 : decode cX6_hands 15 = .ok (.bipush (-3), 2) := by decide +kernel
theorem dX6_hands_17 : decode cX6_hands 17 = .ok (.ireturn, 1) := by decide +kernel
theorem dX6_busiestBeat_0 : decode cX6_busiestBeat 0 = .ok (.bipush (-5), 2) := by decide +kernel
theorem dX6_busiestBeat_2 : decode cX6_busiestBeat 2 = .ok (.istore_n 1, 1) := by decide +kernel
theorem dX6_busiestBeat_3 : decode cX6_busiestBeat 3 = .ok (.iconst 0, 1) := by decide +kernel
theorem dX6_busiestBeat_4 : decode cX6_busiestBeat 4 = .ok (.istore_n 2, 1) := by decide +kernel
theorem dX6_busiestBeat_5 : decode cX6_busiestBeat 5 = .ok (.iconst 0, 1) := by decide +kernel
theorem dX6_busiestBeat_6 : decode cX6_busiestBeat 6 = .ok (.istore_n 3, 1) := by decide +kernel
theorem dX6_busiestBeat_7 : decode cX6_busiestBeat 7 = .ok (.iload_n 3, 1) := by decide +kernel
theorem dX6_busiestBeat_8 : decode cX6_busiestBeat 8 = .ok (.bipush 99, 2) := by decide +kernel
theorem dX6_busiestBeat_10 : decode cX6_busiestBeat 10 = .ok (.if_icmp .gt 42, 3) := by decide +kernel
theorem dX6_busiestBeat_13 : decode cX6_busiestBeat 13 = .ok (.aload_n 0, 1) := by decide +kernel
theorem dX6_busiestBeat_14 : decode cX6_busiestBeat 14 = .ok (.getfield 27, 3) := by decide +kernel
theorem dX6_busiestBeat_17 : decode cX6_busiestBeat 17 = .ok (.iload_n 3, 1) := by decide +kernel
theorem dX6_busiestBeat_18 : decode cX6_busiestBeat 18 = .ok (.invokevirtual 170, 3) := by decide +kernel
theorem dX6_busiestBeat_21 : decode cX6_busiestBeat 21 = .ok (.ifCond .eq 11, 3) := by decide +kernel
theorem dX6_busiestBeat_24 : decode cX6_busiestBeat 24 = .ok (.aload_n 0, 1) := by decide +kernel
theorem dX6_busiestBeat_25 : decode cX6_busiestBeat 25 = .ok (.iload_n 3, 1) := by decide +kernel
theorem dX6_busiestBeat_26 : decode cX6_busiestBeat 26 = .ok (.invokevirtual 190, 3) := by decide +kernel
theorem dX6_busiestBeat_29 : decode cX6_busiestBeat 29 = .ok (.goto 4, 3) := by decide +kernel
theorem dX6_busiestBeat_32 : decode cX6_busiestBeat 32 = .ok (.iconst 0, 1) := by decide +kernel
theorem dX6_busiestBeat_33 : decode cX6_busiestBeat 33 = .ok (.istore 4, 2) := by decide +kernel
theorem dX6_busiestBeat_35 : decode cX6_busiestBeat 35 = .ok (.iload 4, 2) := by decide +kernel
theorem dX6_busiestBeat_37 : decode cX6_busiestBeat 37 = .ok (.iload_n 2, 1) := by decide +kernel
theorem dX6_busiestBeat_38 : decode cX6_busiestBeat 38 = .ok (.if_icmp .le 8, 3) := by decide +kernel
theorem dX6_busiestBeat_41 : decode cX6_busiestBeat 41 = .ok (.iload_n 3, 1) := by decide +kernel
theorem dX6_busiestBeat_42 : decode cX6_busiestBeat 42 = .ok (.istore_n 1, 1) := by decide +kernel
theorem dX6_busiestBeat_43 : decode cX6_busiestBeat 43 = .ok (.iload 4, 2) := by decide +kernel
theorem dX6_busiestBeat_45 : decode cX6_busiestBeat 45 = .ok (.istore_n 2, 1) := by decide +kernel
theorem dX6_busiestBeat_46 : decode cX6_busiestBeat 46 = .ok (.iinc 3 1, 3) := by decide +kernel
theorem dX6_busiestBeat_49 : decode cX6_busiestBeat 49 = .ok (.goto (-42), 3) := by decide +kernel
theorem dX6_busiestBeat_52 : decode cX6_busiestBeat 52 = .ok (.iload_n 1, 1) := by decide +kernel
theorem dX6_busiestBeat_53 : decode cX6_busiestBeat 53 = .ok (.ireturn, 1) := by decide +kernel
theorem dX6_activeRods_0 : decode cX6_activeRods 0 = .ok (.aload_n 0, 1) := by decide +kernel
theorem dX6_activeRods_1 : decode cX6_activeRods 1 = .ok (.iload_n 1, 1) := by decide +kernel
theorem dX6_activeRods_2 : decode cX6_activeRods 2 = .ok (.invokevirtual 65, 3) := by decide +kernel
theorem dX6_activeRods_5 : decode cX6_activeRods 5 = .ok (.ifnonnull 5, 3) := by decide +kernel
theorem dX6_activeRods_8 : decode cX6_activeRods 8 = .ok (.iconst (-1), 1) := by decide +kernel
theorem dX6_activeRods_9 : decode cX6_activeRods 9 = .ok (.ireturn, 1) := by decide +kernel
theorem dX6_activeRods_10 : decode cX6_activeRods 10 = .ok (.iload_n 2, 1) := by decide +kernel
theorem dX6_activeRods_11 : decode cX6_activeRods 11 = .ok (.invokestatic 85, 3) := by decide +kernel
theorem dX6_activeRods_14 : decode cX6_activeRods 14 = .ok (.ifCond .eq 18, 3) := by decide +kernel
theorem dX6_activeRods_17 : decode cX6_activeRods 17 = .ok (.aload_n 0, 1) := by decide +kernel
theorem dX6_activeRods_18 : decode cX6_activeRods 18 = .ok (.getfield 27, 3) := by decide +kernel
theorem dX6_activeRods_21 : decode cX6_activeRods 21 = .ok (.iload_n 1, 1) := by decide +kernel
theorem dX6_activeRods_22 : decode cX6_activeRods 22 = .ok (.iload_n 2, 1) := by decide +kernel
theorem dX6_activeRods_23 : decode cX6_activeRods 23 = .ok (.invokevirtual 193, 3) := by decide +kernel
theorem dX6_activeRods_26 : decode cX6_activeRods 26 = .ok (.invokestatic 196, 3) := by decide +kernel
theorem dX6_activeRods_29 : decode cX6_activeRods 29 = .ok (.goto 5, 3) := by decide +kernel
theorem dX6_activeRods_32 : decode cX6_activeRods 32 = .ok (.bipush (-3), 2) := by decide +kernel
theorem dX6_activeRods_34 : decode cX6_activeRods 34 = .ok (.ireturn, 1) := by decide +kernel
theorem dX6_addScene_0 : decode cX6_addScene 0 = .ok (.iload_n 1, 1) := by decide +kernel
theorem dX6_addScene_1 : decode cX6_addScene 1 = .ok (.iconst 0, 1) := by decide +kernel
theorem dX6_addScene_2 : decode cX6_addScene 2 = .ok (.bipush 63, 2) := by decide +kernel
theorem dX6_addScene_4 : decode cX6_addScene 4 = .ok (.invokestatic 58, 3) := by decide +kernel
theorem dX6_addScene_7 : decode cX6_addScene 7 = .ok (.ifCond .ne 6, 3) := by decide +kernel
theorem dX6_addScene_10 : decode cX6_addScene 10 = .ok (.bipush (-3), 2) := by decide +kernel
theorem dX6_addScene_12 : decode cX6_addScene 12 = .ok (.ireturn, 1) := by decide +kernel
theorem dX6_addScene_13 : decode cX6_addScene 13 = .ok (.aload_n 0, 1) := by decide +kernel
theorem dX6_addScene_14 : decode cX6_addScene 14 = .ok (.getfield 34, 3) := by decide +kernel
theorem dX6_addScene_17 : decode cX6_addScene 17 = .ok (.iload_n 1, 1) := by decide +kernel
theorem dX6_addScene_18 : decode cX6_addScene 18 = .ok (.invokevirtual 201, 3) := by decide +kernel
theorem dX6_addScene_21 : decode cX6_addScene 21 = .ok (.ireturn, 1) := by decide +kernel
theorem dX6_clearScenes_0 : decode cX6_clearScenes 0 = .ok (.aload_n 0, 1) := by decide +kernel
theorem dX6_clearScenes_1 : decode cX6_clearScenes 1 = .ok (.getfield 34, 3) := by decide +kernel
theorem dX6_clearScenes_4 : decode cX6_clearScenes 4 = .ok (.getfield 80, 3) := by decide +kernel
theorem dX6_clearScenes_7 : decode cX6_clearScenes 7 = .ok (.istore_n 1, 1) := by decide +kernel
theorem dX6_clearScenes_8 : decode cX6_clearScenes 8 = .ok (.aload_n 0, 1) := by decide +kernel
theorem dX6_clearScenes_9 : decode cX6_clearScenes 9 = .ok (.getfield 34, 3) := by decide +kernel
theorem dX6_clearScenes_12 : decode cX6_clearScenes 12 = .ok (.invokevirtual 204, 3) := by decide +kernel
theorem dX6_clearScenes_15 : decode cX6_clearScenes 15 = .ok (.iload_n 1, 1) := by decide +kernel
theorem dX6_clearScenes_16 : decode cX6_clearScenes 16 = .ok (.ireturn, 1) := by decide +kernel
theorem dX6_bestScene_0 : decode cX6_bestScene 0 = .ok (.iload_n 1, 1) := by decide +kernel
theorem dX6_bestScene_1 : decode cX6_bestScene 1 = .ok (.ifCond .ge 6, 3) := by decide +kernel
theorem dX6_bestScene_4 : decode cX6_bestScene 4 = .ok (.bipush (-3), 2) := by decide +kernel
theorem dX6_bestScene_6 : decode cX6_bestScene 6 = .ok (.ireturn, 1) := by decide +kernel
theorem dX6_bestScene_7 : decode cX6_bestScene 7 = .ok (.iload_n 1, 1) := by decide +kernel
theorem dX6_bestScene_8 : decode cX6_bestScene 8 = .ok (.aload_n 0, 1) := by decide +kernel
theorem dX6_bestScene_9 : decode cX6_bestScene 9 = .ok (.getfield 34, 3) := by decide +kernel
theorem dX6_bestScene_12 : decode cX6_bestScene 12 = .ok (.getfield 80, 3) := by decide +kernel
theorem dX6_bestScene_15 : decode cX6_bestScene 15 = .ok (.if_icmp .ge 14, 3) := by decide +kernel
theorem dX6_bestScene_18 : decode cX6_bestScene 18 = .ok (.aload_n 0, 1) := by decide +kernel
theorem dX6_bestScene_19 : decode cX6_bestScene 19 = .ok (.getfield 34, 3) := by decide +kernel
theorem dX6_bestScene_22 : decode cX6_bestScene 22 = .ok (.iload_n 1, 1) := by decide +kernel
theorem dX6_bestScene_23 : decode cX6_bestScene 23 = .ok (.invokevirtual 207, 3) := by decide +kernel
theorem dX6_bestScene_26 : decode cX6_bestScene 26 = .ok (.goto 5, 3) := by decide +kernel
theorem dX6_bestScene_29 : decode cX6_bestScene 29 = .ok (.bipush (-5), 2) := by decide +kernel
theorem dX6_bestScene_31 : decode cX6_bestScene 31 = .ok (.ireturn, 1) := by decide +kernel
theorem dX6_bestCost_0 : decode cX6_bestCost 0 = .ok (.aload_n 0, 1) := by decide +kernel
theorem dX6_bestCost_1 : decode cX6_bestCost 1 = .ok (.getfield 34, 3) := by decide +kernel
theorem dX6_bestCost_4 : decode cX6_bestCost 4 = .ok (.invokevirtual 210, 3) := by decide +kernel
theorem dX6_bestCost_7 : decode cX6_bestCost 7 = .ok (.ireturn, 1) := by decide +kernel
theorem dX6_inRange_0 : decode cX6_inRange 0 = .ok (.iload_n 1, 1) := by decide +kernel
theorem dX6_inRange_1 : decode cX6_inRange 1 = .ok (.iload_n 0, 1) := by decide +kernel
theorem dX6_inRange_2 : decode cX6_inRange 2 = .ok (.if_icmp .gt 12, 3) := by decide +kernel
theorem dX6_inRange_5 : decode cX6_inRange 5 = .ok (.iload_n 0, 1) := by decide +kernel
theorem dX6_inRange_6 : decode cX6_inRange 6 = .ok (.iload_n 2, 1) := by decide +kernel
theorem dX6_inRange_7 : decode cX6_inRange 7 = .ok (.if_icmp .gt 7, 3) := by decide +kernel
theorem dX6_inRange_10 : decode cX6_inRange 10 = .ok (.iconst 1, 1) := by decide +kernel
theorem dX6_inRange_11 : decode cX6_inRange 11 = .ok (.goto 4, 3) := by decide +kernel
theorem dX6_inRange_14 : decode cX6_inRange 14 = .ok (.iconst 0, 1) := by decide +kernel
theorem dX6_inRange_15 : decode cX6_inRange 15 = .ok (.ireturn, 1) := by decide +kernel
theorem dX6_isBeat_0 : decode cX6_isBeat 0 = .ok (.iload_n 0, 1) := by decide +kernel
theorem dX6_isBeat_1 : decode cX6_isBeat 1 = .ok (.iconst 0, 1) := by decide +kernel
theorem dX6_isBeat_2 : decode cX6_isBeat 2 = .ok (.bipush 99, 2) := by decide +kernel
theorem dX6_isBeat_4 : decode cX6_isBeat 4 = .ok (.invokestatic 58, 3) := by decide +kernel
theorem dX6_isBeat_7 : decode cX6_isBeat 7 = .ok (.ireturn, 1) := by decide +kernel
theorem dX6_figureAt_0 : decode cX6_figureAt 0 = .ok (.iload_n 1, 1) := by decide +kernel
theorem dX6_figureAt_1 : decode cX6_figureAt 1 = .ok (.iconst 0, 1) := by decide +kernel
theorem dX6_figureAt_2 : decode cX6_figureAt 2 = .ok (.aload_n 0, 1) := by decide +kernel
theorem dX6_figureAt_3 : decode cX6_figureAt 3 = .ok (.getfield 15, 3) := by decide +kernel
theorem dX6_figureAt_6 : decode cX6_figureAt 6 = .ok (.iconst 1, 1) := by decide +kernel
theorem dX6_figureAt_7 : decode cX6_figureAt 7 = .ok (.isub, 1) := by decide +kernel
theorem dX6_figureAt_8 : decode cX6_figureAt 8 = .ok (.invokestatic 58, 3) := by decide +kernel
theorem dX6_figureAt_11 : decode cX6_figureAt 11 = .ok (.ifCond .eq 12, 3) := by decide +kernel
theorem dX6_figureAt_14 : decode cX6_figureAt 14 = .ok (.aload_n 0, 1) := by decide +kernel
theorem dX6_figureAt_15 : decode cX6_figureAt 15 = .ok (.getfield 20, 3) := by decide +kernel
theorem dX6_figureAt_18 : decode cX6_figureAt 18 = .ok (.iload_n 1, 1) := by decide +kernel
theorem dX6_figureAt_19 : decode cX6_figureAt 19 = .ok (.aaload, 1) := by decide +kernel
theorem dX6_figureAt_20 : decode cX6_figureAt 20 = .ok (.goto 4, 3) := by decide +kernel
theorem dX6_figureAt_23 : decode cX6_figureAt 23 = .ok (.aconst_null, 1) := by decide +kernel
theorem dX6_figureAt_24 : decode cX6_figureAt 24 = .ok (.areturn, 1) := by decide +kernel
theorem dX6_limbsOfAll_0 : decode cX6_limbsOfAll 0 = .ok (.iconst 0, 1) := by decide +kernel
theorem dX6_limbsOfAll_1 : decode cX6_limbsOfAll 1 = .ok (.istore_n 1, 1) := by decide +kernel
theorem dX6_limbsOfAll_2 : decode cX6_limbsOfAll 2 = .ok (.aload_n 0, 1) := by decide +kernel
theorem dX6_limbsOfAll_3 : decode cX6_limbsOfAll 3 = .ok (.getfield 20, 3) := by decide +kernel
theorem dX6_limbsOfAll_6 : decode cX6_limbsOfAll 6 = .ok (.astore_n 2, 1) := by decide +kernel
theorem dX6_limbsOfAll_7 : decode cX6_limbsOfAll 7 = .ok (.aload_n 2, 1) := by decide +kernel
theorem dX6_limbsOfAll_8 : decode cX6_limbsOfAll 8 = .ok (.arraylength, 1) := by decide +kernel
theorem dX6_limbsOfAll_9 : decode cX6_limbsOfAll 9 = .ok (.istore_n 3, 1) := by decide +kernel
theorem dX6_limbsOfAll_10 : decode cX6_limbsOfAll 10 = .ok (.iconst 0, 1) := by decide +kernel
theorem dX6_limbsOfAll_11 : decode cX6_limbsOfAll 11 = .ok (.istore 4, 2) := by decide +kernel
theorem dX6_limbsOfAll_13 : decode cX6_limbsOfAll 13 = .ok (.iload 4, 2) := by decide +kernel
theorem dX6_limbsOfAll_15 : decode cX6_limbsOfAll 15 = .ok (.iload_n 3, 1) := by decide +kernel
theorem dX6_limbsOfAll_16 : decode cX6_limbsOfAll 16 = .ok (.if_icmp .ge 32, 3) := by decide +kernel
theorem dX6_limbsOfAll_19 : decode cX6_limbsOfAll 19 = .ok (.aload_n 2, 1) := by decide +kernel
theorem dX6_limbsOfAll_20 : decode cX6_limbsOfAll 20 = .ok (.iload 4, 2) := by decide +kernel
theorem dX6_limbsOfAll_22 : decode cX6_limbsOfAll 22 = .ok (.aaload, 1) := by decide +kernel
theorem dX6_limbsOfAll_23 : decode cX6_limbsOfAll 23 = .ok (.astore 5, 2) := by decide +kernel
theorem dX6_limbsOfAll_25 : decode cX6_limbsOfAll 25 = .ok (.iload_n 1, 1) := by decide +kernel
theorem dX6_limbsOfAll_26 : decode cX6_limbsOfAll 26 = .ok (.aload 5, 2) := by decide +kernel
theorem dX6_limbsOfAll_28 : decode cX6_limbsOfAll 28 = .ok (.ifnonnull 7, 3) := by decide +kernel
theorem dX6_limbsOfAll_31 : decode cX6_limbsOfAll 31 = .ok (.iconst 0, 1) := by decide +kernel
theorem dX6_limbsOfAll_32 : decode cX6_limbsOfAll 32 = .ok (.goto 8, 3) := by decide +kernel
theorem dX6_limbsOfAll_35 : decode cX6_limbsOfAll 35 = .ok (.aload 5, 2) := by decide +kernel
theorem dX6_limbsOfAll_37 : decode cX6_limbsOfAll 37 = .ok (.getfield 111, 3) := by decide +kernel
theorem dX6_limbsOfAll_40 : decode cX6_limbsOfAll 40 = .ok (.iadd, 1) := by decide +kernel
theorem dX6_limbsOfAll_41 : decode cX6_limbsOfAll 41 = .ok (.istore_n 1, 1) := by decide +kernel
theorem dX6_limbsOfAll_42 : decode cX6_limbsOfAll 42 = .ok (.iinc 4 1, 3) := by decide +kernel
theorem dX6_limbsOfAll_45 : decode cX6_limbsOfAll 45 = .ok (.goto (-32), 3) := by decide +kernel
theorem dX6_limbsOfAll_48 : decode cX6_limbsOfAll 48 = .ok (.iload_n 1, 1) := by decide +kernel
theorem dX6_limbsOfAll_49 : decode cX6_limbsOfAll 49 = .ok (.ireturn, 1) := by decide +kernel
theorem dX6_handsOfAll_0 : decode cX6_handsOfAll 0 = .ok (.iconst 0, 1) := by decide +kernel
theorem dX6_handsOfAll_1 : decode cX6_handsOfAll 1 = .ok (.istore_n 2, 1) := by decide +kernel
theorem dX6_handsOfAll_2 : decode cX6_handsOfAll 2 = .ok (.aload_n 0, 1) := by decide +kernel
theorem dX6_handsOfAll_3 : decode cX6_handsOfAll 3 = .ok (.getfield 20, 3) := by decide +kernel
theorem dX6_handsOfAll_6 : decode cX6_handsOfAll 6 = .ok (.astore_n 3, 1) := by decide +kernel
theorem dX6_handsOfAll_7 : decode cX6_handsOfAll 7 = .ok (.aload_n 3, 1) := by decide +kernel
theorem dX6_handsOfAll_8 : decode cX6_handsOfAll 8 = .ok (.arraylength, 1) := by decide +kernel
theorem dX6_handsOfAll_9 : decode cX6_handsOfAll 9 = .ok (.istore 4, 2) := by decide +kernel
theorem dX6_handsOfAll_11 : decode cX6_handsOfAll 11 = .ok (.iconst 0, 1) := by decide +kernel
theorem dX6_handsOfAll_12 : decode cX6_handsOfAll 12 = .ok (.istore 5, 2) := by decide +kernel
theorem dX6_handsOfAll_14 : decode cX6_handsOfAll 14 = .ok (.iload 5, 2) := by decide +kernel
theorem dX6_handsOfAll_16 : decode cX6_handsOfAll 16 = .ok (.iload 4, 2) := by decide +kernel
theorem dX6_handsOfAll_18 : decode cX6_handsOfAll 18 = .ok (.if_icmp .ge 45, 3) := by decide +kernel
theorem dX6_handsOfAll_21 : decode cX6_handsOfAll 21 = .ok (.aload_n 3, 1) := by decide +kernel
theorem dX6_handsOfAll_22 : decode cX6_handsOfAll 22 = .ok (.iload 5, 2) := by decide +kernel
theorem dX6_handsOfAll_24 : decode cX6_handsOfAll 24 = .ok (.aaload, 1) := by decide +kernel
theorem dX6_handsOfAll_25 : decode cX6_handsOfAll 25 = .ok (.astore 6, 2) := by decide +kernel
theorem dX6_handsOfAll_27 : decode cX6_handsOfAll 27 = .ok (.iload_n 2, 1) := by decide +kernel
theorem dX6_handsOfAll_28 : decode cX6_handsOfAll 28 = .ok (.aload 6, 2) := by decide +kernel
theorem dX6_handsOfAll_30 : decode cX6_handsOfAll 30 = .ok (.ifnonnull 7, 3) := by decide +kernel
theorem dX6_handsOfAll_33 : decode cX6_handsOfAll 33 = .ok (.iconst 0, 1) := by decide +kernel
theorem dX6_handsOfAll_34 : decode cX6_handsOfAll 34 = .ok (.goto 21, 3) := by decide +kernel
theorem dX6_handsOfAll_37 : decode cX6_handsOfAll 37 = .ok (.aload 6, 2) := by decide +kernel
theorem dX6_handsOfAll_39 : decode cX6_handsOfAll 39 = .ok (.aload_n 0, 1) := by decide +kernel
theorem dX6_handsOfAll_40 : decode cX6_handsOfAll 40 = .ok (.getfield 27, 3) := by decide +kernel
theorem dX6_handsOfAll_43 : decode cX6_handsOfAll 43 = .ok (.aload 6, 2) := by decide +kernel
theorem dX6_handsOfAll_45 : decode cX6_handsOfAll 45 = .ok (.getfield 176, 3) := by decide +kernel
theorem dX6_handsOfAll_48 : decode cX6_handsOfAll 48 = .ok (.iload_n 1, 1) := by decide +kernel
theorem dX6_handsOfAll_49 : decode cX6_handsOfAll 49 = .ok (.invokevirtual 193, 3) := by decide +kernel
theorem dX6_handsOfAll_52 : decode cX6_handsOfAll 52 = .ok (.invokevirtual 213, 3) := by decide +kernel
theorem dX6_handsOfAll_55 : decode cX6_handsOfAll 55 = .ok (.iadd, 1) := by decide +kernel
theorem dX6_handsOfAll_56 : decode cX6_handsOfAll 56 = .ok (.istore_n 2, 1) := by decide +kernel
theorem dX6_handsOfAll_57 : decode cX6_handsOfAll 57 = .ok (.iinc 5 1, 3) := by decide +kernel
theorem dX6_handsOfAll_60 : decode cX6_handsOfAll 60 = .ok (.goto (-46), 3) := by decide +kernel
theorem dX6_handsOfAll_63 : decode cX6_handsOfAll 63 = .ok (.iload_n 2, 1) := by decide +kernel
theorem dX6_handsOfAll_64 : decode cX6_handsOfAll 64 = .ok (.ireturn, 1) := by decide +kernel
theorem dX6_isHigher_0 : decode cX6_isHigher 0 = .ok (.aload_n 0, 1) := by decide +kernel
theorem dX6_isHigher_1 : decode cX6_isHigher 1 = .ok (.aload_n 1, 1) := by decide +kernel
theorem dX6_isHigher_2 : decode cX6_isHigher 2 = .ok (.aload_n 2, 1) := by decide +kernel
theorem dX6_isHigher_3 : decode cX6_isHigher 3 = .ok (.iload_n 3, 1) := by decide +kernel
theorem dX6_isHigher_4 : decode cX6_isHigher 4 = .ok (.invokevirtual 141, 3) := by decide +kernel
theorem dX6_isHigher_7 : decode cX6_isHigher 7 = .ok (.aload_n 0, 1) := by decide +kernel
theorem dX6_isHigher_8 : decode cX6_isHigher 8 = .ok (.getfield 41, 3) := by decide +kernel
theorem dX6_isHigher_11 : decode cX6_isHigher 11 = .ok (.invokevirtual 184, 3) := by decide +kernel
theorem dX6_isHigher_14 : decode cX6_isHigher 14 = .ok (.aload_n 0, 1) := by decide +kernel
theorem dX6_isHigher_15 : decode cX6_isHigher 15 = .ok (.getfield 45, 3) := by decide +kernel
theorem dX6_isHigher_18 : decode cX6_isHigher 18 = .ok (.getfield 130, 3) := by decide +kernel
theorem dX6_isHigher_21 : decode cX6_isHigher 21 = .ok (.imul, 1) := by decide +kernel
theorem dX6_isHigher_22 : decode cX6_isHigher 22 = .ok (.aload_n 0, 1) := by decide +kernel
theorem dX6_isHigher_23 : decode cX6_isHigher 23 = .ok (.getfield 45, 3) := by decide +kernel
theorem dX6_isHigher_26 : decode cX6_isHigher 26 = .ok (.invokevirtual 184, 3) := by decide +kernel
theorem dX6_isHigher_29 : decode cX6_isHigher 29 = .ok (.aload_n 0, 1) := by decide +kernel
theorem dX6_isHigher_30 : decode cX6_isHigher 30 = .ok (.getfield 41, 3) := by decide +kernel
theorem dX6_isHigher_33 : decode cX6_isHigher 33 = .ok (.getfield 130, 3) := by decide +kernel
theorem dX6_isHigher_36 : decode cX6_isHigher 36 = .ok (.imul, 1) := by decide +kernel
theorem dX6_isHigher_37 : decode cX6_isHigher 37 = .ok (.if_icmp .le 7, 3) := by decide +kernel
theorem dX6_isHigher_40 : decode cX6_isHigher 40 = .ok (.iconst 1, 1) := by decide +kernel
theorem dX6_isHigher_41 : decode cX6_isHigher 41 = .ok (.goto 4, 3) := by decide +kernel
theorem dX6_isHigher_44 : decode cX6_isHigher 44 = .ok (.iconst 0, 1) := by decide +kernel
theorem dX6_isHigher_45 : decode cX6_isHigher 45 = .ok (.ireturn, 1) := by decide +kernel
theorem dX6_takePoses_0 : decode cX6_takePoses 0 = .ok (.aload_n 0, 1) := by decide +kernel
theorem dX6_takePoses_1 : decode cX6_takePoses 1 = .ok (.getfield 41, 3) := by decide +kernel
theorem dX6_takePoses_4 : decode cX6_takePoses 4 = .ok (.aload_n 1, 1) := by decide +kernel
theorem dX6_takePoses_5 : decode cX6_takePoses 5 = .ok (.aload_n 0, 1) := by decide +kernel
theorem dX6_takePoses_6 : decode cX6_takePoses 6 = .ok (.getfield 27, 3) := by decide +kernel
theorem dX6_takePoses_9 : decode cX6_takePoses 9 = .ok (.iload_n 3, 1) := by decide +kernel
theorem dX6_takePoses_10 : decode cX6_takePoses 10 = .ok (.aload_n 0, 1) := by decide +kernel
theorem dX6_takePoses_11 : decode cX6_takePoses 11 = .ok (.getfield 9, 3) := by decide +kernel
theorem dX6_takePoses_14 : decode cX6_takePoses 14 = .ok (.invokevirtual 116, 3) := by decide +kernel
theorem dX6_takePoses_17 : decode cX6_takePoses 17 = .ok (.pop, 1) := by decide +kernel
theorem dX6_takePoses_18 : decode cX6_takePoses 18 = .ok (.aload_n 0, 1) := by decide +kernel
theorem dX6_takePoses_19 : decode cX6_takePoses 19 = .ok (.getfield 45, 3) := by decide +kernel
theorem dX6_takePoses_22 : decode cX6_takePoses 22 = .ok (.aload_n 2, 1) := by decide +kernel
theorem dX6_takePoses_23 : decode cX6_takePoses 23 = .ok (.aload_n 0, 1) := by decide +kernel
theorem dX6_takePoses_24 : decode cX6_takePoses 24 = .ok (.getfield 27, 3) := by decide +kernel
theorem dX6_takePoses_27 : decode cX6_takePoses 27 = .ok (.iload_n 3, 1) := by decide +kernel
theorem dX6_takePoses_28 : decode cX6_takePoses 28 = .ok (.aload_n 0, 1) := by decide +kernel
theorem dX6_takePoses_29 : decode cX6_takePoses 29 = .ok (.getfield 9, 3) := by decide +kernel
theorem dX6_takePoses_32 : decode cX6_takePoses 32 = .ok (.invokevirtual 116, 3) := by decide +kernel
theorem dX6_takePoses_35 : decode cX6_takePoses 35 = .ok (.pop, 1) := by decide +kernel
theorem dX6_takePoses_36 : decode cX6_takePoses 36 = .ok (.return_, 1) := by decide +kernel
theorem dX6_crossingLimbs_0 : decode cX6_crossingLimbs 0 = .ok (.aload_n 0, 1) := by decide +kernel
theorem dX6_crossingLimbs_1 : decode cX6_crossingLimbs 1 = .ok (.aload_n 1, 1) := by decide +kernel
theorem dX6_crossingLimbs_2 : decode cX6_crossingLimbs 2 = .ok (.aload_n 2, 1) := by decide +kernel
theorem dX6_crossingLimbs_3 : decode cX6_crossingLimbs 3 = .ok (.iload_n 3, 1) := by decide +kernel
theorem dX6_crossingLimbs_4 : decode cX6_crossingLimbs 4 = .ok (.invokevirtual 141, 3) := by decide +kernel
theorem dX6_crossingLimbs_7 : decode cX6_crossingLimbs 7 = .ok (.iconst 0, 1) := by decide +kernel
theorem dX6_crossingLimbs_8 : decode cX6_crossingLimbs 8 = .ok (.istore 4, 2) := by decide +kernel
theorem dX6_crossingLimbs_10 : decode cX6_crossingLimbs 10 = .ok (.iconst 0, 1) := by decide +kernel
theorem dX6_crossingLimbs_11 : decode cX6_crossingLimbs 11 = .ok (.istore 5, 2) := by decide +kernel
theorem dX6_crossingLimbs_13 : decode cX6_crossingLimbs 13 = .ok (.iload 5, 2) := by decide +kernel
theorem dX6_crossingLimbs_15 : decode cX6_crossingLimbs 15 = .ok (.aload_n 1, 1) := by decide +kernel
theorem dX6_crossingLimbs_16 : decode cX6_crossingLimbs 16 = .ok (.getfield 111, 3) := by decide +kernel
theorem dX6_crossingLimbs_19 : decode cX6_crossingLimbs 19 = .ok (.if_icmp .ge 100, 3) := by decide +kernel
theorem dX6_crossingLimbs_22 : decode cX6_crossingLimbs 22 = .ok (.aload_n 0, 1) := by decide +kernel
theorem dX6_crossingLimbs_23 : decode cX6_crossingLimbs 23 = .ok (.getfield 51, 3) := by decide +kernel
theorem dX6_crossingLimbs_26 : decode cX6_crossingLimbs 26 = .ok (.aload_n 0, 1) := by decide +kernel
theorem dX6_crossingLimbs_27 : decode cX6_crossingLimbs 27 = .ok (.getfield 41, 3) := by decide +kernel
theorem dX6_crossingLimbs_30 : decode cX6_crossingLimbs 30 = .ok (.aload_n 1, 1) := by decide +kernel
theorem dX6_crossingLimbs_31 : decode cX6_crossingLimbs 31 = .ok (.iload 5, 2) := by decide +kernel
theorem dX6_crossingLimbs_33 : decode cX6_crossingLimbs 33 = .ok (.invokevirtual 216, 3) := by decide +kernel
theorem dX6_crossingLimbs_36 : decode cX6_crossingLimbs 36 = .ok (.iload 5, 2) := by decide +kernel
theorem dX6_crossingLimbs_38 : decode cX6_crossingLimbs 38 = .ok (.iconst 1, 1) := by decide +kernel
theorem dX6_crossingLimbs_39 : decode cX6_crossingLimbs 39 = .ok (.iadd, 1) := by decide +kernel
theorem dX6_crossingLimbs_40 : decode cX6_crossingLimbs 40 = .ok (.aload_n 0, 1) := by decide +kernel
theorem dX6_crossingLimbs_41 : decode cX6_crossingLimbs 41 = .ok (.getfield 45, 3) := by decide +kernel
theorem dX6_crossingLimbs_44 : decode cX6_crossingLimbs 44 = .ok (.getfield 130, 3) := by decide +kernel
theorem dX6_crossingLimbs_47 : decode cX6_crossingLimbs 47 = .ok (.invokevirtual 219, 3) := by decide +kernel
theorem dX6_crossingLimbs_50 : decode cX6_crossingLimbs 50 = .ok (.iconst 0, 1) := by decide +kernel
theorem dX6_crossingLimbs_51 : decode cX6_crossingLimbs 51 = .ok (.istore 6, 2) := by decide +kernel
theorem dX6_crossingLimbs_53 : decode cX6_crossingLimbs 53 = .ok (.iload 6, 2) := by decide +kernel
theorem dX6_crossingLimbs_55 : decode cX6_crossingLimbs 55 = .ok (.aload_n 2, 1) := by decide +kernel
theorem dX6_crossingLimbs_56 : decode cX6_crossingLimbs 56 = .ok (.getfield 111, 3) := by decide +kernel
theorem dX6_crossingLimbs_59 : decode cX6_crossingLimbs 59 = .ok (.if_icmp .ge 54, 3) := by decide +kernel
theorem dX6_crossingLimbs_62 : decode cX6_crossingLimbs 62 = .ok (.aload_n 0, 1) := by decide +kernel
theorem dX6_crossingLimbs_63 : decode cX6_crossingLimbs 63 = .ok (.getfield 55, 3) := by decide +kernel
theorem dX6_crossingLimbs_66 : decode cX6_crossingLimbs 66 = .ok (.aload_n 0, 1) := by decide +kernel
theorem dX6_crossingLimbs_67 : decode cX6_crossingLimbs 67 = .ok (.getfield 45, 3) := by decide +kernel
theorem dX6_crossingLimbs_70 : decode cX6_crossingLimbs 70 = .ok (.aload_n 2, 1) := by decide +kernel
theorem dX6_crossingLimbs_71 : decode cX6_crossingLimbs 71 = .ok (.iload 6, 2) := by decide +kernel
theorem dX6_crossingLimbs_73 : decode cX6_crossingLimbs 73 = .ok (.invokevirtual 216, 3) := by decide +kernel
theorem dX6_crossingLimbs_76 : decode cX6_crossingLimbs 76 = .ok (.iload 6, 2) := by decide +kernel
theorem dX6_crossingLimbs_78 : decode cX6_crossingLimbs 78 = .ok (.iconst 1, 1) := by decide +kernel
theorem dX6_crossingLimbs_79 : decode cX6_crossingLimbs 79 = .ok (.iadd, 1) := by decide +kernel
theorem dX6_crossingLimbs_80 : decode cX6_crossingLimbs 80 = .ok (.aload_n 0, 1) := by decide +kernel
theorem dX6_crossingLimbs_81 : decode cX6_crossingLimbs 81 = .ok (.getfield 41, 3) := by decide +kernel
theorem dX6_crossingLimbs_84 : decode cX6_crossingLimbs 84 = .ok (.getfield 130, 3) := by decide +kernel
theorem dX6_crossingLimbs_87 : decode cX6_crossingLimbs 87 = .ok (.invokevirtual 219, 3) := by decide +kernel
theorem dX6_crossingLimbs_90 : decode cX6_crossingLimbs 90 = .ok (.aload_n 0, 1) := by decide +kernel
theorem dX6_crossingLimbs_91 : decode cX6_crossingLimbs 91 = .ok (.getfield 51, 3) := by decide +kernel
theorem dX6_crossingLimbs_94 : decode cX6_crossingLimbs 94 = .ok (.aload_n 0, 1) := by decide +kernel
theorem dX6_crossingLimbs_95 : decode cX6_crossingLimbs 95 = .ok (.getfield 55, 3) := by decide +kernel
theorem dX6_crossingLimbs_98 : decode cX6_crossingLimbs 98 = .ok (.invokevirtual 223, 3) := by decide +kernel
theorem dX6_crossingLimbs_101 : decode cX6_crossingLimbs 101 = .ok (.ifCond .eq 6, 3) := by decide +kernel
theorem dX6_crossingLimbs_104 : decode cX6_crossingLimbs 104 = .ok (.iinc 4 1, 3) := by decide +kernel
theorem dX6_crossingLimbs_107 : decode cX6_crossingLimbs 107 = .ok (.iinc 6 1, 3) := by decide +kernel
theorem dX6_crossingLimbs_110 : decode cX6_crossingLimbs 110 = .ok (.goto (-57), 3) := by decide +kernel
theorem dX6_crossingLimbs_113 : decode cX6_crossingLimbs 113 = .ok (.iinc 5 1, 3) := by decide +kernel
theorem dX6_crossingLimbs_116 : decode cX6_crossingLimbs 116 = .ok (.goto (-103), 3) := by decide +kernel
theorem dX6_crossingLimbs_119 : decode cX6_crossingLimbs 119 = .ok (.iload 4, 2) := by decide +kernel
theorem dX6_crossingLimbs_121 : decode cX6_crossingLimbs 121 = .ok (.ireturn, 1) := by decide +kernel
theorem dX6_partOfFraction_0 : decode cX6_partOfFraction 0 = .ok (.lload_n 0, 1) := by decide +kernel
theorem dX6_partOfFraction_1 : decode cX6_partOfFraction 1 = .ok (.invokestatic 227, 3) := by decide +kernel
theorem dX6_partOfFraction_4 : decode cX6_partOfFraction 4 = .ok (.lload_n 2, 1) := by decide +kernel
theorem dX6_partOfFraction_5 : decode cX6_partOfFraction 5 = .ok (.invokestatic 231, 3) := by decide +kernel
theorem dX6_partOfFraction_8 : decode cX6_partOfFraction 8 = .ok (.lstore 5, 2) := by decide +kernel
theorem dX6_partOfFraction_10 : decode cX6_partOfFraction 10 = .ok (.iload 4, 2) := by decide +kernel
theorem dX6_partOfFraction_12 : decode cX6_partOfFraction 12 = .ok (.ifCond .ne 7, 3) := by decide +kernel
theorem dX6_partOfFraction_15 : decode cX6_partOfFraction 15 = .ok (.lload_n 0, 1) := by decide +kernel
theorem dX6_partOfFraction_16 : decode cX6_partOfFraction 16 = .ok (.goto 4, 3) := by decide +kernel
theorem dX6_partOfFraction_19 : decode cX6_partOfFraction 19 = .ok (.lload_n 2, 1) := by decide +kernel
theorem dX6_partOfFraction_20 : decode cX6_partOfFraction 20 = .ok (.lload 5, 2) := by decide +kernel
theorem dX6_partOfFraction_22 : decode cX6_partOfFraction 22 = .ok (.ldiv, 1) := by decide +kernel
theorem dX6_partOfFraction_23 : decode cX6_partOfFraction 23 = .ok (.lreturn, 1) := by decide +kernel
theorem dX6_commonDivisor_0 : decode cX6_commonDivisor 0 = .ok (.lload_n 0, 1) := by decide +kernel
theorem dX6_commonDivisor_1 : decode cX6_commonDivisor 1 = .ok (.lstore 4, 2) := by decide +kernel
theorem dX6_commonDivisor_3 : decode cX6_commonDivisor 3 = .ok (.lload_n 2, 1) := by decide +kernel
theorem dX6_commonDivisor_4 : decode cX6_commonDivisor 4 = .ok (.lstore 6, 2) := by decide +kernel
theorem dX6_commonDivisor_6 : decode cX6_commonDivisor 6 = .ok (.iconst 0, 1) := by decide +kernel
theorem dX6_commonDivisor_7 : decode cX6_commonDivisor 7 = .ok (.istore 8, 2) := by decide +kernel
theorem dX6_commonDivisor_9 : decode cX6_commonDivisor 9 = .ok (.iload 8, 2) := by decide +kernel
theorem dX6_commonDivisor_11 : decode cX6_commonDivisor 11 = .ok (.bipush 100, 2) := by decide +kernel
theorem dX6_commonDivisor_13 : decode cX6_commonDivisor 13 = .ok (.if_icmp .ge 31, 3) := by decide +kernel
theorem dX6_commonDivisor_16 : decode cX6_commonDivisor 16 = .ok (.lload 6, 2) := by decide +kernel
theorem dX6_commonDivisor_18 : decode cX6_commonDivisor 18 = .ok (.lconst 0, 1) := by decide +kernel
theorem dX6_commonDivisor_19 : decode cX6_commonDivisor 19 = .ok (.lcmp, 1) := by decide +kernel
theorem dX6_commonDivisor_20 : decode cX6_commonDivisor 20 = .ok (.ifCond .eq 24, 3) := by decide +kernel
theorem dX6_commonDivisor_23 : decode cX6_commonDivisor 23 = .ok (.lload 4, 2) := by decide +kernel
theorem dX6_commonDivisor_25 : decode cX6_commonDivisor 25 = .ok (.lload 6, 2) := by decide +kernel
theorem dX6_commonDivisor_27 : decode cX6_commonDivisor 27 = .ok (.lrem, 1) := by decide +kernel
theorem dX6_commonDivisor_28 : decode cX6_commonDivisor 28 = .ok (.lstore 9, 2) := by decide +kernel
theorem dX6_commonDivisor_30 : decode cX6_commonDivisor 30 = .ok (.lload 6, 2) := by decide +kernel
theorem dX6_commonDivisor_32 : decode cX6_commonDivisor 32 = .ok (.lstore 4, 2) := by decide +kernel
theorem dX6_commonDivisor_34 : decode cX6_commonDivisor 34 = .ok (.lload 9, 2) := by decide +kernel
theorem dX6_commonDivisor_36 : decode cX6_commonDivisor 36 = .ok (.lstore 6, 2) := by decide +kernel
theorem dX6_commonDivisor_38 : decode cX6_commonDivisor 38 = .ok (.iinc 8 1, 3) := by decide +kernel
theorem dX6_commonDivisor_41 : decode cX6_commonDivisor 41 = .ok (.goto (-32), 3) := by decide +kernel
theorem dX6_commonDivisor_44 : decode cX6_commonDivisor 44 = .ok (.lconst 1, 1) := by decide +kernel
theorem dX6_commonDivisor_45 : decode cX6_commonDivisor 45 = .ok (.lload 4, 2) := by decide +kernel
theorem dX6_commonDivisor_47 : decode cX6_commonDivisor 47 = .ok (.invokestatic 157, 3) := by decide +kernel
theorem dX6_commonDivisor_50 : decode cX6_commonDivisor 50 = .ok (.lreturn, 1) := by decide +kernel
theorem dX7_init_0 : decode cX7_init 0 = .ok (.aload_n 0, 1) := by decide +kernel
theorem dX7_init_1 : decode cX7_init 1 = .ok (.invokespecial 1, 3) := by decide +kernel
theorem dX7_init_4 : decode cX7_init 4 = .ok (.aload_n 0, 1) := by decide +kernel
theorem dX7_init_5 : decode cX7_init 5 = .ok (.bipush 6, 2) := by decide +kernel
theorem dX7_init_7 : decode cX7_init 7 = .ok (.newarray .int, 2) := by decide +kernel
theorem dX7_init_9 : decode cX7_init 9 = .ok (.putfield 7, 3) := by decide +kernel
theorem dX7_init_12 : decode cX7_init 12 = .ok (.aload_n 0, 1) := by decide +kernel
theorem dX7_init_13 : decode cX7_init 13 = .ok (.bipush 6, 2) := by decide +kernel
theorem dX7_init_15 : decode cX7_init 15 = .ok (.newarray .int, 2) := by decide +kernel
theorem dX7_init_17 : decode cX7_init 17 = .ok (.putfield 13, 3) := by decide +kernel
theorem dX7_init_20 : decode cX7_init 20 = .ok (.aload_n 0, 1) := by decide +kernel
theorem dX7_init_21 : decode cX7_init 21 = .ok (.bipush 6, 2) := by decide +kernel
theorem dX7_init_23 : decode cX7_init 23 = .ok (.newarray .int, 2) := by decide +kernel
theorem dX7_init_25 : decode cX7_init 25 = .ok (.putfield 16, 3) := by decide +kernel
theorem dX7_init_28 : decode cX7_init 28 = .ok (.aload_n 0, 1) := by decide +kernel
theorem dX7_init_29 : decode cX7_init 29 = .ok (.bipush 6, 2) := by decide +kernel
theorem dX7_init_31 : decode cX7_init 31 = .ok (.newarray .int, 2) := by decide +kernel
theorem dX7_init_33 : decode cX7_init 33 = .ok (.putfield 19, 3) := by decide +kernel
theorem dX7_init_36 : decode cX7_init 36 = .ok (.aload_n 0, 1) := by decide +kernel
theorem dX7_init_37 : decode cX7_init 37 = .ok (.bipush 48, 2) := by decide +kernel
theorem dX7_init_39 : decode cX7_init 39 = .ok (.newarray .int, 2) := by decide +kernel
theorem dX7_init_41 : decode cX7_init 41 = .ok (.putfield 22, 3) := by decide +kernel
theorem dX7_init_44 : decode cX7_init 44 = .ok (.aload_n 0, 1) := by decide +kernel
theorem dX7_init_45 : decode cX7_init 45 = .ok (.bipush 48, 2) := by decide +kernel
theorem dX7_init_47 : decode cX7_init 47 = .ok (.newarray .int, 2) := by decide +kernel
theorem dX7_init_49 : decode cX7_init 49 = .ok (.putfield 25, 3) := by decide +kernel
theorem dX7_init_52 : decode cX7_init 52 = .ok (.aload_n 0, 1) := by decide +kernel
theorem dX7_init_53 : decode cX7_init 53 = .ok (.bipush 48, 2) := by decide +kernel
theorem dX7_init_55 : decode cX7_init 55 = .ok (.newarray .int, 2) := by decide +kernel
theorem dX7_init_57 : decode cX7_init 57 = .ok (.putfield 28, 3) := by decide +kernel
theorem dX7_init_60 : decode cX7_init 60 = .ok (.aload_n 0, 1) := by decide +kernel
theorem dX7_init_61 : decode cX7_init 61 = .ok (.bipush 60, 2) := by decide +kernel
theorem dX7_init_63 : decode cX7_init 63 = .ok (.newarray .int, 2) := by decide +kernel
theorem dX7_init_65 : decode cX7_init 65 = .ok (.putfield 31, 3) := by decide +kernel
theorem dX7_init_68 : decode cX7_init 68 = .ok (.aload_n 0, 1) := by decide +kernel
theorem dX7_init_69 : decode cX7_init 69 = .ok (.bipush 60, 2) := by decide +kernel
theorem dX7_init_71 : decode cX7_init 71 = .ok (.newarray .int, 2) := by decide +kernel
theorem dX7_init_73 : decode cX7_init 73 = .ok (.putfield 34, 3) := by decide +kernel
theorem dX7_init_76 : decode cX7_init 76 = .ok (.aload_n 0, 1) := by decide +kernel
theorem dX7_init_77 : decode cX7_init 77 = .ok (.bipush 60, 2) := by decide +kernel
theorem dX7_init_79 : decode cX7_init 79 = .ok (.newarray .int, 2) := by decide +kernel
theorem dX7_init_81 : decode cX7_init 81 = .ok (.putfield 37, 3) := by decide +kernel
theorem dX7_init_84 : decode cX7_init 84 = .ok (.aload_n 0, 1) := by decide +kernel
theorem dX7_init_85 : decode cX7_init 85 = .ok (.bipush 60, 2) := by decide +kernel
theorem dX7_init_87 : decode cX7_init 87 = .ok (.newarray .int, 2) := by decide +kernel
theorem dX7_init_89 : decode cX7_init 89 = .ok (.putfield 40, 3) := by decide +kernel
theorem dX7_init_92 : decode cX7_init 92 = .ok (.aload_n 0, 1) := by decide +kernel
theorem dX7_init_93 : decode cX7_init 93 = .ok (.bipush 60, 2) := by decide +kernel
theorem dX7_init_95 : decode cX7_init 95 = .ok (.newarray .int, 2) := by decide +kernel
theorem dX7_init_97 : decode cX7_init 97 = .ok (.putfield 43, 3) := by decide +kernel
theorem dX7_init_100 : decode cX7_init 100 = .ok (.aload_n 0, 1) := by decide +kernel
theorem dX7_init_101 : decode cX7_init 101 = .ok (.bipush 60, 2) := by decide +kernel
theorem dX7_init_103 : decode cX7_init 103 = .ok (.newarray .int, 2) := by decide +kernel
theorem dX7_init_105 : decode cX7_init 105 = .ok (.putfield 46, 3) := by decide +kernel
theorem dX7_init_108 : decode cX7_init 108 = .ok (.aload_n 0, 1) := by decide +kernel
theorem dX7_init_109 : decode cX7_init 109 = .ok (.bipush 6, 2) := by decide +kernel
theorem dX7_init_111 : decode cX7_init 111 = .ok (.newarray .int, 2) := by decide +kernel
theorem dX7_init_113 : decode cX7_init 113 = .ok (.putfield 49, 3) := by decide +kernel
theorem dX7_init_116 : decode cX7_init 116 = .ok (.aload_n 0, 1) := by decide +kernel
theorem dX7_init_117 : decode cX7_init 117 = .ok (.bipush 48, 2) := by decide +kernel
theorem dX7_init_119 : decode cX7_init 119 = .ok (.newarray .int, 2) := by decide +kernel
theorem dX7_init_121 : decode cX7_init 121 = .ok (.putfield 52, 3) := by decide +kernel
theorem dX7_init_124 : decode cX7_init 124 = .ok (.aload_n 0, 1) := by decide +kernel
theorem dX7_init_125 : decode cX7_init 125 = .ok (.bipush 54, 2) := by decide +kernel
theorem dX7_init_127 : decode cX7_init 127 = .ok (.newarray .long, 2) := by decide +kernel
theorem dX7_init_129 : decode cX7_init 129 = .ok (.putfield 55, 3) := by decide +kernel
theorem dX7_init_132 : decode cX7_init 132 = .ok (.aload_n 0, 1) := by decide +kernel
theorem dX7_init_133 : decode cX7_init 133 = .ok (.bipush 54, 2) := by decide +kernel
theorem dX7_init_135 : decode cX7_init 135 = .ok (.newarray .long, 2) := by decide +kernel
theorem dX7_init_137 : decode cX7_init 137 = .ok (.putfield 59, 3) := by decide +kernel
theorem dX7_init_140 : decode cX7_init 140 = .ok (.aload_n 0, 1) := by decide +kernel
theorem dX7_init_141 : decode cX7_init 141 = .ok (.bipush 54, 2) := by decide +kernel
theorem dX7_init_143 : decode cX7_init 143 = .ok (.newarray .int, 2) := by decide +kernel
theorem dX7_init_145 : decode cX7_init 145 = .ok (.putfield 62, 3) := by decide +kernel
theorem dX7_init_148 : decode cX7_init 148 = .ok (.aload_n 0, 1) := by decide +kernel
theorem dX7_init_149 : decode cX7_init 149 = .ok (.iconst 4, 1) := by decide +kernel
theorem dX7_init_150 : decode cX7_init 150 = .ok (.newarray .long, 2) := by decide +kernel
theorem dX7_init_152 : decode cX7_init 152 = .ok (.putfield 65, 3) := by decide +kernel
theorem dX7_init_155 : decode cX7_init 155 = .ok (.aload_n 0, 1) := by decide +kernel
theorem dX7_init_156 : decode cX7_init 156 = .ok (.iconst 4, 1) := by decide +kernel
theorem dX7_init_157 : decode cX7_init 157 = .ok (.newarray .long, 2) := by decide +kernel
theorem dX7_init_159 : decode cX7_init 159 = .ok (.putfield 68, 3) := by decide +kernel
theorem dX7_init_162 : decode cX7_init 162 = .ok (.aload_n 0, 1) := by decide +kernel
theorem dX7_init_163 : decode cX7_init 163 = .ok (.bipush 8, 2) := by decide +kernel
theorem dX7_init_165 : decode cX7_init 165 = .ok (.newarray .int, 2) := by decide +kernel
theorem dX7_init_167 : decode cX7_init 167 = .ok (.putfield 71, 3) := by decide +kernel
theorem dX7_init_170 : decode cX7_init 170 = .ok (.aload_n 0, 1) := by decide +kernel
theorem dX7_init_171 : decode cX7_init 171 = .ok (.bipush 8, 2) := by decide +kernel
theorem dX7_init_173 : decode cX7_init 173 = .ok (.newarray .int, 2) := by decide +kernel
theorem dX7_init_175 : decode cX7_init 175 = .ok (.putfield 74, 3) := by decide +kernel
theorem dX7_init_178 : decode cX7_init 178 = .ok (.aload_n 0, 1) := by decide +kernel
theorem dX7_init_179 : decode cX7_init 179 = .ok (.bipush 8, 2) := by decide +kernel
theorem dX7_init_181 : decode cX7_init 181 = .ok (.newarray .int, 2) := by decide +kernel
theorem dX7_init_183 : decode cX7_init 183 = .ok (.putfield 77, 3) := by decide +kernel
theorem dX7_init_186 : decode cX7_init 186 = .ok (.aload_n 0, 1) := by decide +kernel
theorem dX7_init_187 : decode cX7_init 187 = .ok (.bipush 100, 2) := by decide +kernel
theorem dX7_init_189 : decode cX7_init 189 = .ok (.putfield 80, 3) := by decide +kernel
theorem dX7_init_192 : decode cX7_init 192 = .ok (.return_, 1) := by decide +kernel
theorem dX7_in_0 : decode cX7_in 0 = .ok (.iload_n 0, 1) := by decide +kernel
theorem dX7_in_1 : decode cX7_in 1 = .ok (.iload_n 1, 1) := by decide +kernel
theorem dX7_in_2 : decode cX7_in 2 = .ok (.if_icmp .lt 12, 3) := by decide +kernel
theorem dX7_in_5 : decode cX7_in 5 = .ok (.iload_n 0, 1) := by decide +kernel
theorem dX7_in_6 : decode cX7_in 6 = .ok (.iload_n 2, 1) := by decide +kernel
theorem dX7_in_7 : decode cX7_in 7 = .ok (.if_icmp .gt 7, 3) := by decide +kernel
theorem dX7_in_10 : decode cX7_in 10 = .ok (.iconst 1, 1) := by decide +kernel
theorem dX7_in_11 : decode cX7_in 11 = .ok (.goto 4, 3) := by decide +kernel
theorem dX7_in_14 : decode cX7_in 14 = .ok (.iconst 0, 1) := by decide +kernel
theorem dX7_in_15 : decode cX7_in 15 = .ok (.ireturn, 1) := by decide +kernel
theorem dX7_lost_0 : decode cX7_lost 0 = .ok (.ldc2_w 84, 3) := by decide +kernel
theorem dX7_lost_3 : decode cX7_lost 3 = .ok (.lreturn, 1) := by decide +kernel
theorem dX7_least_0 : decode cX7_least 0 = .ok (.lload_n 0, 1) := by decide +kernel
theorem dX7_least_1 : decode cX7_least 1 = .ok (.lload_n 2, 1) := by decide +kernel
theorem dX7_least_2 : decode cX7_least 2 = .ok (.lcmp, 1) := by decide +kernel
theorem dX7_least_3 : decode cX7_least 3 = .ok (.ifCond .ge 7, 3) := by decide +kernel
theorem dX7_least_6 : decode cX7_least 6 = .ok (.lload_n 0, 1) := by decide +kernel
theorem dX7_least_7 : decode cX7_least 7 = .ok (.goto 4, 3) := by decide +kernel
theorem dX7_least_10 : decode cX7_least 10 = .ok (.lload_n 2, 1) := by decide +kernel
theorem dX7_least_11 : decode cX7_least 11 = .ok (.lreturn, 1) := by decide +kernel
theorem dX7_most_0 : decode cX7_most 0 = .ok (.lload_n 0, 1) := by decide +kernel
theorem dX7_most_1 : decode cX7_most 1 = .ok (.lload_n 2, 1) := by decide +kernel
theorem dX7_most_2 : decode cX7_most 2 = .ok (.lcmp, 1) := by decide +kernel
theorem dX7_most_3 : decode cX7_most 3 = .ok (.ifCond .le 7, 3) := by decide +kernel
theorem dX7_most_6 : decode cX7_most 6 = .ok (.lload_n 0, 1) := by decide +kernel
theorem dX7_most_7 : decode cX7_most 7 = .ok (.goto 4, 3) := by decide +kernel
theorem dX7_most_10 : decode cX7_most 10 = .ok (.lload_n 2, 1) := by decide +kernel
theorem dX7_most_11 : decode cX7_most 11 = .ok (.lreturn, 1) := by decide +kernel
theorem dX7_noFigure_0 : decode cX7_noFigure 0 = .ok (.iload_n 1, 1) := by decide +kernel
theorem dX7_noFigure_1 : decode cX7_noFigure 1 = .ok (.iconst 0, 1) := by decide +kernel
theorem dX7_noFigure_2 : decode cX7_noFigure 2 = .ok (.aload_n 0, 1) := by decide +kernel
theorem dX7_noFigure_3 : decode cX7_noFigure 3 = .ok (.getfield 86, 3) := by decide +kernel
theorem dX7_noFigure_6 : decode cX7_noFigure 6 = .ok (.iconst 1, 1) := by decide +kernel
theorem dX7_noFigure_7 : decode cX7_noFigure 7 = .ok (.isub, 1) := by decide +kernel
theorem dX7_noFigure_8 : decode cX7_noFigure 8 = .ok (.invokestatic 89, 3) := by decide +kernel
theorem dX7_noFigure_11 : decode cX7_noFigure 11 = .ok (.ifCond .ne 7, 3) := by decide +kernel
theorem dX7_noFigure_14 : decode cX7_noFigure 14 = .ok (.iconst 1, 1) := by decide +kernel
theorem dX7_noFigure_15 : decode cX7_noFigure 15 = .ok (.goto 4, 3) := by decide +kernel
theorem dX7_noFigure_18 : decode cX7_noFigure 18 = .ok (.iconst 0, 1) := by decide +kernel
theorem dX7_noFigure_19 : decode cX7_noFigure 19 = .ok (.ireturn, 1) := by decide +kernel
theorem dX7_noLimb_0 : decode cX7_noLimb 0 = .ok (.iload_n 2, 1) := by decide +kernel
theorem dX7_noLimb_1 : decode cX7_noLimb 1 = .ok (.iconst 0, 1) := by decide +kernel
theorem dX7_noLimb_2 : decode cX7_noLimb 2 = .ok (.aload_n 0, 1) := by decide +kernel
theorem dX7_noLimb_3 : decode cX7_noLimb 3 = .ok (.getfield 19, 3) := by decide +kernel
theorem dX7_noLimb_6 : decode cX7_noLimb 6 = .ok (.iload_n 1, 1) := by decide +kernel
theorem dX7_noLimb_7 : decode cX7_noLimb 7 = .ok (.iaload, 1) := by decide +kernel
theorem dX7_noLimb_8 : decode cX7_noLimb 8 = .ok (.iconst 1, 1) := by decide +kernel
theorem dX7_noLimb_9 : decode cX7_noLimb 9 = .ok (.isub, 1) := by decide +kernel
theorem dX7_noLimb_10 : decode cX7_noLimb 10 = .ok (.invokestatic 89, 3) := by decide +kernel
theorem dX7_noLimb_13 : decode cX7_noLimb 13 = .ok (.ifCond .ne 7, 3) := by decide +kernel
theorem dX7_noLimb_16 : decode cX7_noLimb 16 = .ok (.iconst 1, 1) := by decide +kernel
theorem dX7_noLimb_17 : decode cX7_noLimb 17 = .ok (.goto 4, 3) := by decide +kernel
theorem dX7_noLimb_20 : decode cX7_noLimb 20 = .ok (.iconst 0, 1) := by decide +kernel
theorem dX7_noLimb_21 : decode cX7_noLimb 21 = .ok (.ireturn, 1) := by decide +kernel
theorem dX7_isBeat_0 : decode cX7_isBeat 0 = .ok (.iload_n 0, 1) := by decide +kernel
theorem dX7_isBeat_1 : decode cX7_isBeat 1 = .ok (.iconst 0, 1) := by decide +kernel
theorem dX7_isBeat_2 : decode cX7_isBeat 2 = .ok (.bipush 99, 2) := by decide +kernel
theorem dX7_isBeat_4 : decode cX7_isBeat 4 = .ok (.invokestatic 89, 3) := by decide +kernel
theorem dX7_isBeat_7 : decode cX7_isBeat 7 = .ok (.ireturn, 1) := by decide +kernel
theorem dX7_setDistance_0 : decode cX7_setDistance 0 = .ok (.iload_n 1, 1) := by decide +kernel
theorem dX7_setDistance_1 : decode cX7_setDistance 1 = .ok (.bipush 10, 2) := by decide +kernel
theorem dX7_setDistance_3 : decode cX7_setDistance 3 = .ok (.sipush 200, 3) := by decide +kernel
theorem dX7_setDistance_6 : decode cX7_setDistance 6 = .ok (.invokestatic 89, 3) := by decide +kernel
theorem dX7_setDistance_9 : decode cX7_setDistance 9 = .ok (.ifCond .ne 6, 3) := by decide +kernel
theorem dX7_setDistance_12 : decode cX7_setDistance 12 = .ok (.bipush (-3), 2) := by decide +kernel
theorem dX7_setDistance_14 : decode cX7_setDistance 14 = .ok (.ireturn, 1) := by decide +kernel
theorem dX7_setDistance_15 : decode cX7_setDistance 15 = .ok (.aload_n 0, 1) := by decide +kernel
theorem dX7_setDistance_16 : decode cX7_setDistance 16 = .ok (.getfield 80, 3) := by decide +kernel
theorem dX7_setDistance_19 : decode cX7_setDistance 19 = .ok (.istore_n 2, 1) := by decide +kernel
theorem dX7_setDistance_20 : decode cX7_setDistance 20 = .ok (.aload_n 0, 1) := by decide +kernel
theorem dX7_setDistance_21 : decode cX7_setDistance 21 = .ok (.iload_n 1, 1) := by decide +kernel
theorem dX7_setDistance_22 : decode cX7_setDistance 22 = .ok (.putfield 80, 3) := by decide +kernel
theorem dX7_setDistance_25 : decode cX7_setDistance 25 = .ok (.iload_n 2, 1) := by decide +kernel
theorem dX7_setDistance_26 : decode cX7_setDistance 26 = .ok (.ireturn, 1) := by decide +kernel
theorem dX7_addFigure_0 : decode cX7_addFigure 0 = .ok (.iload_n 1, 1) := by decide +kernel
theorem dX7_addFigure_1 : decode cX7_addFigure 1 = .ok (.bipush (-100), 2) := by decide +kernel
theorem dX7_addFigure_3 : decode cX7_addFigure 3 = .ok (.bipush 100, 2) := by decide +kernel
theorem dX7_addFigure_5 : decode cX7_addFigure 5 = .ok (.invokestatic 89, 3) := by decide +kernel
theorem dX7_addFigure_8 : decode cX7_addFigure 8 = .ok (.ifCond .eq 26, 3) := by decide +kernel
theorem dX7_addFigure_11 : decode cX7_addFigure 11 = .ok (.iload_n 2, 1) := by decide +kernel
theorem dX7_addFigure_12 : decode cX7_addFigure 12 = .ok (.bipush (-100), 2) := by decide +kernel
theorem dX7_addFigure_14 : decode cX7_addFigure 14 = .ok (.bipush 100, 2) := by decide +kernel
theorem dX7_addFigure_16 : decode cX7_addFigure 16 = .ok (.invokestatic 89, 3) := by decide +kernel
theorem dX7_addFigure_19 : decode cX7_addFigure 19 = .ok (.ifCond .eq 15, 3) := by decide +kernel
theorem dX7_addFigure_22 : decode cX7_addFigure 22 = .ok (.iload_n 3, 1) := by decide +kernel
theorem dX7_addFigure_23 : decode cX7_addFigure 23 = .ok (.iconst 1, 1) := by decide +kernel
theorem dX7_addFigure_24 : decode cX7_addFigure 24 = .ok (.aload_n 0, 1) := by decide +kernel
theorem dX7_addFigure_25 : decode cX7_addFigure 25 = .ok (.getfield 80, 3) := by decide +kernel
theorem dX7_addFigure_28 : decode cX7_addFigure 28 = .ok (.invokestatic 89, 3) := by decide +kernel
theorem dX7_addFigure_31 : decode cX7_addFigure 31 = .ok (.ifCond .ne 6, 3) := by decide +kernel
theorem dX7_addFigure_34 : decode cX7_addFigure 34 = .ok (.bipush (-3), 2) := by decide +kernel
theorem dX7_addFigure_36 : decode cX7_addFigure 36 = .ok (.ireturn, 1) := by decide +kernel
theorem dX7_addFigure_37 : decode cX7_addFigure 37 = .ok (.aload_n 0, 1) := by decide +kernel
theorem dX7_addFigure_38 : decode cX7_addFigure 38 = .ok (.getfield 86, 3) := by decide +kernel
theorem dX7_addFigure_41 : decode cX7_addFigure 41 = .ok (.bipush 6, 2) := by decide +kernel
theorem dX7_addFigure_43 : decode cX7_addFigure 43 = .ok (.if_icmp .ne 6, 3) := by decide +kernel
theorem dX7_addFigure_46 : decode cX7_addFigure 46 = .ok (.bipush (-4), 2) := by decide +kernel
theorem dX7_addFigure_48 : decode cX7_addFigure 48 = .ok (.ireturn, 1) := by decide +kernel
theorem dX7_addFigure_49 : decode cX7_addFigure 49 = .ok (.aload_n 0, 1) := by decide +kernel
theorem dX7_addFigure_50 : decode cX7_addFigure 50 = .ok (.getfield 7, 3) := by decide +kernel
theorem dX7_addFigure_53 : decode cX7_addFigure 53 = .ok (.aload_n 0, 1) := by decide +kernel
theorem dX7_addFigure_54 : decode cX7_addFigure 54 = .ok (.getfield 86, 3) := by decide +kernel
theorem dX7_addFigure_57 : decode cX7_addFigure 57 = .ok (.iload_n 1, 1) := by decide +kernel
theorem dX7_addFigure_58 : decode cX7_addFigure 58 = .ok (.iastore, 1) := by decide +kernel
theorem dX7_addFigure_59 : decode cX7_addFigure 59 = .ok (.aload_n 0, 1) := by decide +kernel
theorem dX7_addFigure_60 : decode cX7_addFigure 60 = .ok (.getfield 13, 3) := by decide +kernel
theorem dX7_addFigure_63 : decode cX7_addFigure 63 = .ok (.aload_n 0, 1) := by decide +kernel
theorem dX7_addFigure_64 : decode cX7_addFigure 64 = .ok (.getfield 86, 3) := by decide +kernel
theorem dX7_addFigure_67 : decode cX7_addFigure 67 = .ok (.iload_n 2, 1) := by decide +kernel
theorem dX7_addFigure_68 : decode cX7_addFigure 68 = .ok (.iastore, 1) := by decide +kernel
theorem dX7_addFigure_69 : decode cX7_addFigure 69 = .ok (.aload_n 0, 1) := by decide +kernel
theorem dX7_addFigure_70 : decode cX7_addFigure 70 = .ok (.getfield 16, 3) := by decide +kernel
theorem dX7_addFigure_73 : decode cX7_addFigure 73 = .ok (.aload_n 0, 1) := by decide +kernel
theorem dX7_addFigure_74 : decode cX7_addFigure 74 = .ok (.getfield 86, 3) := by decide +kernel
theorem dX7_addFigure_77 : decode cX7_addFigure 77 = .ok (.iload_n 3, 1) := by decide +kernel
theorem dX7_addFigure_78 : decode cX7_addFigure 78 = .ok (.iastore, 1) := by decide +kernel
theorem dX7_addFigure_79 : decode cX7_addFigure 79 = .ok (.aload_n 0, 1) := by decide +kernel
theorem dX7_addFigure_80 : decode cX7_addFigure 80 = .ok (.getfield 19, 3) := by decide +kernel
theorem dX7_addFigure_83 : decode cX7_addFigure 83 = .ok (.aload_n 0, 1) := by decide +kernel
theorem dX7_addFigure_84 : decode cX7_addFigure 84 = .ok (.getfield 86, 3) := by decide +kernel
theorem dX7_addFigure_87 : decode cX7_addFigure 87 = .ok (.iconst 0, 1) := by decide +kernel
theorem dX7_addFigure_88 : decode cX7_addFigure 88 = .ok (.iastore, 1) := by decide +kernel
theorem dX7_addFigure_89 : decode cX7_addFigure 89 = .ok (.aload_n 0, 1) := by decide +kernel
theorem dX7_addFigure_90 : decode cX7_addFigure 90 = .ok (.dup, 1) := by decide +kernel
theorem dX7_addFigure_91 : decode cX7_addFigure 91 = .ok (.getfield 86, 3) := by decide +kernel
theorem dX7_addFigure_94 : decode cX7_addFigure 94 = .ok (.iconst 1, 1) := by decide +kernel
theorem dX7_addFigure_95 : decode cX7_addFigure 95 = .ok (.iadd, 1) := by decide +kernel
theorem dX7_addFigure_96 : decode cX7_addFigure 96 = .ok (.putfield 86, 3) := by decide +kernel
theorem dX7_addFigure_99 : decode cX7_addFigure 99 = .ok (.aload_n 0, 1) := by decide +kernel
theorem dX7_addFigure_100 : decode cX7_addFigure 100 = .ok (.getfield 86, 3) := by decide +kernel
theorem dX7_addFigure_103 : decode cX7_addFigure 103 = .ok (.iconst 1, 1) := by decide +kernel
theorem dX7_addFigure_104 : decode cX7_addFigure 104 = .ok (.isub, 1) := by decide +kernel
theorem dX7_addFigure_105 : decode cX7_addFigure 105 = .ok (.ireturn, 1) := by decide +kernel
theorem dX7_addLimb_0 : decode cX7_addLimb 0 = .ok (.aload_n 0, 1) := by decide +kernel
theorem dX7_addLimb_1 : decode cX7_addLimb 1 = .ok (.iload_n 1, 1) := by decide +kernel
theorem dX7_addLimb_2 : decode cX7_addLimb 2 = .ok (.invokevirtual 93, 3) := by decide +kernel
theorem dX7_addLimb_5 : decode cX7_addLimb 5 = .ok (.ifCond .eq 5, 3) := by decide +kernel
theorem dX7_addLimb_8 : decode cX7_addLimb 8 = .ok (.iconst (-1), 1) := by decide +kernel
theorem dX7_addLimb_9 : decode cX7_addLimb 9 = .ok (.ireturn, 1) := by decide +kernel
theorem dX7_addLimb_10 : decode cX7_addLimb 10 = .ok (.iload_n 2, 1) := by decide +kernel
theorem dX7_addLimb_11 : decode cX7_addLimb 11 = .ok (.iconst (-1), 1) := by decide +kernel
theorem dX7_addLimb_12 : decode cX7_addLimb 12 = .ok (.if_icmp .eq 15, 3) := by decide +kernel
theorem dX7_addLimb_15 : decode cX7_addLimb 15 = .ok (.aload_n 0, 1) := by decide +kernel
theorem dX7_addLimb_16 : decode cX7_addLimb 16 = .ok (.iload_n 1, 1) := by decide +kernel
theorem dX7_addLimb_17 : decode cX7_addLimb 17 = .ok (.iload_n 2, 1) := by decide +kernel
theorem dX7_addLimb_18 : decode cX7_addLimb 18 = .ok (.invokevirtual 97, 3) := by decide +kernel
theorem dX7_addLimb_21 : decode cX7_addLimb 21 = .ok (.ifCond .eq 6, 3) := by decide +kernel
theorem dX7_addLimb_24 : decode cX7_addLimb 24 = .ok (.bipush (-2), 2) := by decide +kernel
theorem dX7_addLimb_26 : decode cX7_addLimb 26 = .ok (.ireturn, 1) := by decide +kernel
theorem dX7_addLimb_27 : decode cX7_addLimb 27 = .ok (.iload_n 3, 1) := by decide +kernel
theorem dX7_addLimb_28 : decode cX7_addLimb 28 = .ok (.iconst 1, 1) := by decide +kernel
theorem dX7_addLimb_29 : decode cX7_addLimb 29 = .ok (.bipush 20, 2) := by decide +kernel
theorem dX7_addLimb_31 : decode cX7_addLimb 31 = .ok (.invokestatic 89, 3) := by decide +kernel
theorem dX7_addLimb_34 : decode cX7_addLimb 34 = .ok (.ifCond .eq 14, 3) := by decide +kernel
theorem dX7_addLimb_37 : decode cX7_addLimb 37 = .ok (.iload 4, 2) := by decide +kernel
theorem dX7_addLimb_39 : decode cX7_addLimb 39 = .ok (.iconst 0, 1) := by decide +kernel
theorem dX7_addLimb_40 : decode cX7_addLimb 40 = .ok (.bipush 7, 2) := by decide +kernel
theorem dX7_addLimb_42 : decode cX7_addLimb 42 = .ok (.invokestatic 89, 3) := by decide +kernel
theorem dX7_addLimb_45 : decode cX7_addLimb 45 = .ok (.ifCond .ne 6, 3) := by decide +kernel
theorem dX7_addLimb_48 : decode cX7_addLimb 48 = .ok (.bipush (-3), 2) := by decide +kernel
theorem dX7_addLimb_50 : decode cX7_addLimb 50 = .ok (.ireturn, 1) := by decide +kernel
theorem dX7_addLimb_51 : decode cX7_addLimb 51 = .ok (.aload_n 0, 1) := by decide +kernel
theorem dX7_addLimb_52 : decode cX7_addLimb 52 = .ok (.getfield 19, 3) := by decide +kernel
theorem dX7_addLimb_55 : decode cX7_addLimb 55 = .ok (.iload_n 1, 1) := by decide +kernel
theorem dX7_addLimb_56 : decode cX7_addLimb 56 = .ok (.iaload, 1) := by decide +kernel
theorem dX7_addLimb_57 : decode cX7_addLimb 57 = .ok (.bipush 8, 2) := by decide +kernel
theorem dX7_addLimb_59 : decode cX7_addLimb 59 = .ok (.if_icmp .ne 6, 3) := by decide +kernel
theorem dX7_addLimb_62 : decode cX7_addLimb 62 = .ok (.bipush (-4), 2) := by decide +kernel
theorem dX7_addLimb_64 : decode cX7_addLimb 64 = .ok (.ireturn, 1) := by decide +kernel
theorem dX7_addLimb_65 : decode cX7_addLimb 65 = .ok (.bipush 8, 2) := by decide +kernel
theorem dX7_addLimb_67 : decode cX7_addLimb 67 = .ok (.iload_n 1, 1) := by decide +kernel
theorem dX7_addLimb_68 : decode cX7_addLimb 68 = .ok (.imul, 1) := by decide +kernel
theorem dX7_addLimb_69 : decode cX7_addLimb 69 = .ok (.aload_n 0, 1) := by decide +kernel
theorem dX7_addLimb_70 : decode cX7_addLimb 70 = .ok (.getfield 19, 3) := by decide +kernel
theorem dX7_addLimb_73 : decode cX7_addLimb 73 = .ok (.iload_n 1, 1) := by decide +kernel
theorem dX7_addLimb_74 : decode cX7_addLimb 74 = .ok (.iaload, 1) := by decide +kernel
theorem dX7_addLimb_75 : decode cX7_addLimb 75 = .ok (.iadd, 1) := by decide +kernel
theorem dX7_addLimb_76 : decode cX7_addLimb 76 = .ok (.istore 5, 2) := by decide +kernel
theorem dX7_addLimb_78 : decode cX7_addLimb 78 = .ok (.aload_n 0, 1) := by decide +kernel
theorem dX7_addLimb_79 : decode cX7_addLimb 79 = .ok (.getfield 22, 3) := by decide +kernel
theorem dX7_addLimb_82 : decode cX7_addLimb 82 = .ok (.iload 5, 2) := by decide +kernel
theorem dX7_addLimb_84 : decode cX7_addLimb 84 = .ok (.iload_n 2, 1) := by decide +kernel
theorem dX7_addLimb_85 : decode cX7_addLimb 85 = .ok (.iastore, 1) := by decide +kernel
theorem dX7_addLimb_86 : decode cX7_addLimb 86 = .ok (.aload_n 0, 1) := by decide +kernel
theorem dX7_addLimb_87 : decode cX7_addLimb 87 = .ok (.getfield 25, 3) := by decide +kernel
theorem dX7_addLimb_90 : decode cX7_addLimb 90 = .ok (.iload 5, 2) := by decide +kernel
theorem dX7_addLimb_92 : decode cX7_addLimb 92 = .ok (.iload_n 3, 1) := by decide +kernel
theorem dX7_addLimb_93 : decode cX7_addLimb 93 = .ok (.iastore, 1) := by decide +kernel
theorem dX7_addLimb_94 : decode cX7_addLimb 94 = .ok (.aload_n 0, 1) := by decide +kernel
theorem dX7_addLimb_95 : decode cX7_addLimb 95 = .ok (.getfield 28, 3) := by decide +kernel
theorem dX7_addLimb_98 : decode cX7_addLimb 98 = .ok (.iload 5, 2) := by decide +kernel
theorem dX7_addLimb_100 : decode cX7_addLimb 100 = .ok (.iload 4, 2) := by decide +kernel
theorem dX7_addLimb_102 : decode cX7_addLimb 102 = .ok (.iastore, 1) := by decide +kernel
theorem dX7_addLimb_103 : decode cX7_addLimb 103 = .ok (.aload_n 0, 1) := by decide +kernel
theorem dX7_addLimb_104 : decode cX7_addLimb 104 = .ok (.getfield 19, 3) := by decide +kernel
theorem dX7_addLimb_107 : decode cX7_addLimb 107 = .ok (.iload_n 1, 1) := by decide +kernel
theorem dX7_addLimb_108 : decode cX7_addLimb 108 = .ok (.dup2, 1) := by decide +kernel
theorem dX7_addLimb_109 : decode cX7_addLimb 109 = .ok (.iaload, 1) := by decide +kernel
theorem dX7_addLimb_110 : decode cX7_addLimb 110 = .ok (.iconst 1, 1) := by decide +kernel
theorem dX7_addLimb_111 : decode cX7_addLimb 111 = .ok (.iadd, 1) := by decide +kernel
theorem dX7_addLimb_112 : decode cX7_addLimb 112 = .ok (.iastore, 1) := by decide +kernel
theorem dX7_addLimb_113 : decode cX7_addLimb 113 = .ok (.aload_n 0, 1) := by decide +kernel
theorem dX7_addLimb_114 : decode cX7_addLimb 114 = .ok (.getfield 19, 3) := by decide +kernel
theorem dX7_addLimb_117 : decode cX7_addLimb 117 = .ok (.iload_n 1, 1) := by decide +kernel
theorem dX7_addLimb_118 : decode cX7_addLimb 118 = .ok (.iaload, 1) := by decide +kernel
theorem dX7_addLimb_119 : decode cX7_addLimb 119 = .ok (.iconst 1, 1) := by decide +kernel
theorem dX7_addLimb_120 : decode cX7_addLimb 120 = .ok (.isub, 1) := by decide +kernel
theorem dX7_addLimb_121 : decode cX7_addLimb 121 = .ok (.ireturn, 1) := by decide +kernel
theorem dX7_count_0 : decode cX7_count 0 = .ok (.iconst 0, 1) := by decide +kernel
theorem dX7_count_1 : decode cX7_count 1 = .ok (.istore_n 2, 1) := by decide +kernel
theorem dX7_count_2 : decode cX7_count 2 = .ok (.iconst 0, 1) := by decide +kernel
theorem dX7_count_3 : decode cX7_count 3 = .ok (.istore_n 3, 1) := by decide +kernel
theorem dX7_count_4 : decode cX7_count 4 = .ok (.iload_n 3, 1) := by decide +kernel
theorem dX7_count_5 : decode cX7_count 5 = .ok (.aload_n 0, 1) := by decide +kernel
theorem dX7_count_6 : decode cX7_count 6 = .ok (.getfield 86, 3) := by decide +kernel
theorem dX7_count_9 : decode cX7_count 9 = .ok (.if_icmp .ge 18, 3) := by decide +kernel
theorem dX7_count_12 : decode cX7_count 12 = .ok (.iload_n 2, 1) := by decide +kernel
theorem dX7_count_13 : decode cX7_count 13 = .ok (.aload_n 0, 1) := by decide +kernel
theorem dX7_count_14 : decode cX7_count 14 = .ok (.getfield 19, 3) := by decide +kernel
theorem dX7_count_17 : decode cX7_count 17 = .ok (.iload_n 3, 1) := by decide +kernel
theorem dX7_count_18 : decode cX7_count 18 = .ok (.iaload, 1) := by decide +kernel
theorem dX7_count_19 : decode cX7_count 19 = .ok (.iadd, 1) := by decide +kernel
theorem dX7_count_20 : decode cX7_count 20 = .ok (.istore_n 2, 1) := by decide +kernel
theorem dX7_count_21 : decode cX7_count 21 = .ok (.iinc 3 1, 3) := by decide +kernel
theorem dX7_count_24 : decode cX7_count 24 = .ok (.goto (-20), 3) := by decide +kernel
theorem dX7_count_27 : decode cX7_count 27 = .ok (.iload_n 1, 1) := by decide +kernel
theorem dX7_count_28 : decode cX7_count 28 = .ok (.ifCond .ne 10, 3) := by decide +kernel
theorem dX7_count_31 : decode cX7_count 31 = .ok (.aload_n 0, 1) := by decide +kernel
theorem dX7_count_32 : decode cX7_count 32 = .ok (.getfield 86, 3) := by decide +kernel
theorem dX7_count_35 : decode cX7_count 35 = .ok (.goto 38, 3) := by decide +kernel
theorem dX7_count_38 : decode cX7_count 38 = .ok (.iload_n 1, 1) := by decide +kernel
theorem dX7_count_39 : decode cX7_count 39 = .ok (.iconst 1, 1) := by decide +kernel
theorem dX7_count_40 : decode cX7_count 40 = .ok (.if_icmp .ne 10, 3) := by decide +kernel
theorem dX7_count_43 : decode cX7_count 43 = .ok (.aload_n 0, 1) := by decide +kernel
theorem dX7_count_44 : decode cX7_count 44 = .ok (.getfield 101, 3) := by decide +kernel
theorem dX7_count_47 : decode cX7_count 47 = .ok (.goto 26, 3) := by decide +kernel
theorem dX7_count_50 : decode cX7_count 50 = .ok (.iload_n 1, 1) := by decide +kernel
theorem dX7_count_51 : decode cX7_count 51 = .ok (.iconst 2, 1) := by decide +kernel
theorem dX7_count_52 : decode cX7_count 52 = .ok (.if_icmp .ne 10, 3) := by decide +kernel
theorem dX7_count_55 : decode cX7_count 55 = .ok (.aload_n 0, 1) := by decide +kernel
theorem dX7_count_56 : decode cX7_count 56 = .ok (.getfield 104, 3) := by decide +kernel
theorem dX7_count_59 : decode cX7_count 59 = .ok (.goto 14, 3) := by decide +kernel
theorem dX7_count_62 : decode cX7_count 62 = .ok (.iload_n 1, 1) := by decide +kernel
theorem dX7_count_63 : decode cX7_count 63 = .ok (.iconst 3, 1) := by decide +kernel
theorem dX7_count_64 : decode cX7_count 64 = .ok (.if_icmp .ne 7, 3) := by decide +kernel
theorem dX7_count_67 : decode cX7_count 67 = .ok (.iload_n 2, 1) := by decide +kernel
theorem dX7_count_68 : decode cX7_count 68 = .ok (.goto 5, 3) := by decide +kernel
theorem dX7_count_71 : decode cX7_count 71 = .ok (.bipush (-3), 2) := by decide +kernel
theorem dX7_count_73 : decode cX7_count 73 = .ok (.ireturn, 1) := by decide +kernel
theorem dX7_addMove_0 : decode cX7_addMove 0 = .ok (.aload_n 0, 1) := by decide +kernel
theorem dX7_addMove_1 : decode cX7_addMove 1 = .ok (.getfield 101, 3) := by decide +kernel
theorem dX7_addMove_4 : decode cX7_addMove 4 = .ok (.bipush 60, 2) := by decide +kernel
theorem dX7_addMove_6 : decode cX7_addMove 6 = .ok (.if_icmp .ne 6, 3) := by decide +kernel
theorem dX7_addMove_9 : decode cX7_addMove 9 = .ok (.bipush (-4), 2) := by decide +kernel
theorem dX7_addMove_11 : decode cX7_addMove 11 = .ok (.ireturn, 1) := by decide +kernel
theorem dX7_addMove_12 : decode cX7_addMove 12 = .ok (.aload_n 0, 1) := by decide +kernel
theorem dX7_addMove_13 : decode cX7_addMove 13 = .ok (.getfield 31, 3) := by decide +kernel
theorem dX7_addMove_16 : decode cX7_addMove 16 = .ok (.aload_n 0, 1) := by decide +kernel
theorem dX7_addMove_17 : decode cX7_addMove 17 = .ok (.getfield 101, 3) := by decide +kernel
theorem dX7_addMove_20 : decode cX7_addMove 20 = .ok (.iload_n 1, 1) := by decide +kernel
theorem dX7_addMove_21 : decode cX7_addMove 21 = .ok (.iastore, 1) := by decide +kernel
theorem dX7_addMove_22 : decode cX7_addMove 22 = .ok (.aload_n 0, 1) := by decide +kernel
theorem dX7_addMove_23 : decode cX7_addMove 23 = .ok (.getfield 34, 3) := by decide +kernel
theorem dX7_addMove_26 : decode cX7_addMove 26 = .ok (.aload_n 0, 1) := by decide +kernel
theorem dX7_addMove_27 : decode cX7_addMove 27 = .ok (.getfield 101, 3) := by decide +kernel
theorem dX7_addMove_30 : decode cX7_addMove 30 = .ok (.iload_n 2, 1) := by decide +kernel
theorem dX7_addMove_31 : decode cX7_addMove 31 = .ok (.iastore, 1) := by decide +kernel
theorem dX7_addMove_32 : decode cX7_addMove 32 = .ok (.aload_n 0, 1) := by decide +kernel
theorem dX7_addMove_33 : decode cX7_addMove 33 = .ok (.getfield 37, 3) := by decide +kernel
theorem dX7_addMove_36 : decode cX7_addMove 36 = .ok (.aload_n 0, 1) := by decide +kernel
theorem dX7_addMove_37 : decode cX7_addMove 37 = .ok (.getfield 101, 3) := by decide +kernel
theorem dX7_addMove_40 : decode cX7_addMove 40 = .ok (.iload_n 3, 1) := by decide +kernel
theorem dX7_addMove_41 : decode cX7_addMove 41 = .ok (.iastore, 1) := by decide +kernel
theorem dX7_addMove_42 : decode cX7_addMove 42 = .ok (.aload_n 0, 1) := by decide +kernel
theorem dX7_addMove_43 : decode cX7_addMove 43 = .ok (.getfield 40, 3) := by decide +kernel
theorem dX7_addMove_46 : decode cX7_addMove 46 = .ok (.aload_n 0, 1) := by decide +kernel
theorem dX7_addMove_47 : decode cX7_addMove 47 = .ok (.getfield 101, 3) := by decide +kernel
theorem dX7_addMove_50 : decode cX7_addMove 50 = .ok (.iload 4, 2) := by decide +kernel
theorem dX7_addMove_52 : decode cX7_addMove 52 = .ok (.iastore, 1) := by decide +kernel
theorem dX7_addMove_53 : decode cX7_addMove 53 = .ok (.aload_n 0, 1) := by decide +kernel
theorem dX7_addMove_54 : decode cX7_addMove 54 = .ok (.getfield 43, 3) := by decide +kernel
theorem dX7_addMove_57 : decode cX7_addMove 57 = .ok (.aload_n 0, 1) := by decide +kernel
theorem dX7_addMove_58 : decode cX7_addMove 58 = .ok (.getfield 101, 3) := by decide +kernel
theorem dX7_addMove_61 : decode cX7_addMove 61 = .ok (.iload 5, 2) := by decide +kernel
theorem dX7_addMove_63 : decode cX7_addMove 63 = .ok (.iastore, 1) := by decide +kernel
theorem dX7_addMove_64 : decode cX7_addMove 64 = .ok (.aload_n 0, 1) := by decide +kernel
theorem dX7_addMove_65 : decode cX7_addMove 65 = .ok (.getfield 46, 3) := by decide +kernel
theorem dX7_addMove_68 : decode cX7_addMove 68 = .ok (.aload_n 0, 1) := by decide +kernel
theorem dX7_addMove_69 : decode cX7_addMove 69 = .ok (.getfield 101, 3) := by decide +kernel
theorem dX7_addMove_72 : decode cX7_addMove 72 = .ok (.iload 6, 2) := by decide +kernel
theorem dX7_addMove_74 : decode cX7_addMove 74 = .ok (.iastore, 1) := by decide +kernel
theorem dX7_addMove_75 : decode cX7_addMove 75 = .ok (.aload_n 0, 1) := by decide +kernel
theorem dX7_addMove_76 : decode cX7_addMove 76 = .ok (.dup, 1) := by decide +kernel
theorem dX7_addMove_77 : decode cX7_addMove 77 = .ok (.getfield 101, 3) := by decide +kernel
theorem dX7_addMove_80 : decode cX7_addMove 80 = .ok (.iconst 1, 1) := by decide +kernel
theorem dX7_addMove_81 : decode cX7_addMove 81 = .ok (.iadd, 1) := by decide +kernel
theorem dX7_addMove_82 : decode cX7_addMove 82 = .ok (.putfield 101, 3) := by decide +kernel
theorem dX7_addMove_85 : decode cX7_addMove 85 = .ok (.aload_n 0, 1) := by decide +kernel
theorem dX7_addMove_86 : decode cX7_addMove 86 = .ok (.getfield 101, 3) := by decide +kernel
theorem dX7_addMove_89 : decode cX7_addMove 89 = .ok (.iconst 1, 1) := by decide +kernel
theorem dX7_addMove_90 : decode cX7_addMove 90 = .ok (.isub, 1) := by decide +kernel
theorem dX7_addMove_91 : decode cX7_addMove 91 = .ok (.ireturn, 1) := by decide +kernel
theorem dX7_addTurn_0 : decode cX7_addTurn 0 = .ok (.aload_n 0, 1) := by decide +kernel
theorem dX7_addTurn_1 : decode cX7_addTurn 1 = .ok (.iload_n 2, 1) := by decide +kernel
theorem dX7_addTurn_2 : decode cX7_addTurn 2 = .ok (.invokevirtual 93, 3) := by decide +kernel
theorem dX7_addTurn_5 : decode cX7_addTurn 5 = .ok (.ifCond .eq 5, 3) := by decide +kernel
theorem dX7_addTurn_8 : decode cX7_addTurn 8 = .ok (.iconst (-1), 1) := by decide +kernel
theorem dX7_addTurn_9 : decode cX7_addTurn 9 = .ok (.ireturn, 1) := by decide +kernel
theorem dX7_addTurn_10 : decode cX7_addTurn 10 = .ok (.aload_n 0, 1) := by decide +kernel
theorem dX7_addTurn_11 : decode cX7_addTurn 11 = .ok (.iload_n 2, 1) := by decide +kernel
theorem dX7_addTurn_12 : decode cX7_addTurn 12 = .ok (.iload_n 3, 1) := by decide +kernel
theorem dX7_addTurn_13 : decode cX7_addTurn 13 = .ok (.invokevirtual 97, 3) := by decide +kernel
theorem dX7_addTurn_16 : decode cX7_addTurn 16 = .ok (.ifCond .eq 6, 3) := by decide +kernel
theorem dX7_addTurn_19 : decode cX7_addTurn 19 = .ok (.bipush (-2), 2) := by decide +kernel
theorem dX7_addTurn_21 : decode cX7_addTurn 21 = .ok (.ireturn, 1) := by decide +kernel
theorem dX7_addTurn_22 : decode cX7_addTurn 22 = .ok (.iload_n 1, 1) := by decide +kernel
theorem dX7_addTurn_23 : decode cX7_addTurn 23 = .ok (.invokestatic 107, 3) := by decide +kernel
theorem dX7_addTurn_26 : decode cX7_addTurn 26 = .ok (.ifCond .eq 20, 3) := by decide +kernel
theorem dX7_addTurn_29 : decode cX7_addTurn 29 = .ok (.iload 4, 2) := by decide +kernel
theorem dX7_addTurn_31 : decode cX7_addTurn 31 = .ok (.bipush (-7), 2) := by decide +kernel
theorem dX7_addTurn_33 : decode cX7_addTurn 33 = .ok (.bipush 7, 2) := by decide +kernel
theorem dX7_addTurn_35 : decode cX7_addTurn 35 = .ok (.invokestatic 89, 3) := by decide +kernel
theorem dX7_addTurn_38 : decode cX7_addTurn 38 = .ok (.ifCond .eq 8, 3) := by decide +kernel
theorem dX7_addTurn_41 : decode cX7_addTurn 41 = .ok (.iload 4, 2) := by decide +kernel
theorem dX7_addTurn_43 : decode cX7_addTurn 43 = .ok (.ifCond .ne 6, 3) := by decide +kernel
theorem dX7_addTurn_46 : decode cX7_addTurn 46 = .ok (.bipush (-3), 2) := by decide +kernel
theorem dX7_addTurn_48 : decode cX7_addTurn 48 = .ok (.ireturn, 1) := by decide +kernel
theorem dX7_addTurn_49 : decode cX7_addTurn 49 = .ok (.aload_n 0, 1) := by decide +kernel
theorem dX7_addTurn_50 : decode cX7_addTurn 50 = .ok (.iload_n 1, 1) := by decide +kernel
theorem dX7_addTurn_51 : decode cX7_addTurn 51 = .ok (.iload_n 2, 1) := by decide +kernel
theorem dX7_addTurn_52 : decode cX7_addTurn 52 = .ok (.iload_n 3, 1) := by decide +kernel
theorem dX7_addTurn_53 : decode cX7_addTurn 53 = .ok (.iload 4, 2) := by decide +kernel
theorem dX7_addTurn_55 : decode cX7_addTurn 55 = .ok (.iconst 0, 1) := by decide +kernel
theorem dX7_addTurn_56 : decode cX7_addTurn 56 = .ok (.iconst 0, 1) := by decide +kernel
theorem dX7_addTurn_57 : decode cX7_addTurn 57 = .ok (.invokevirtual 110, 3) := by decide +kernel
theorem dX7_addTurn_60 : decode cX7_addTurn 60 = .ok (.ireturn, 1) := by decide +kernel
theorem dX7_addShift_0 : decode cX7_addShift 0 = .ok (.aload_n 0, 1) := by decide +kernel
theorem dX7_addShift_1 : decode cX7_addShift 1 = .ok (.iload_n 2, 1) := by decide +kernel
theorem dX7_addShift_2 : decode cX7_addShift 2 = .ok (.invokevirtual 93, 3) := by decide +kernel
theorem dX7_addShift_5 : decode cX7_addShift 5 = .ok (.ifCond .eq 5, 3) := by decide +kernel
theorem dX7_addShift_8 : decode cX7_addShift 8 = .ok (.iconst (-1), 1) := by decide +kernel
theorem dX7_addShift_9 : decode cX7_addShift 9 = .ok (.ireturn, 1) := by decide +kernel
theorem dX7_addShift_10 : decode cX7_addShift 10 = .ok (.iload_n 1, 1) := by decide +kernel
theorem dX7_addShift_11 : decode cX7_addShift 11 = .ok (.invokestatic 107, 3) := by decide +kernel
theorem dX7_addShift_14 : decode cX7_addShift 14 = .ok (.ifCond .eq 38, 3) := by decide +kernel
theorem dX7_addShift_17 : decode cX7_addShift 17 = .ok (.iload_n 3, 1) := by decide +kernel
theorem dX7_addShift_18 : decode cX7_addShift 18 = .ok (.bipush (-50), 2) := by decide +kernel
theorem dX7_addShift_20 : decode cX7_addShift 20 = .ok (.bipush 50, 2) := by decide +kernel
theorem dX7_addShift_22 : decode cX7_addShift 22 = .ok (.invokestatic 89, 3) := by decide +kernel
theorem dX7_addShift_25 : decode cX7_addShift 25 = .ok (.ifCond .eq 27, 3) := by decide +kernel
theorem dX7_addShift_28 : decode cX7_addShift 28 = .ok (.iload 4, 2) := by decide +kernel
theorem dX7_addShift_30 : decode cX7_addShift 30 = .ok (.bipush (-50), 2) := by decide +kernel
theorem dX7_addShift_32 : decode cX7_addShift 32 = .ok (.bipush 50, 2) := by decide +kernel
theorem dX7_addShift_34 : decode cX7_addShift 34 = .ok (.invokestatic 89, 3) := by decide +kernel
theorem dX7_addShift_37 : decode cX7_addShift 37 = .ok (.ifCond .eq 15, 3) := by decide +kernel
theorem dX7_addShift_40 : decode cX7_addShift 40 = .ok (.iload 5, 2) := by decide +kernel
theorem dX7_addShift_42 : decode cX7_addShift 42 = .ok (.bipush (-100), 2) := by decide +kernel
theorem dX7_addShift_44 : decode cX7_addShift 44 = .ok (.bipush 100, 2) := by decide +kernel
theorem dX7_addShift_46 : decode cX7_addShift 46 = .ok (.invokestatic 89, 3) := by decide +kernel
theorem dX7_addShift_49 : decode cX7_addShift 49 = .ok (.ifCond .ne 6, 3) := by decide +kernel
theorem dX7_addShift_52 : decode cX7_addShift 52 = .ok (.bipush (-3), 2) := by decide +kernel
theorem dX7_addShift_54 : decode cX7_addShift 54 = .ok (.ireturn, 1) := by decide +kernel
theorem dX7_addShift_55 : decode cX7_addShift 55 = .ok (.aload_n 0, 1) := by decide +kernel
theorem dX7_addShift_56 : decode cX7_addShift 56 = .ok (.iload_n 1, 1) := by decide +kernel
theorem dX7_addShift_57 : decode cX7_addShift 57 = .ok (.iload_n 2, 1) := by decide +kernel
theorem dX7_addShift_58 : decode cX7_addShift 58 = .ok (.iconst (-1), 1) := by decide +kernel
theorem dX7_addShift_59 : decode cX7_addShift 59 = .ok (.iload_n 3, 1) := by decide +kernel
theorem dX7_addShift_60 : decode cX7_addShift 60 = .ok (.iload 4, 2) := by decide +kernel
theorem dX7_addShift_62 : decode cX7_addShift 62 = .ok (.iload 5, 2) := by decide +kernel
theorem dX7_addShift_64 : decode cX7_addShift 64 = .ok (.invokevirtual 110, 3) := by decide +kernel
theorem dX7_addShift_67 : decode cX7_addShift 67 = .ok (.ireturn, 1) := by decide +kernel
theorem dX7_removeMoves_0 : decode cX7_removeMoves 0 = .ok (.iload_n 1, 1) := by decide +kernel
theorem dX7_removeMoves_1 : decode cX7_removeMoves 1 = .ok (.iconst 0, 1) := by decide +kernel
theorem dX7_removeMoves_2 : decode cX7_removeMoves 2 = .ok (.aload_n 0, 1) := by decide +kernel
theorem dX7_removeMoves_3 : decode cX7_removeMoves 3 = .ok (.getfield 101, 3) := by decide +kernel
theorem dX7_removeMoves_6 : decode cX7_removeMoves 6 = .ok (.invokestatic 89, 3) := by decide +kernel
theorem dX7_removeMoves_9 : decode cX7_removeMoves 9 = .ok (.ifCond .ne 6, 3) := by decide +kernel
theorem dX7_removeMoves_12 : decode cX7_removeMoves 12 = .ok (.bipush (-3), 2) := by decide +kernel
theorem dX7_removeMoves_14 : decode cX7_removeMoves 14 = .ok (.ireturn, 1) := by decide +kernel
theorem dX7_removeMoves_15 : decode cX7_removeMoves 15 = .ok (.aload_n 0, 1) := by decide +kernel
theorem dX7_removeMoves_16 : decode cX7_removeMoves 16 = .ok (.dup, 1) := by decide +kernel
theorem dX7_removeMoves_17 : decode cX7_removeMoves 17 = .ok (.getfield 101, 3) := by decide +kernel
theorem dX7_removeMoves_20 : decode cX7_removeMoves 20 = .ok (.iload_n 1, 1) := by decide +kernel
theorem dX7_removeMoves_21 : decode cX7_removeMoves 21 = .ok (.isub, 1) := by decide +kernel
theorem dX7_removeMoves_22 : decode cX7_removeMoves 22 = .ok (.putfield 101, 3) := by decide +kernel
theorem dX7_removeMoves_25 : decode cX7_removeMoves 25 = .ok (.aload_n 0, 1) := by decide +kernel
theorem dX7_removeMoves_26 : decode cX7_removeMoves 26 = .ok (.getfield 101, 3) := by decide +kernel
theorem dX7_removeMoves_29 : decode cX7_removeMoves 29 = .ok (.ireturn, 1) := by decide +kernel
theorem dX7_inStage_0 : decode cX7_inStage 0 = .ok (.iload_n 1, 1) := by decide +kernel
theorem dX7_inStage_1 : decode cX7_inStage 1 = .ok (.iconst 1, 1) := by decide +kernel
theorem dX7_inStage_2 : decode cX7_inStage 2 = .ok (.if_icmp .ge 7, 3) := by decide +kernel
theorem dX7_inStage_5 : decode cX7_inStage 5 = .ok (.iconst 1, 1) := by decide +kernel
theorem dX7_inStage_6 : decode cX7_inStage 6 = .ok (.goto 19, 3) := by decide +kernel
theorem dX7_inStage_9 : decode cX7_inStage 9 = .ok (.iload_n 1, 1) := by decide +kernel
theorem dX7_inStage_10 : decode cX7_inStage 10 = .ok (.aload_n 0, 1) := by decide +kernel
theorem dX7_inStage_11 : decode cX7_inStage 11 = .ok (.getfield 80, 3) := by decide +kernel
theorem dX7_inStage_14 : decode cX7_inStage 14 = .ok (.if_icmp .le 10, 3) := by decide +kernel
theorem dX7_inStage_17 : decode cX7_inStage 17 = .ok (.aload_n 0, 1) := by decide +kernel
theorem dX7_inStage_18 : decode cX7_inStage 18 = .ok (.getfield 80, 3) := by decide +kernel
theorem dX7_inStage_21 : decode cX7_inStage 21 = .ok (.goto 4, 3) := by decide +kernel
theorem dX7_inStage_24 : decode cX7_inStage 24 = .ok (.iload_n 1, 1) := by decide +kernel
theorem dX7_inStage_25 : decode cX7_inStage 25 = .ok (.ireturn, 1) := by decide +kernel
theorem dX7_doMove_0 : decode cX7_doMove 0 = .ok (.aload_n 0, 1) := by decide +kernel
theorem dX7_doMove_1 : decode cX7_doMove 1 = .ok (.getfield 34, 3) := by decide +kernel
theorem dX7_doMove_4 : decode cX7_doMove 4 = .ok (.iload_n 1, 1) := by decide +kernel
theorem dX7_doMove_5 : decode cX7_doMove 5 = .ok (.iaload, 1) := by decide +kernel
theorem dX7_doMove_6 : decode cX7_doMove 6 = .ok (.istore_n 2, 1) := by decide +kernel
theorem dX7_doMove_7 : decode cX7_doMove 7 = .ok (.aload_n 0, 1) := by decide +kernel
theorem dX7_doMove_8 : decode cX7_doMove 8 = .ok (.getfield 37, 3) := by decide +kernel
theorem dX7_doMove_11 : decode cX7_doMove 11 = .ok (.iload_n 1, 1) := by decide +kernel
theorem dX7_doMove_12 : decode cX7_doMove 12 = .ok (.iaload, 1) := by decide +kernel
theorem dX7_doMove_13 : decode cX7_doMove 13 = .ok (.ifCond .lt 41, 3) := by decide +kernel
theorem dX7_doMove_16 : decode cX7_doMove 16 = .ok (.bipush 8, 2) := by decide +kernel
theorem dX7_doMove_18 : decode cX7_doMove 18 = .ok (.iload_n 2, 1) := by decide +kernel
theorem dX7_doMove_19 : decode cX7_doMove 19 = .ok (.imul, 1) := by decide +kernel
theorem dX7_doMove_20 : decode cX7_doMove 20 = .ok (.aload_n 0, 1) := by decide +kernel
theorem dX7_doMove_21 : decode cX7_doMove 21 = .ok (.getfield 37, 3) := by decide +kernel
theorem dX7_doMove_24 : decode cX7_doMove 24 = .ok (.iload_n 1, 1) := by decide +kernel
theorem dX7_doMove_25 : decode cX7_doMove 25 = .ok (.iaload, 1) := by decide +kernel
theorem dX7_doMove_26 : decode cX7_doMove 26 = .ok (.iadd, 1) := by decide +kernel
theorem dX7_doMove_27 : decode cX7_doMove 27 = .ok (.istore_n 3, 1) := by decide +kernel
theorem dX7_doMove_28 : decode cX7_doMove 28 = .ok (.aload_n 0, 1) := by decide +kernel
theorem dX7_doMove_29 : decode cX7_doMove 29 = .ok (.getfield 52, 3) := by decide +kernel
theorem dX7_doMove_32 : decode cX7_doMove 32 = .ok (.iload_n 3, 1) := by decide +kernel
theorem dX7_doMove_33 : decode cX7_doMove 33 = .ok (.aload_n 0, 1) := by decide +kernel
theorem dX7_doMove_34 : decode cX7_doMove 34 = .ok (.getfield 52, 3) := by decide +kernel
theorem dX7_doMove_37 : decode cX7_doMove 37 = .ok (.iload_n 3, 1) := by decide +kernel
theorem dX7_doMove_38 : decode cX7_doMove 38 = .ok (.iaload, 1) := by decide +kernel
theorem dX7_doMove_39 : decode cX7_doMove 39 = .ok (.aload_n 0, 1) := by decide +kernel
theorem dX7_doMove_40 : decode cX7_doMove 40 = .ok (.getfield 40, 3) := by decide +kernel
theorem dX7_doMove_43 : decode cX7_doMove 43 = .ok (.iload_n 1, 1) := by decide +kernel
theorem dX7_doMove_44 : decode cX7_doMove 44 = .ok (.iaload, 1) := by decide +kernel
theorem dX7_doMove_45 : decode cX7_doMove 45 = .ok (.iadd, 1) := by decide +kernel
theorem dX7_doMove_46 : decode cX7_doMove 46 = .ok (.bipush 8, 2) := by decide +kernel
theorem dX7_doMove_48 : decode cX7_doMove 48 = .ok (.iadd, 1) := by decide +kernel
theorem dX7_doMove_49 : decode cX7_doMove 49 = .ok (.bipush 8, 2) := by decide +kernel
theorem dX7_doMove_51 : decode cX7_doMove 51 = .ok (.irem, 1) := by decide +kernel
theorem dX7_doMove_52 : decode cX7_doMove 52 = .ok (.iastore, 1) := by decide +kernel
theorem dX7_doMove_53 : decode cX7_doMove 53 = .ok (.return_, 1) := by decide +kernel
theorem dX7_doMove_54 : decode cX7_doMove 54 = .ok (.aload_n 0, 1) := by decide +kernel
theorem dX7_doMove_55 : decode cX7_doMove 55 = .ok (.getfield 55, 3) := by decide +kernel
theorem dX7_doMove_58 : decode cX7_doMove 58 = .ok (.bipush 9, 2) := by decide +kernel
theorem dX7_doMove_60 : decode cX7_doMove 60 = .ok (.iload_n 2, 1) := by decide +kernel
theorem dX7_doMove_61 : decode cX7_doMove 61 = .ok (.imul, 1) := by decide +kernel
theorem dX7_doMove_62 : decode cX7_doMove 62 = .ok (.dup2, 1) := by decide +kernel
theorem dX7_doMove_63 : decode cX7_doMove 63 = .ok (.laload, 1) := by decide +kernel
theorem dX7_doMove_64 : decode cX7_doMove 64 = .ok (.aload_n 0, 1) := by decide +kernel
theorem dX7_doMove_65 : decode cX7_doMove 65 = .ok (.getfield 40, 3) := by decide +kernel
theorem dX7_doMove_68 : decode cX7_doMove 68 = .ok (.iload_n 1, 1) := by decide +kernel
theorem dX7_doMove_69 : decode cX7_doMove 69 = .ok (.iaload, 1) := by decide +kernel
theorem dX7_doMove_70 : decode cX7_doMove 70 = .ok (.i2l, 1) := by decide +kernel
theorem dX7_doMove_71 : decode cX7_doMove 71 = .ok (.ladd, 1) := by decide +kernel
theorem dX7_doMove_72 : decode cX7_doMove 72 = .ok (.lastore, 1) := by decide +kernel
theorem dX7_doMove_73 : decode cX7_doMove 73 = .ok (.aload_n 0, 1) := by decide +kernel
theorem dX7_doMove_74 : decode cX7_doMove 74 = .ok (.getfield 59, 3) := by decide +kernel
theorem dX7_doMove_77 : decode cX7_doMove 77 = .ok (.bipush 9, 2) := by decide +kernel
theorem dX7_doMove_79 : decode cX7_doMove 79 = .ok (.iload_n 2, 1) := by decide +kernel
theorem dX7_doMove_80 : decode cX7_doMove 80 = .ok (.imul, 1) := by decide +kernel
theorem dX7_doMove_81 : decode cX7_doMove 81 = .ok (.dup2, 1) := by decide +kernel
theorem dX7_doMove_82 : decode cX7_doMove 82 = .ok (.laload, 1) := by decide +kernel
theorem dX7_doMove_83 : decode cX7_doMove 83 = .ok (.aload_n 0, 1) := by decide +kernel
theorem dX7_doMove_84 : decode cX7_doMove 84 = .ok (.getfield 43, 3) := by decide +kernel
theorem dX7_doMove_87 : decode cX7_doMove 87 = .ok (.iload_n 1, 1) := by decide +kernel
theorem dX7_doMove_88 : decode cX7_doMove 88 = .ok (.iaload, 1) := by decide +kernel
theorem dX7_doMove_89 : decode cX7_doMove 89 = .ok (.i2l, 1) := by decide +kernel
theorem dX7_doMove_90 : decode cX7_doMove 90 = .ok (.ladd, 1) := by decide +kernel
theorem dX7_doMove_91 : decode cX7_doMove 91 = .ok (.lastore, 1) := by decide +kernel
theorem dX7_doMove_92 : decode cX7_doMove 92 = .ok (.aload_n 0, 1) := by decide +kernel
theorem dX7_doMove_93 : decode cX7_doMove 93 = .ok (.getfield 49, 3) := by decide +kernel
theorem dX7_doMove_96 : decode cX7_doMove 96 = .ok (.iload_n 2, 1) := by decide +kernel
theorem dX7_doMove_97 : decode cX7_doMove 97 = .ok (.aload_n 0, 1) := by decide +kernel
theorem dX7_doMove_98 : decode cX7_doMove 98 = .ok (.aload_n 0, 1) := by decide +kernel
theorem dX7_doMove_99 : decode cX7_doMove 99 = .ok (.getfield 49, 3) := by decide +kernel
theorem dX7_doMove_102 : decode cX7_doMove 102 = .ok (.iload_n 2, 1) := by decide +kernel
theorem dX7_doMove_103 : decode cX7_doMove 103 = .ok (.iaload, 1) := by decide +kernel
theorem dX7_doMove_104 : decode cX7_doMove 104 = .ok (.aload_n 0, 1) := by decide +kernel
theorem dX7_doMove_105 : decode cX7_doMove 105 = .ok (.getfield 46, 3) := by decide +kernel
theorem dX7_doMove_108 : decode cX7_doMove 108 = .ok (.iload_n 1, 1) := by decide +kernel
theorem dX7_doMove_109 : decode cX7_doMove 109 = .ok (.iaload, 1) := by decide +kernel
theorem dX7_doMove_110 : decode cX7_doMove 110 = .ok (.iadd, 1) := by decide +kernel
theorem dX7_doMove_111 : decode cX7_doMove 111 = .ok (.invokevirtual 114, 3) := by decide +kernel
theorem dX7_doMove_114 : decode cX7_doMove 114 = .ok (.iastore, 1) := by decide +kernel
theorem dX7_doMove_115 : decode cX7_doMove 115 = .ok (.return_, 1) := by decide +kernel
theorem dX7_stepX_0 : decode cX7_stepX 0 = .ok (.iload_n 0, 1) := by decide +kernel
theorem dX7_stepX_1 : decode cX7_stepX 1 = .ok (.iconst 2, 1) := by decide +kernel
theorem dX7_stepX_2 : decode cX7_stepX 2 = .ok (.if_icmp .eq 9, 3) := by decide +kernel
theorem dX7_stepX_5 : decode cX7_stepX 5 = .ok (.iload_n 0, 1) := by decide +kernel
theorem dX7_stepX_6 : decode cX7_stepX 6 = .ok (.bipush 6, 2) := by decide +kernel
theorem dX7_stepX_8 : decode cX7_stepX 8 = .ok (.if_icmp .ne 7, 3) := by decide +kernel
theorem dX7_stepX_11 : decode cX7_stepX 11 = .ok (.iconst 0, 1) := by decide +kernel
theorem dX7_stepX_12 : decode cX7_stepX 12 = .ok (.goto 19, 3) := by decide +kernel
theorem dX7_stepX_15 : decode cX7_stepX 15 = .ok (.iload_n 0, 1) := by decide +kernel
theorem dX7_stepX_16 : decode cX7_stepX 16 = .ok (.iconst 2, 1) := by decide +kernel
theorem dX7_stepX_17 : decode cX7_stepX 17 = .ok (.if_icmp .lt 9, 3) := by decide +kernel
theorem dX7_stepX_20 : decode cX7_stepX 20 = .ok (.iload_n 0, 1) := by decide +kernel
theorem dX7_stepX_21 : decode cX7_stepX 21 = .ok (.bipush 7, 2) := by decide +kernel
theorem dX7_stepX_23 : decode cX7_stepX 23 = .ok (.if_icmp .ne 7, 3) := by decide +kernel
theorem dX7_stepX_26 : decode cX7_stepX 26 = .ok (.iconst 1, 1) := by decide +kernel
theorem dX7_stepX_27 : decode cX7_stepX 27 = .ok (.goto 4, 3) := by decide +kernel
theorem dX7_stepX_30 : decode cX7_stepX 30 = .ok (.iconst (-1), 1) := by decide +kernel
theorem dX7_stepX_31 : decode cX7_stepX 31 = .ok (.ireturn, 1) := by decide +kernel
theorem dX7_stepY_0 : decode cX7_stepY 0 = .ok (.iload_n 0, 1) := by decide +kernel
theorem dX7_stepY_1 : decode cX7_stepY 1 = .ok (.iconst 4, 1) := by decide +kernel
theorem dX7_stepY_2 : decode cX7_stepY 2 = .ok (.irem, 1) := by decide +kernel
theorem dX7_stepY_3 : decode cX7_stepY 3 = .ok (.ifCond .ne 7, 3) := by decide +kernel
theorem dX7_stepY_6 : decode cX7_stepY 6 = .ok (.iconst 0, 1) := by decide +kernel
theorem dX7_stepY_7 : decode cX7_stepY 7 = .ok (.goto 13, 3) := by decide +kernel
theorem dX7_stepY_10 : decode cX7_stepY 10 = .ok (.iload_n 0, 1) := by decide +kernel
theorem dX7_stepY_11 : decode cX7_stepY 11 = .ok (.iconst 4, 1) := by decide +kernel
theorem dX7_stepY_12 : decode cX7_stepY 12 = .ok (.if_icmp .ge 7, 3) := by decide +kernel
theorem dX7_stepY_15 : decode cX7_stepY 15 = .ok (.iconst 1, 1) := by decide +kernel
theorem dX7_stepY_16 : decode cX7_stepY 16 = .ok (.goto 4, 3) := by decide +kernel
theorem dX7_stepY_19 : decode cX7_stepY 19 = .ok (.iconst (-1), 1) := by decide +kernel
theorem dX7_stepY_20 : decode cX7_stepY 20 = .ok (.ireturn, 1) := by decide +kernel
theorem dX7_layPoints_0 : decode cX7_layPoints 0 = .ok (.aload_n 0, 1) := by decide +kernel
theorem dX7_layPoints_1 : decode cX7_layPoints 1 = .ok (.getfield 62, 3) := by decide +kernel
theorem dX7_layPoints_4 : decode cX7_layPoints 4 = .ok (.bipush 9, 2) := by decide +kernel
theorem dX7_layPoints_6 : decode cX7_layPoints 6 = .ok (.iload_n 1, 1) := by decide +kernel
theorem dX7_layPoints_7 : decode cX7_layPoints 7 = .ok (.imul, 1) := by decide +kernel
theorem dX7_layPoints_8 : decode cX7_layPoints 8 = .ok (.iconst 0, 1) := by decide +kernel
theorem dX7_layPoints_9 : decode cX7_layPoints 9 = .ok (.iastore, 1) := by decide +kernel
theorem dX7_layPoints_10 : decode cX7_layPoints 10 = .ok (.iconst 0, 1) := by decide +kernel
theorem dX7_layPoints_11 : decode cX7_layPoints 11 = .ok (.istore_n 2, 1) := by decide +kernel
theorem dX7_layPoints_12 : decode cX7_layPoints 12 = .ok (.iload_n 2, 1) := by decide +kernel
theorem dX7_layPoints_13 : decode cX7_layPoints 13 = .ok (.aload_n 0, 1) := by decide +kernel
theorem dX7_layPoints_14 : decode cX7_layPoints 14 = .ok (.getfield 19, 3) := by decide +kernel
theorem dX7_layPoints_17 : decode cX7_layPoints 17 = .ok (.iload_n 1, 1) := by decide +kernel
theorem dX7_layPoints_18 : decode cX7_layPoints 18 = .ok (.iaload, 1) := by decide +kernel
theorem dX7_layPoints_19 : decode cX7_layPoints 19 = .ok (.if_icmp .ge 131, 3) := by decide +kernel
theorem dX7_layPoints_22 : decode cX7_layPoints 22 = .ok (.bipush 8, 2) := by decide +kernel
theorem dX7_layPoints_24 : decode cX7_layPoints 24 = .ok (.iload_n 1, 1) := by decide +kernel
theorem dX7_layPoints_25 : decode cX7_layPoints 25 = .ok (.imul, 1) := by decide +kernel
theorem dX7_layPoints_26 : decode cX7_layPoints 26 = .ok (.iload_n 2, 1) := by decide +kernel
theorem dX7_layPoints_27 : decode cX7_layPoints 27 = .ok (.iadd, 1) := by decide +kernel
theorem dX7_layPoints_28 : decode cX7_layPoints 28 = .ok (.istore_n 3, 1) := by decide +kernel
theorem dX7_layPoints_29 : decode cX7_layPoints 29 = .ok (.bipush 9, 2) := by decide +kernel
theorem dX7_layPoints_31 : decode cX7_layPoints 31 = .ok (.iload_n 1, 1) := by decide +kernel
theorem dX7_layPoints_32 : decode cX7_layPoints 32 = .ok (.imul, 1) := by decide +kernel
theorem dX7_layPoints_33 : decode cX7_layPoints 33 = .ok (.aload_n 0, 1) := by decide +kernel
theorem dX7_layPoints_34 : decode cX7_layPoints 34 = .ok (.getfield 22, 3) := by decide +kernel
theorem dX7_layPoints_37 : decode cX7_layPoints 37 = .ok (.iload_n 3, 1) := by decide +kernel
theorem dX7_layPoints_38 : decode cX7_layPoints 38 = .ok (.iaload, 1) := by decide +kernel
theorem dX7_layPoints_39 : decode cX7_layPoints 39 = .ok (.iadd, 1) := by decide +kernel
theorem dX7_layPoints_40 : decode cX7_layPoints 40 = .ok (.iconst 1, 1) := by decide +kernel
theorem dX7_layPoints_41 : decode cX7_layPoints 41 = .ok (.iadd, 1) := by decide +kernel
theorem dX7_layPoints_42 : decode cX7_layPoints 42 = .ok (.istore 4, 2) := by decide +kernel
theorem dX7_layPoints_44 : decode cX7_layPoints 44 = .ok (.bipush 9, 2) := by decide +kernel
theorem dX7_layPoints_46 : decode cX7_layPoints 46 = .ok (.iload_n 1, 1) := by decide +kernel
theorem dX7_layPoints_47 : decode cX7_layPoints 47 = .ok (.imul, 1) := by decide +kernel
theorem dX7_layPoints_48 : decode cX7_layPoints 48 = .ok (.iload_n 2, 1) := by decide +kernel
theorem dX7_layPoints_49 : decode cX7_layPoints 49 = .ok (.iadd, 1) := by decide +kernel
theorem dX7_layPoints_50 : decode cX7_layPoints 50 = .ok (.iconst 1, 1) := by decide +kernel
theorem dX7_layPoints_51 : decode cX7_layPoints 51 = .ok (.iadd, 1) := by decide +kernel
theorem dX7_layPoints_52 : decode cX7_layPoints 52 = .ok (.istore 5, 2) := by decide +kernel
theorem dX7_layPoints_54 : decode cX7_layPoints 54 = .ok (.aload_n 0, 1) := by decide +kernel
theorem dX7_layPoints_55 : decode cX7_layPoints 55 = .ok (.getfield 62, 3) := by decide +kernel
theorem dX7_layPoints_58 : decode cX7_layPoints 58 = .ok (.iload 5, 2) := by decide +kernel
theorem dX7_layPoints_60 : decode cX7_layPoints 60 = .ok (.aload_n 0, 1) := by decide +kernel
theorem dX7_layPoints_61 : decode cX7_layPoints 61 = .ok (.getfield 62, 3) := by decide +kernel
theorem dX7_layPoints_64 : decode cX7_layPoints 64 = .ok (.iload 4, 2) := by decide +kernel
theorem dX7_layPoints_66 : decode cX7_layPoints 66 = .ok (.iaload, 1) := by decide +kernel
theorem dX7_layPoints_67 : decode cX7_layPoints 67 = .ok (.aload_n 0, 1) := by decide +kernel
theorem dX7_layPoints_68 : decode cX7_layPoints 68 = .ok (.getfield 52, 3) := by decide +kernel
theorem dX7_layPoints_71 : decode cX7_layPoints 71 = .ok (.iload_n 3, 1) := by decide +kernel
theorem dX7_layPoints_72 : decode cX7_layPoints 72 = .ok (.iaload, 1) := by decide +kernel
theorem dX7_layPoints_73 : decode cX7_layPoints 73 = .ok (.iadd, 1) := by decide +kernel
theorem dX7_layPoints_74 : decode cX7_layPoints 74 = .ok (.bipush 8, 2) := by decide +kernel
theorem dX7_layPoints_76 : decode cX7_layPoints 76 = .ok (.irem, 1) := by decide +kernel
theorem dX7_layPoints_77 : decode cX7_layPoints 77 = .ok (.iastore, 1) := by decide +kernel
theorem dX7_layPoints_78 : decode cX7_layPoints 78 = .ok (.aload_n 0, 1) := by decide +kernel
theorem dX7_layPoints_79 : decode cX7_layPoints 79 = .ok (.getfield 55, 3) := by decide +kernel
theorem dX7_layPoints_82 : decode cX7_layPoints 82 = .ok (.iload 5, 2) := by decide +kernel
theorem dX7_layPoints_84 : decode cX7_layPoints 84 = .ok (.aload_n 0, 1) := by decide +kernel
theorem dX7_layPoints_85 : decode cX7_layPoints 85 = .ok (.getfield 55, 3) := by decide +kernel
theorem dX7_layPoints_88 : decode cX7_layPoints 88 = .ok (.iload 4, 2) := by decide +kernel
theorem dX7_layPoints_90 : decode cX7_layPoints 90 = .ok (.laload, 1) := by decide +kernel
theorem dX7_layPoints_91 : decode cX7_layPoints 91 = .ok (.aload_n 0, 1) := by decide +kernel
theorem dX7_layPoints_92 : decode cX7_layPoints 92 = .ok (.getfield 25, 3) := by decide +kernel
theorem dX7_layPoints_95 : decode cX7_layPoints 95 = .ok (.iload_n 3, 1) := by decide +kernel
theorem dX7_layPoints_96 : decode cX7_layPoints 96 = .ok (.iaload, 1) := by decide +kernel
theorem dX7_layPoints_97 : decode cX7_layPoints 97 = .ok (.aload_n 0, 1) := by decide +kernel
theorem dX7_layPoints_98 : decode cX7_layPoints 98 = .ok (.getfield 62, 3) := by decide +kernel
theorem dX7_layPoints_101 : decode cX7_layPoints 101 = .ok (.iload 5, 2) := by decide +kernel
theorem dX7_layPoints_103 : decode cX7_layPoints 103 = .ok (.iaload, 1) := by decide +kernel
theorem dX7_layPoints_104 : decode cX7_layPoints 104 = .ok (.invokestatic 118, 3) := by decide +kernel
theorem dX7_layPoints_107 : decode cX7_layPoints 107 = .ok (.imul, 1) := by decide +kernel
theorem dX7_layPoints_108 : decode cX7_layPoints 108 = .ok (.i2l, 1) := by decide +kernel
theorem dX7_layPoints_109 : decode cX7_layPoints 109 = .ok (.ladd, 1) := by decide +kernel
theorem dX7_layPoints_110 : decode cX7_layPoints 110 = .ok (.lastore, 1) := by decide +kernel
theorem dX7_layPoints_111 : decode cX7_layPoints 111 = .ok (.aload_n 0, 1) := by decide +kernel
theorem dX7_layPoints_112 : decode cX7_layPoints 112 = .ok (.getfield 59, 3) := by decide +kernel
theorem dX7_layPoints_115 : decode cX7_layPoints 115 = .ok (.iload 5, 2) := by decide +kernel
theorem dX7_layPoints_117 : decode cX7_layPoints 117 = .ok (.aload_n 0, 1) := by decide +kernel
theorem dX7_layPoints_118 : decode cX7_layPoints 118 = .ok (.getfield 59, 3) := by decide +kernel
theorem dX7_layPoints_121 : decode cX7_layPoints 121 = .ok (.iload 4, 2) := by decide +kernel
theorem dX7_layPoints_123 : decode cX7_layPoints 123 = .ok (.laload, 1) := by decide +kernel
theorem dX7_layPoints_124 : decode cX7_layPoints 124 = .ok (.aload_n 0, 1) := by decide +kernel
theorem dX7_layPoints_125 : decode cX7_layPoints 125 = .ok (.getfield 25, 3) := by decide +kernel
theorem dX7_layPoints_128 : decode cX7_layPoints 128 = .ok (.iload_n 3, 1) := by decide +kernel
theorem dX7_layPoints_129 : decode cX7_layPoints 129 = .ok (.iaload, 1) := by decide +kernel
theorem dX7_layPoints_130 : decode cX7_layPoints 130 = .ok (.aload_n 0, 1) := by decide +kernel
theorem dX7_layPoints_131 : decode cX7_layPoints 131 = .ok (.getfield 62, 3) := by decide +kernel
theorem dX7_layPoints_134 : decode cX7_layPoints 134 = .ok (.iload 5, 2) := by decide +kernel
theorem dX7_layPoints_136 : decode cX7_layPoints 136 = .ok (.iaload, 1) := by decide +kernel
theorem dX7_layPoints_137 : decode cX7_layPoints 137 = .ok (.invokestatic 121, 3) := by decide +kernel
theorem dX7_layPoints_140 : decode cX7_layPoints 140 = .ok (.imul, 1) := by decide +kernel
theorem dX7_layPoints_141 : decode cX7_layPoints 141 = .ok (.i2l, 1) := by decide +kernel
theorem dX7_layPoints_142 : decode cX7_layPoints 142 = .ok (.ladd, 1) := by decide +kernel
theorem dX7_layPoints_143 : decode cX7_layPoints 143 = .ok (.lastore, 1) := by decide +kernel
theorem dX7_layPoints_144 : decode cX7_layPoints 144 = .ok (.iinc 2 1, 3) := by decide +kernel
theorem dX7_layPoints_147 : decode cX7_layPoints 147 = .ok (.goto (-135), 3) := by decide +kernel
theorem dX7_layPoints_150 : decode cX7_layPoints 150 = .ok (.return_, 1) := by decide +kernel
theorem dX7_goTo_0 : decode cX7_goTo 0 = .ok (.iconst 0, 1) := by decide +kernel
theorem dX7_goTo_1 : decode cX7_goTo 1 = .ok (.istore_n 2, 1) := by decide +kernel
theorem dX7_goTo_2 : decode cX7_goTo 2 = .ok (.iload_n 2, 1) := by decide +kernel
theorem dX7_goTo_3 : decode cX7_goTo 3 = .ok (.aload_n 0, 1) := by decide +kernel
theorem dX7_goTo_4 : decode cX7_goTo 4 = .ok (.getfield 86, 3) := by decide +kernel
theorem dX7_goTo_7 : decode cX7_goTo 7 = .ok (.if_icmp .ge 57, 3) := by decide +kernel
theorem dX7_goTo_10 : decode cX7_goTo 10 = .ok (.aload_n 0, 1) := by decide +kernel
theorem dX7_goTo_11 : decode cX7_goTo 11 = .ok (.getfield 55, 3) := by decide +kernel
theorem dX7_goTo_14 : decode cX7_goTo 14 = .ok (.bipush 9, 2) := by decide +kernel
theorem dX7_goTo_16 : decode cX7_goTo 16 = .ok (.iload_n 2, 1) := by decide +kernel
theorem dX7_goTo_17 : decode cX7_goTo 17 = .ok (.imul, 1) := by decide +kernel
theorem dX7_goTo_18 : decode cX7_goTo 18 = .ok (.aload_n 0, 1) := by decide +kernel
theorem dX7_goTo_19 : decode cX7_goTo 19 = .ok (.getfield 7, 3) := by decide +kernel
theorem dX7_goTo_22 : decode cX7_goTo 22 = .ok (.iload_n 2, 1) := by decide +kernel
theorem dX7_goTo_23 : decode cX7_goTo 23 = .ok (.iaload, 1) := by decide +kernel
theorem dX7_goTo_24 : decode cX7_goTo 24 = .ok (.i2l, 1) := by decide +kernel
theorem dX7_goTo_25 : decode cX7_goTo 25 = .ok (.lastore, 1) := by decide +kernel
theorem dX7_goTo_26 : decode cX7_goTo 26 = .ok (.aload_n 0, 1) := by decide +kernel
theorem dX7_goTo_27 : decode cX7_goTo 27 = .ok (.getfield 59, 3) := by decide +kernel
theorem dX7_goTo_30 : decode cX7_goTo 30 = .ok (.bipush 9, 2) := by decide +kernel
theorem dX7_goTo_32 : decode cX7_goTo 32 = .ok (.iload_n 2, 1) := by decide +kernel
theorem dX7_goTo_33 : decode cX7_goTo 33 = .ok (.imul, 1) := by decide +kernel
theorem dX7_goTo_34 : decode cX7_goTo 34 = .ok (.aload_n 0, 1) := by decide +kernel
theorem dX7_goTo_35 : decode cX7_goTo 35 = .ok (.getfield 13, 3) := by decide +kernel
theorem dX7_goTo_38 : decode cX7_goTo 38 = .ok (.iload_n 2, 1) := by decide +kernel
theorem dX7_goTo_39 : decode cX7_goTo 39 = .ok (.iaload, 1) := by decide +kernel
theorem dX7_goTo_40 : decode cX7_goTo 40 = .ok (.i2l, 1) := by decide +kernel
theorem dX7_goTo_41 : decode cX7_goTo 41 = .ok (.lastore, 1) := by decide +kernel
theorem dX7_goTo_42 : decode cX7_goTo 42 = .ok (.aload_n 0, 1) := by decide +kernel
theorem dX7_goTo_43 : decode cX7_goTo 43 = .ok (.getfield 49, 3) := by decide +kernel
theorem dX7_goTo_46 : decode cX7_goTo 46 = .ok (.iload_n 2, 1) := by decide +kernel
theorem dX7_goTo_47 : decode cX7_goTo 47 = .ok (.aload_n 0, 1) := by decide +kernel
theorem dX7_goTo_48 : decode cX7_goTo 48 = .ok (.aload_n 0, 1) := by decide +kernel
theorem dX7_goTo_49 : decode cX7_goTo 49 = .ok (.getfield 16, 3) := by decide +kernel
theorem dX7_goTo_52 : decode cX7_goTo 52 = .ok (.iload_n 2, 1) := by decide +kernel
theorem dX7_goTo_53 : decode cX7_goTo 53 = .ok (.iaload, 1) := by decide +kernel
theorem dX7_goTo_54 : decode cX7_goTo 54 = .ok (.invokevirtual 114, 3) := by decide +kernel
theorem dX7_goTo_57 : decode cX7_goTo 57 = .ok (.iastore, 1) := by decide +kernel
theorem dX7_goTo_58 : decode cX7_goTo 58 = .ok (.iinc 2 1, 3) := by decide +kernel
theorem dX7_goTo_61 : decode cX7_goTo 61 = .ok (.goto (-59), 3) := by decide +kernel
theorem dX7_goTo_64 : decode cX7_goTo 64 = .ok (.iconst 0, 1) := by decide +kernel
theorem dX7_goTo_65 : decode cX7_goTo 65 = .ok (.istore_n 2, 1) := by decide +kernel
theorem dX7_goTo_66 : decode cX7_goTo 66 = .ok (.iload_n 2, 1) := by decide +kernel
theorem dX7_goTo_67 : decode cX7_goTo 67 = .ok (.bipush 48, 2) := by decide +kernel
theorem dX7_goTo_69 : decode cX7_goTo 69 = .ok (.if_icmp .ge 21, 3) := by decide +kernel
theorem dX7_goTo_72 : decode cX7_goTo 72 = .ok (.aload_n 0, 1) := by decide +kernel
theorem dX7_goTo_73 : decode cX7_goTo 73 = .ok (.getfield 52, 3) := by decide +kernel
theorem dX7_goTo_76 : decode cX7_goTo 76 = .ok (.iload_n 2, 1) := by decide +kernel
theorem dX7_goTo_77 : decode cX7_goTo 77 = .ok (.aload_n 0, 1) := by decide +kernel
theorem dX7_goTo_78 : decode cX7_goTo 78 = .ok (.getfield 28, 3) := by decide +kernel
theorem dX7_goTo_81 : decode cX7_goTo 81 = .ok (.iload_n 2, 1) := by decide +kernel
theorem dX7_goTo_82 : decode cX7_goTo 82 = .ok (.iaload, 1) := by decide +kernel
theorem dX7_goTo_83 : decode cX7_goTo 83 = .ok (.iastore, 1) := by decide +kernel
theorem dX7_goTo_84 : decode cX7_goTo 84 = .ok (.iinc 2 1, 3) := by decide +kernel
theorem dX7_goTo_87 : decode cX7_goTo 87 = .ok (.goto (-21), 3) := by decide +kernel
theorem dX7_goTo_90 : decode cX7_goTo 90 = .ok (.iconst 0, 1) := by decide +kernel
theorem dX7_goTo_91 : decode cX7_goTo 91 = .ok (.istore_n 2, 1) := by decide +kernel
theorem dX7_goTo_92 : decode cX7_goTo 92 = .ok (.iload_n 2, 1) := by decide +kernel
theorem dX7_goTo_93 : decode cX7_goTo 93 = .ok (.iload_n 1, 1) := by decide +kernel
theorem dX7_goTo_94 : decode cX7_goTo 94 = .ok (.if_icmp .gt 40, 3) := by decide +kernel
theorem dX7_goTo_97 : decode cX7_goTo 97 = .ok (.iconst 0, 1) := by decide +kernel
theorem dX7_goTo_98 : decode cX7_goTo 98 = .ok (.istore_n 3, 1) := by decide +kernel
theorem dX7_goTo_99 : decode cX7_goTo 99 = .ok (.iload_n 3, 1) := by decide +kernel
theorem dX7_goTo_100 : decode cX7_goTo 100 = .ok (.aload_n 0, 1) := by decide +kernel
theorem dX7_goTo_101 : decode cX7_goTo 101 = .ok (.getfield 101, 3) := by decide +kernel
theorem dX7_goTo_104 : decode cX7_goTo 104 = .ok (.if_icmp .ge 24, 3) := by decide +kernel
theorem dX7_goTo_107 : decode cX7_goTo 107 = .ok (.aload_n 0, 1) := by decide +kernel
theorem dX7_goTo_108 : decode cX7_goTo 108 = .ok (.getfield 31, 3) := by decide +kernel
theorem dX7_goTo_111 : decode cX7_goTo 111 = .ok (.iload_n 3, 1) := by decide +kernel
theorem dX7_goTo_112 : decode cX7_goTo 112 = .ok (.iaload, 1) := by decide +kernel
theorem dX7_goTo_113 : decode cX7_goTo 113 = .ok (.iload_n 2, 1) := by decide +kernel
theorem dX7_goTo_114 : decode cX7_goTo 114 = .ok (.if_icmp .ne 8, 3) := by decide +kernel
theorem dX7_goTo_117 : decode cX7_goTo 117 = .ok (.aload_n 0, 1) := by decide +kernel
theorem dX7_goTo_118 : decode cX7_goTo 118 = .ok (.iload_n 3, 1) := by decide +kernel
theorem dX7_goTo_119 : decode cX7_goTo 119 = .ok (.invokevirtual 124, 3) := by decide +kernel
theorem dX7_goTo_122 : decode cX7_goTo 122 = .ok (.iinc 3 1, 3) := by decide +kernel
theorem dX7_goTo_125 : decode cX7_goTo 125 = .ok (.goto (-26), 3) := by decide +kernel
theorem dX7_goTo_128 : decode cX7_goTo 128 = .ok (.iinc 2 1, 3) := by decide +kernel
theorem dX7_goTo_131 : decode cX7_goTo 131 = .ok (.goto (-39), 3) := by decide +kernel
theorem dX7_goTo_134 : decode cX7_goTo 134 = .ok (.iconst 0, 1) := by decide +kernel
theorem dX7_goTo_135 : decode cX7_goTo 135 = .ok (.istore_n 2, 1) := by decide +kernel
theorem dX7_goTo_136 : decode cX7_goTo 136 = .ok (.iload_n 2, 1) := by decide +kernel
theorem dX7_goTo_137 : decode cX7_goTo 137 = .ok (.aload_n 0, 1) := by decide +kernel
theorem dX7_goTo_138 : decode cX7_goTo 138 = .ok (.getfield 86, 3) := by decide +kernel
theorem dX7_goTo_141 : decode cX7_goTo 141 = .ok (.if_icmp .ge 14, 3) := by decide +kernel
theorem dX7_goTo_144 : decode cX7_goTo 144 = .ok (.aload_n 0, 1) := by decide +kernel
theorem dX7_goTo_145 : decode cX7_goTo 145 = .ok (.iload_n 2, 1) := by decide +kernel
theorem dX7_goTo_146 : decode cX7_goTo 146 = .ok (.invokevirtual 128, 3) := by decide +kernel
theorem dX7_goTo_149 : decode cX7_goTo 149 = .ok (.iinc 2 1, 3) := by decide +kernel
theorem dX7_goTo_152 : decode cX7_goTo 152 = .ok (.goto (-16), 3) := by decide +kernel
theorem dX7_goTo_155 : decode cX7_goTo 155 = .ok (.return_, 1) := by decide +kernel
theorem dX7_position_0 : decode cX7_position 0 = .ok (.aload_n 0, 1) := by decide +kernel
theorem dX7_position_1 : decode cX7_position 1 = .ok (.iload_n 1, 1) := by decide +kernel
theorem dX7_position_2 : decode cX7_position 2 = .ok (.invokevirtual 93, 3) := by decide +kernel
theorem dX7_position_5 : decode cX7_position 5 = .ok (.ifCond .ne 34, 3) := by decide +kernel
theorem dX7_position_8 : decode cX7_position 8 = .ok (.iload_n 2, 1) := by decide +kernel
theorem dX7_position_9 : decode cX7_position 9 = .ok (.iconst 0, 1) := by decide +kernel
theorem dX7_position_10 : decode cX7_position 10 = .ok (.aload_n 0, 1) := by decide +kernel
theorem dX7_position_11 : decode cX7_position 11 = .ok (.getfield 19, 3) := by decide +kernel
theorem dX7_position_14 : decode cX7_position 14 = .ok (.iload_n 1, 1) := by decide +kernel
theorem dX7_position_15 : decode cX7_position 15 = .ok (.iaload, 1) := by decide +kernel
theorem dX7_position_16 : decode cX7_position 16 = .ok (.invokestatic 89, 3) := by decide +kernel
theorem dX7_position_19 : decode cX7_position 19 = .ok (.ifCond .eq 20, 3) := by decide +kernel
theorem dX7_position_22 : decode cX7_position 22 = .ok (.iload_n 3, 1) := by decide +kernel
theorem dX7_position_23 : decode cX7_position 23 = .ok (.invokestatic 107, 3) := by decide +kernel
theorem dX7_position_26 : decode cX7_position 26 = .ok (.ifCond .eq 13, 3) := by decide +kernel
theorem dX7_position_29 : decode cX7_position 29 = .ok (.iload 4, 2) := by decide +kernel
theorem dX7_position_31 : decode cX7_position 31 = .ok (.iconst 0, 1) := by decide +kernel
theorem dX7_position_32 : decode cX7_position 32 = .ok (.iconst 3, 1) := by decide +kernel
theorem dX7_position_33 : decode cX7_position 33 = .ok (.invokestatic 89, 3) := by decide +kernel
theorem dX7_position_36 : decode cX7_position 36 = .ok (.ifCond .ne 7, 3) := by decide +kernel
theorem dX7_position_39 : decode cX7_position 39 = .ok (.invokestatic 131, 3) := by decide +kernel
theorem dX7_position_42 : decode cX7_position 42 = .ok (.lreturn, 1) := by decide +kernel
theorem dX7_position_43 : decode cX7_position 43 = .ok (.aload_n 0, 1) := by decide +kernel
theorem dX7_position_44 : decode cX7_position 44 = .ok (.iload_n 3, 1) := by decide +kernel
theorem dX7_position_45 : decode cX7_position 45 = .ok (.invokevirtual 135, 3) := by decide +kernel
theorem dX7_position_48 : decode cX7_position 48 = .ok (.bipush 9, 2) := by decide +kernel
theorem dX7_position_50 : decode cX7_position 50 = .ok (.iload_n 1, 1) := by decide +kernel
theorem dX7_position_51 : decode cX7_position 51 = .ok (.imul, 1) := by decide +kernel
theorem dX7_position_52 : decode cX7_position 52 = .ok (.iload_n 2, 1) := by decide +kernel
theorem dX7_position_53 : decode cX7_position 53 = .ok (.iadd, 1) := by decide +kernel
theorem dX7_position_54 : decode cX7_position 54 = .ok (.istore 5, 2) := by decide +kernel
theorem dX7_position_56 : decode cX7_position 56 = .ok (.iload 4, 2) := by decide +kernel
theorem dX7_position_58 : decode cX7_position 58 = .ok (.ifCond .ne 13, 3) := by decide +kernel
theorem dX7_position_61 : decode cX7_position 61 = .ok (.aload_n 0, 1) := by decide +kernel
theorem dX7_position_62 : decode cX7_position 62 = .ok (.getfield 55, 3) := by decide +kernel
theorem dX7_position_65 : decode cX7_position 65 = .ok (.iload 5, 2) := by decide +kernel
theorem dX7_position_67 : decode cX7_position 67 = .ok (.laload, 1) := by decide +kernel
theorem dX7_position_68 : decode cX7_position 68 = .ok (.goto 43, 3) := by decide +kernel
theorem dX7_position_71 : decode cX7_position 71 = .ok (.iload 4, 2) := by decide +kernel
theorem dX7_position_73 : decode cX7_position 73 = .ok (.iconst 1, 1) := by decide +kernel
theorem dX7_position_74 : decode cX7_position 74 = .ok (.if_icmp .ne 13, 3) := by decide +kernel
theorem dX7_position_77 : decode cX7_position 77 = .ok (.aload_n 0, 1) := by decide +kernel
theorem dX7_position_78 : decode cX7_position 78 = .ok (.getfield 59, 3) := by decide +kernel
theorem dX7_position_81 : decode cX7_position 81 = .ok (.iload 5, 2) := by decide +kernel
theorem dX7_position_83 : decode cX7_position 83 = .ok (.laload, 1) := by decide +kernel
theorem dX7_position_84 : decode cX7_position 84 = .ok (.goto 27, 3) := by decide +kernel
theorem dX7_position_87 : decode cX7_position 87 = .ok (.iload 4, 2) := by decide +kernel
theorem dX7_position_89 : decode cX7_position 89 = .ok (.iconst 2, 1) := by decide +kernel
theorem dX7_position_90 : decode cX7_position 90 = .ok (.if_icmp .ne 14, 3) := by decide +kernel
theorem dX7_position_93 : decode cX7_position 93 = .ok (.aload_n 0, 1) := by decide +kernel
theorem dX7_position_94 : decode cX7_position 94 = .ok (.getfield 62, 3) := by decide +kernel
theorem dX7_position_97 : decode cX7_position 97 = .ok (.iload 5, 2) := by decide +kernel
theorem dX7_position_99 : decode cX7_position 99 = .ok (.iaload, 1) := by decide +kernel
theorem dX7_position_100 : decode cX7_position 100 = .ok (.i2l, 1) := by decide +kernel
theorem dX7_position_101 : decode cX7_position 101 = .ok (.goto 10, 3) := by decide +kernel
theorem dX7_position_104 : decode cX7_position 104 = .ok (.aload_n 0, 1) := by decide +kernel
theorem dX7_position_105 : decode cX7_position 105 = .ok (.getfield 49, 3) := by decide +kernel
theorem dX7_position_108 : decode cX7_position 108 = .ok (.iload_n 1, 1) := by decide +kernel
theorem dX7_position_109 : decode cX7_position 109 = .ok (.iaload, 1) := by decide +kernel
theorem dX7_position_110 : decode cX7_position 110 = .ok (.i2l, 1) := by decide +kernel
theorem dX7_position_111 : decode cX7_position 111 = .ok (.lreturn, 1) := by decide +kernel
theorem dX7_common_0 : decode cX7_common 0 = .ok (.lload_n 0, 1) := by decide +kernel
theorem dX7_common_1 : decode cX7_common 1 = .ok (.lconst 0, 1) := by decide +kernel
theorem dX7_common_2 : decode cX7_common 2 = .ok (.lcmp, 1) := by decide +kernel
theorem dX7_common_3 : decode cX7_common 3 = .ok (.ifCond .ge 8, 3) := by decide +kernel
theorem dX7_common_6 : decode cX7_common 6 = .ok (.lload_n 0, 1) := by decide +kernel
theorem dX7_common_7 : decode cX7_common 7 = .ok (.lneg, 1) := by decide +kernel
theorem dX7_common_8 : decode cX7_common 8 = .ok (.goto 4, 3) := by decide +kernel
theorem dX7_common_11 : decode cX7_common 11 = .ok (.lload_n 0, 1) := by decide +kernel
theorem dX7_common_12 : decode cX7_common 12 = .ok (.lstore 4, 2) := by decide +kernel
theorem dX7_common_14 : decode cX7_common 14 = .ok (.lload_n 2, 1) := by decide +kernel
theorem dX7_common_15 : decode cX7_common 15 = .ok (.lstore 6, 2) := by decide +kernel
theorem dX7_common_17 : decode cX7_common 17 = .ok (.lload 6, 2) := by decide +kernel
theorem dX7_common_19 : decode cX7_common 19 = .ok (.lconst 0, 1) := by decide +kernel
theorem dX7_common_20 : decode cX7_common 20 = .ok (.lcmp, 1) := by decide +kernel
theorem dX7_common_21 : decode cX7_common 21 = .ok (.ifCond .eq 21, 3) := by decide +kernel
theorem dX7_common_24 : decode cX7_common 24 = .ok (.lload 4, 2) := by decide +kernel
theorem dX7_common_26 : decode cX7_common 26 = .ok (.lload 6, 2) := by decide +kernel
theorem dX7_common_28 : decode cX7_common 28 = .ok (.lrem, 1) := by decide +kernel
theorem dX7_common_29 : decode cX7_common 29 = .ok (.lstore 8, 2) := by decide +kernel
theorem dX7_common_31 : decode cX7_common 31 = .ok (.lload 6, 2) := by decide +kernel
theorem dX7_common_33 : decode cX7_common 33 = .ok (.lstore 4, 2) := by decide +kernel
theorem dX7_common_35 : decode cX7_common 35 = .ok (.lload 8, 2) := by decide +kernel
theorem dX7_common_37 : decode cX7_common 37 = .ok (.lstore 6, 2) := by decide +kernel
theorem dX7_common_39 : decode cX7_common 39 = .ok (.goto (-22), 3) := by decide +kernel
theorem dX7_common_42 : decode cX7_common 42 = .ok (.lload 4, 2) := by decide +kernel
theorem dX7_common_44 : decode cX7_common 44 = .ok (.lreturn, 1) := by decide +kernel
theorem dX7_partOf_0 : decode cX7_partOf 0 = .ok (.iload 4, 2) := by decide +kernel
theorem dX7_partOf_2 : decode cX7_partOf 2 = .ok (.ifCond .ne 7, 3) := by decide +kernel
theorem dX7_partOf_5 : decode cX7_partOf 5 = .ok (.lload_n 0, 1) := by decide +kernel
theorem dX7_partOf_6 : decode cX7_partOf 6 = .ok (.goto 4, 3) := by decide +kernel
theorem dX7_partOf_9 : decode cX7_partOf 9 = .ok (.lload_n 2, 1) := by decide +kernel
theorem dX7_partOf_10 : decode cX7_partOf 10 = .ok (.lload_n 0, 1) := by decide +kernel
theorem dX7_partOf_11 : decode cX7_partOf 11 = .ok (.lload_n 2, 1) := by decide +kernel
theorem dX7_partOf_12 : decode cX7_partOf 12 = .ok (.invokestatic 138, 3) := by decide +kernel
theorem dX7_partOf_15 : decode cX7_partOf 15 = .ok (.ldiv, 1) := by decide +kernel
theorem dX7_partOf_16 : decode cX7_partOf 16 = .ok (.lreturn, 1) := by decide +kernel
theorem dX7_reach_0 : decode cX7_reach 0 = .ok (.iload_n 3, 1) := by decide +kernel
theorem dX7_reach_1 : decode cX7_reach 1 = .ok (.i2l, 1) := by decide +kernel
theorem dX7_reach_2 : decode cX7_reach 2 = .ok (.iload_n 2, 1) := by decide +kernel
theorem dX7_reach_3 : decode cX7_reach 3 = .ok (.ifCond .eq 15, 3) := by decide +kernel
theorem dX7_reach_6 : decode cX7_reach 6 = .ok (.aload_n 0, 1) := by decide +kernel
theorem dX7_reach_7 : decode cX7_reach 7 = .ok (.getfield 55, 3) := by decide +kernel
theorem dX7_reach_10 : decode cX7_reach 10 = .ok (.bipush 9, 2) := by decide +kernel
theorem dX7_reach_12 : decode cX7_reach 12 = .ok (.iload_n 1, 1) := by decide +kernel
theorem dX7_reach_13 : decode cX7_reach 13 = .ok (.imul, 1) := by decide +kernel
theorem dX7_reach_14 : decode cX7_reach 14 = .ok (.laload, 1) := by decide +kernel
theorem dX7_reach_15 : decode cX7_reach 15 = .ok (.goto 12, 3) := by decide +kernel
theorem dX7_reach_18 : decode cX7_reach 18 = .ok (.aload_n 0, 1) := by decide +kernel
theorem dX7_reach_19 : decode cX7_reach 19 = .ok (.getfield 59, 3) := by decide +kernel
theorem dX7_reach_22 : decode cX7_reach 22 = .ok (.bipush 9, 2) := by decide +kernel
theorem dX7_reach_24 : decode cX7_reach 24 = .ok (.iload_n 1, 1) := by decide +kernel
theorem dX7_reach_25 : decode cX7_reach 25 = .ok (.imul, 1) := by decide +kernel
theorem dX7_reach_26 : decode cX7_reach 26 = .ok (.laload, 1) := by decide +kernel
theorem dX7_reach_27 : decode cX7_reach 27 = .ok (.lmul, 1) := by decide +kernel
theorem dX7_reach_28 : decode cX7_reach 28 = .ok (.lstore 4, 2) := by decide +kernel
theorem dX7_reach_30 : decode cX7_reach 30 = .ok (.iconst 1, 1) := by decide +kernel
theorem dX7_reach_31 : decode cX7_reach 31 = .ok (.istore 6, 2) := by decide +kernel
theorem dX7_reach_33 : decode cX7_reach 33 = .ok (.iload 6, 2) := by decide +kernel
theorem dX7_reach_35 : decode cX7_reach 35 = .ok (.aload_n 0, 1) := by decide +kernel
theorem dX7_reach_36 : decode cX7_reach 36 = .ok (.getfield 19, 3) := by decide +kernel
theorem dX7_reach_39 : decode cX7_reach 39 = .ok (.iload_n 1, 1) := by decide +kernel
theorem dX7_reach_40 : decode cX7_reach 40 = .ok (.iaload, 1) := by decide +kernel
theorem dX7_reach_41 : decode cX7_reach 41 = .ok (.if_icmp .gt 50, 3) := by decide +kernel
theorem dX7_reach_44 : decode cX7_reach 44 = .ok (.lload 4, 2) := by decide +kernel
theorem dX7_reach_46 : decode cX7_reach 46 = .ok (.iload_n 3, 1) := by decide +kernel
theorem dX7_reach_47 : decode cX7_reach 47 = .ok (.i2l, 1) := by decide +kernel
theorem dX7_reach_48 : decode cX7_reach 48 = .ok (.iload_n 2, 1) := by decide +kernel
theorem dX7_reach_49 : decode cX7_reach 49 = .ok (.ifCond .eq 18, 3) := by decide +kernel
theorem dX7_reach_52 : decode cX7_reach 52 = .ok (.aload_n 0, 1) := by decide +kernel
theorem dX7_reach_53 : decode cX7_reach 53 = .ok (.getfield 55, 3) := by decide +kernel
theorem dX7_reach_56 : decode cX7_reach 56 = .ok (.bipush 9, 2) := by decide +kernel
theorem dX7_reach_58 : decode cX7_reach 58 = .ok (.iload_n 1, 1) := by decide +kernel
theorem dX7_reach_59 : decode cX7_reach 59 = .ok (.imul, 1) := by decide +kernel
theorem dX7_reach_60 : decode cX7_reach 60 = .ok (.iload 6, 2) := by decide +kernel
theorem dX7_reach_62 : decode cX7_reach 62 = .ok (.iadd, 1) := by decide +kernel
theorem dX7_reach_63 : decode cX7_reach 63 = .ok (.laload, 1) := by decide +kernel
theorem dX7_reach_64 : decode cX7_reach 64 = .ok (.goto 15, 3) := by decide +kernel
theorem dX7_reach_67 : decode cX7_reach 67 = .ok (.aload_n 0, 1) := by decide +kernel
theorem dX7_reach_68 : decode cX7_reach 68 = .ok (.getfield 59, 3) := by decide +kernel
theorem dX7_reach_71 : decode cX7_reach 71 = .ok (.bipush 9, 2) := by decide +kernel
theorem dX7_reach_73 : decode cX7_reach 73 = .ok (.iload_n 1, 1) := by decide +kernel
theorem dX7_reach_74 : decode cX7_reach 74 = .ok (.imul, 1) := by decide +kernel
theorem dX7_reach_75 : decode cX7_reach 75 = .ok (.iload 6, 2) := by decide +kernel
theorem dX7_reach_77 : decode cX7_reach 77 = .ok (.iadd, 1) := by decide +kernel
theorem dX7_reach_78 : decode cX7_reach 78 = .ok (.laload, 1) := by decide +kernel
theorem dX7_reach_79 : decode cX7_reach 79 = .ok (.lmul, 1) := by decide +kernel
theorem dX7_reach_80 : decode cX7_reach 80 = .ok (.invokestatic 142, 3) := by decide +kernel
theorem dX7_reach_83 : decode cX7_reach 83 = .ok (.lstore 4, 2) := by decide +kernel
theorem dX7_reach_85 : decode cX7_reach 85 = .ok (.iinc 6 1, 3) := by decide +kernel
theorem dX7_reach_88 : decode cX7_reach 88 = .ok (.goto (-55), 3) := by decide +kernel
theorem dX7_reach_91 : decode cX7_reach 91 = .ok (.lload 4, 2) := by decide +kernel
theorem dX7_reach_93 : decode cX7_reach 93 = .ok (.lreturn, 1) := by decide +kernel
theorem dX7_measure_0 : decode cX7_measure 0 = .ok (.iload_n 2, 1) := by decide +kernel
theorem dX7_measure_1 : decode cX7_measure 1 = .ok (.tableswitch 85 0 4 #[35, 44, 52, 61, 69], 35) := by decide +kernel
theorem dX7_measure_36 : decode cX7_measure 36 = .ok (.aload_n 0, 1) := by decide +kernel
theorem dX7_measure_37 : decode cX7_measure 37 = .ok (.iload_n 1, 1) := by decide +kernel
theorem dX7_measure_38 : decode cX7_measure 38 = .ok (.iconst 1, 1) := by decide +kernel
theorem dX7_measure_39 : decode cX7_measure 39 = .ok (.iconst (-1), 1) := by decide +kernel
theorem dX7_measure_40 : decode cX7_measure 40 = .ok (.invokevirtual 145, 3) := by decide +kernel
theorem dX7_measure_43 : decode cX7_measure 43 = .ok (.lneg, 1) := by decide +kernel
theorem dX7_measure_44 : decode cX7_measure 44 = .ok (.lreturn, 1) := by decide +kernel
theorem dX7_measure_45 : decode cX7_measure 45 = .ok (.aload_n 0, 1) := by decide +kernel
theorem dX7_measure_46 : decode cX7_measure 46 = .ok (.iload_n 1, 1) := by decide +kernel
theorem dX7_measure_47 : decode cX7_measure 47 = .ok (.iconst 1, 1) := by decide +kernel
theorem dX7_measure_48 : decode cX7_measure 48 = .ok (.iconst 1, 1) := by decide +kernel
theorem dX7_measure_49 : decode cX7_measure 49 = .ok (.invokevirtual 145, 3) := by decide +kernel
theorem dX7_measure_52 : decode cX7_measure 52 = .ok (.lreturn, 1) := by decide +kernel
theorem dX7_measure_53 : decode cX7_measure 53 = .ok (.aload_n 0, 1) := by decide +kernel
theorem dX7_measure_54 : decode cX7_measure 54 = .ok (.iload_n 1, 1) := by decide +kernel
theorem dX7_measure_55 : decode cX7_measure 55 = .ok (.iconst 0, 1) := by decide +kernel
theorem dX7_measure_56 : decode cX7_measure 56 = .ok (.iconst (-1), 1) := by decide +kernel
theorem dX7_measure_57 : decode cX7_measure 57 = .ok (.invokevirtual 145, 3) := by decide +kernel
theorem dX7_measure_60 : decode cX7_measure 60 = .ok (.lneg, 1) := by decide +kernel
theorem dX7_measure_61 : decode cX7_measure 61 = .ok (.lreturn, 1) := by decide +kernel
theorem dX7_measure_62 : decode cX7_measure 62 = .ok (.aload_n 0, 1) := by decide +kernel
theorem dX7_measure_63 : decode cX7_measure 63 = .ok (.iload_n 1, 1) := by decide +kernel
theorem dX7_measure_64 : decode cX7_measure 64 = .ok (.iconst 0, 1) := by decide +kernel
theorem dX7_measure_65 : decode cX7_measure 65 = .ok (.iconst 1, 1) := by decide +kernel
theorem dX7_measure_66 : decode cX7_measure 66 = .ok (.invokevirtual 145, 3) := by decide +kernel
theorem dX7_measure_69 : decode cX7_measure 69 = .ok (.lreturn, 1) := by decide +kernel
theorem dX7_measure_70 : decode cX7_measure 70 = .ok (.aload_n 0, 1) := by decide +kernel
theorem dX7_measure_71 : decode cX7_measure 71 = .ok (.iload_n 1, 1) := by decide +kernel
theorem dX7_measure_72 : decode cX7_measure 72 = .ok (.iconst 1, 1) := by decide +kernel
theorem dX7_measure_73 : decode cX7_measure 73 = .ok (.iconst 1, 1) := by decide +kernel
theorem dX7_measure_74 : decode cX7_measure 74 = .ok (.invokevirtual 145, 3) := by decide +kernel
theorem dX7_measure_77 : decode cX7_measure 77 = .ok (.aload_n 0, 1) := by decide +kernel
theorem dX7_measure_78 : decode cX7_measure 78 = .ok (.iload_n 1, 1) := by decide +kernel
theorem dX7_measure_79 : decode cX7_measure 79 = .ok (.iconst 1, 1) := by decide +kernel
theorem dX7_measure_80 : decode cX7_measure 80 = .ok (.iconst (-1), 1) := by decide +kernel
theorem dX7_measure_81 : decode cX7_measure 81 = .ok (.invokevirtual 145, 3) := by decide +kernel
theorem dX7_measure_84 : decode cX7_measure 84 = .ok (.ladd, 1) := by decide +kernel
theorem dX7_measure_85 : decode cX7_measure 85 = .ok (.lreturn, 1) := by decide +kernel
theorem dX7_measure_86 : decode cX7_measure 86 = .ok (.aload_n 0, 1) := by decide +kernel
theorem dX7_measure_87 : decode cX7_measure 87 = .ok (.iload_n 1, 1) := by decide +kernel
theorem dX7_measure_88 : decode cX7_measure 88 = .ok (.iconst 0, 1) := by decide +kernel
theorem dX7_measure_89 : decode cX7_measure 89 = .ok (.iconst 1, 1) := by decide +kernel
theorem dX7_measure_90 : decode cX7_measure 90 = .ok (.invokevirtual 145, 3) := by decide +kernel
theorem dX7_measure_93 : decode cX7_measure 93 = .ok (.aload_n 0, 1) := by decide +kernel
theorem dX7_measure_94 : decode cX7_measure 94 = .ok (.iload_n 1, 1) := by decide +kernel
theorem dX7_measure_95 : decode cX7_measure 95 = .ok (.iconst 0, 1) := by decide +kernel
theorem dX7_measure_96 : decode cX7_measure 96 = .ok (.iconst (-1), 1) := by decide +kernel
theorem dX7_measure_97 : decode cX7_measure 97 = .ok (.invokevirtual 145, 3) := by decide +kernel
theorem dX7_measure_100 : decode cX7_measure 100 = .ok (.ladd, 1) := by decide +kernel
theorem dX7_measure_101 : decode cX7_measure 101 = .ok (.lreturn, 1) := by decide +kernel
theorem dX7_box_0 : decode cX7_box 0 = .ok (.aload_n 0, 1) := by decide +kernel
theorem dX7_box_1 : decode cX7_box 1 = .ok (.iload_n 1, 1) := by decide +kernel
theorem dX7_box_2 : decode cX7_box 2 = .ok (.invokevirtual 93, 3) := by decide +kernel
theorem dX7_box_5 : decode cX7_box 5 = .ok (.ifCond .ne 29, 3) := by decide +kernel
theorem dX7_box_8 : decode cX7_box 8 = .ok (.iload_n 2, 1) := by decide +kernel
theorem dX7_box_9 : decode cX7_box 9 = .ok (.invokestatic 107, 3) := by decide +kernel
theorem dX7_box_12 : decode cX7_box 12 = .ok (.ifCond .eq 22, 3) := by decide +kernel
theorem dX7_box_15 : decode cX7_box 15 = .ok (.iload_n 3, 1) := by decide +kernel
theorem dX7_box_16 : decode cX7_box 16 = .ok (.iconst 0, 1) := by decide +kernel
theorem dX7_box_17 : decode cX7_box 17 = .ok (.iconst 5, 1) := by decide +kernel
theorem dX7_box_18 : decode cX7_box 18 = .ok (.invokestatic 89, 3) := by decide +kernel
theorem dX7_box_21 : decode cX7_box 21 = .ok (.ifCond .eq 13, 3) := by decide +kernel
theorem dX7_box_24 : decode cX7_box 24 = .ok (.iload 4, 2) := by decide +kernel
theorem dX7_box_26 : decode cX7_box 26 = .ok (.iconst 0, 1) := by decide +kernel
theorem dX7_box_27 : decode cX7_box 27 = .ok (.iconst 1, 1) := by decide +kernel
theorem dX7_box_28 : decode cX7_box 28 = .ok (.invokestatic 89, 3) := by decide +kernel
theorem dX7_box_31 : decode cX7_box 31 = .ok (.ifCond .ne 7, 3) := by decide +kernel
theorem dX7_box_34 : decode cX7_box 34 = .ok (.invokestatic 131, 3) := by decide +kernel
theorem dX7_box_37 : decode cX7_box 37 = .ok (.lreturn, 1) := by decide +kernel
theorem dX7_box_38 : decode cX7_box 38 = .ok (.aload_n 0, 1) := by decide +kernel
theorem dX7_box_39 : decode cX7_box 39 = .ok (.iload_n 2, 1) := by decide +kernel
theorem dX7_box_40 : decode cX7_box 40 = .ok (.invokevirtual 135, 3) := by decide +kernel
theorem dX7_box_43 : decode cX7_box 43 = .ok (.aload_n 0, 1) := by decide +kernel
theorem dX7_box_44 : decode cX7_box 44 = .ok (.iload_n 1, 1) := by decide +kernel
theorem dX7_box_45 : decode cX7_box 45 = .ok (.iload_n 3, 1) := by decide +kernel
theorem dX7_box_46 : decode cX7_box 46 = .ok (.invokevirtual 149, 3) := by decide +kernel
theorem dX7_box_49 : decode cX7_box 49 = .ok (.aload_n 0, 1) := by decide +kernel
theorem dX7_box_50 : decode cX7_box 50 = .ok (.getfield 80, 3) := by decide +kernel
theorem dX7_box_53 : decode cX7_box 53 = .ok (.i2l, 1) := by decide +kernel
theorem dX7_box_54 : decode cX7_box 54 = .ok (.lmul, 1) := by decide +kernel
theorem dX7_box_55 : decode cX7_box 55 = .ok (.aload_n 0, 1) := by decide +kernel
theorem dX7_box_56 : decode cX7_box 56 = .ok (.getfield 49, 3) := by decide +kernel
theorem dX7_box_59 : decode cX7_box 59 = .ok (.iload_n 1, 1) := by decide +kernel
theorem dX7_box_60 : decode cX7_box 60 = .ok (.iaload, 1) := by decide +kernel
theorem dX7_box_61 : decode cX7_box 61 = .ok (.i2l, 1) := by decide +kernel
theorem dX7_box_62 : decode cX7_box 62 = .ok (.iload 4, 2) := by decide +kernel
theorem dX7_box_64 : decode cX7_box 64 = .ok (.invokestatic 153, 3) := by decide +kernel
theorem dX7_box_67 : decode cX7_box 67 = .ok (.lreturn, 1) := by decide +kernel
theorem dX7_along_0 : decode cX7_along 0 = .ok (.aload_n 0, 1) := by decide +kernel
theorem dX7_along_1 : decode cX7_along 1 = .ok (.iload_n 1, 1) := by decide +kernel
theorem dX7_along_2 : decode cX7_along 2 = .ok (.iload 4, 2) := by decide +kernel
theorem dX7_along_4 : decode cX7_along 4 = .ok (.invokevirtual 149, 3) := by decide +kernel
theorem dX7_along_7 : decode cX7_along 7 = .ok (.aload_n 0, 1) := by decide +kernel
theorem dX7_along_8 : decode cX7_along 8 = .ok (.getfield 49, 3) := by decide +kernel
theorem dX7_along_11 : decode cX7_along 11 = .ok (.iload_n 2, 1) := by decide +kernel
theorem dX7_along_12 : decode cX7_along 12 = .ok (.iaload, 1) := by decide +kernel
theorem dX7_along_13 : decode cX7_along 13 = .ok (.i2l, 1) := by decide +kernel
theorem dX7_along_14 : decode cX7_along 14 = .ok (.lmul, 1) := by decide +kernel
theorem dX7_along_15 : decode cX7_along 15 = .ok (.aload_n 0, 1) := by decide +kernel
theorem dX7_along_16 : decode cX7_along 16 = .ok (.iload_n 2, 1) := by decide +kernel
theorem dX7_along_17 : decode cX7_along 17 = .ok (.iload 4, 2) := by decide +kernel
theorem dX7_along_19 : decode cX7_along 19 = .ok (.invokevirtual 149, 3) := by decide +kernel
theorem dX7_along_22 : decode cX7_along 22 = .ok (.aload_n 0, 1) := by decide +kernel
theorem dX7_along_23 : decode cX7_along 23 = .ok (.getfield 49, 3) := by decide +kernel
theorem dX7_along_26 : decode cX7_along 26 = .ok (.iload_n 1, 1) := by decide +kernel
theorem dX7_along_27 : decode cX7_along 27 = .ok (.iaload, 1) := by decide +kernel
theorem dX7_along_28 : decode cX7_along 28 = .ok (.i2l, 1) := by decide +kernel
theorem dX7_along_29 : decode cX7_along 29 = .ok (.lmul, 1) := by decide +kernel
theorem dX7_along_30 : decode cX7_along 30 = .ok (.invokestatic 157, 3) := by decide +kernel
theorem dX7_along_33 : decode cX7_along 33 = .ok (.lstore 5, 2) := by decide +kernel
theorem dX7_along_35 : decode cX7_along 35 = .ok (.lload 5, 2) := by decide +kernel
theorem dX7_along_37 : decode cX7_along 37 = .ok (.aload_n 0, 1) := by decide +kernel
theorem dX7_along_38 : decode cX7_along 38 = .ok (.iload_n 1, 1) := by decide +kernel
theorem dX7_along_39 : decode cX7_along 39 = .ok (.iload_n 3, 1) := by decide +kernel
theorem dX7_along_40 : decode cX7_along 40 = .ok (.invokevirtual 149, 3) := by decide +kernel
theorem dX7_along_43 : decode cX7_along 43 = .ok (.aload_n 0, 1) := by decide +kernel
theorem dX7_along_44 : decode cX7_along 44 = .ok (.getfield 49, 3) := by decide +kernel
theorem dX7_along_47 : decode cX7_along 47 = .ok (.iload_n 2, 1) := by decide +kernel
theorem dX7_along_48 : decode cX7_along 48 = .ok (.iaload, 1) := by decide +kernel
theorem dX7_along_49 : decode cX7_along 49 = .ok (.i2l, 1) := by decide +kernel
theorem dX7_along_50 : decode cX7_along 50 = .ok (.lmul, 1) := by decide +kernel
theorem dX7_along_51 : decode cX7_along 51 = .ok (.aload_n 0, 1) := by decide +kernel
theorem dX7_along_52 : decode cX7_along 52 = .ok (.iload_n 2, 1) := by decide +kernel
theorem dX7_along_53 : decode cX7_along 53 = .ok (.iload_n 3, 1) := by decide +kernel
theorem dX7_along_54 : decode cX7_along 54 = .ok (.invokevirtual 149, 3) := by decide +kernel
theorem dX7_along_57 : decode cX7_along 57 = .ok (.aload_n 0, 1) := by decide +kernel
theorem dX7_along_58 : decode cX7_along 58 = .ok (.getfield 49, 3) := by decide +kernel
theorem dX7_along_61 : decode cX7_along 61 = .ok (.iload_n 1, 1) := by decide +kernel
theorem dX7_along_62 : decode cX7_along 62 = .ok (.iaload, 1) := by decide +kernel
theorem dX7_along_63 : decode cX7_along 63 = .ok (.i2l, 1) := by decide +kernel
theorem dX7_along_64 : decode cX7_along 64 = .ok (.lmul, 1) := by decide +kernel
theorem dX7_along_65 : decode cX7_along 65 = .ok (.invokestatic 142, 3) := by decide +kernel
theorem dX7_along_68 : decode cX7_along 68 = .ok (.lsub, 1) := by decide +kernel
theorem dX7_along_69 : decode cX7_along 69 = .ok (.lreturn, 1) := by decide +kernel
theorem dX7_overlap_0 : decode cX7_overlap 0 = .ok (.aload_n 0, 1) := by decide +kernel
theorem dX7_overlap_1 : decode cX7_overlap 1 = .ok (.iload_n 1, 1) := by decide +kernel
theorem dX7_overlap_2 : decode cX7_overlap 2 = .ok (.invokevirtual 93, 3) := by decide +kernel
theorem dX7_overlap_5 : decode cX7_overlap 5 = .ok (.ifCond .ne 28, 3) := by decide +kernel
theorem dX7_overlap_8 : decode cX7_overlap 8 = .ok (.aload_n 0, 1) := by decide +kernel
theorem dX7_overlap_9 : decode cX7_overlap 9 = .ok (.iload_n 2, 1) := by decide +kernel
theorem dX7_overlap_10 : decode cX7_overlap 10 = .ok (.invokevirtual 93, 3) := by decide +kernel
theorem dX7_overlap_13 : decode cX7_overlap 13 = .ok (.ifCond .ne 20, 3) := by decide +kernel
theorem dX7_overlap_16 : decode cX7_overlap 16 = .ok (.iload_n 3, 1) := by decide +kernel
theorem dX7_overlap_17 : decode cX7_overlap 17 = .ok (.invokestatic 107, 3) := by decide +kernel
theorem dX7_overlap_20 : decode cX7_overlap 20 = .ok (.ifCond .eq 13, 3) := by decide +kernel
theorem dX7_overlap_23 : decode cX7_overlap 23 = .ok (.iload 4, 2) := by decide +kernel
theorem dX7_overlap_25 : decode cX7_overlap 25 = .ok (.iconst 0, 1) := by decide +kernel
theorem dX7_overlap_26 : decode cX7_overlap 26 = .ok (.iconst 1, 1) := by decide +kernel
theorem dX7_overlap_27 : decode cX7_overlap 27 = .ok (.invokestatic 89, 3) := by decide +kernel
theorem dX7_overlap_30 : decode cX7_overlap 30 = .ok (.ifCond .ne 7, 3) := by decide +kernel
theorem dX7_overlap_33 : decode cX7_overlap 33 = .ok (.invokestatic 131, 3) := by decide +kernel
theorem dX7_overlap_36 : decode cX7_overlap 36 = .ok (.lreturn, 1) := by decide +kernel
theorem dX7_overlap_37 : decode cX7_overlap 37 = .ok (.aload_n 0, 1) := by decide +kernel
theorem dX7_overlap_38 : decode cX7_overlap 38 = .ok (.iload_n 3, 1) := by decide +kernel
theorem dX7_overlap_39 : decode cX7_overlap 39 = .ok (.invokevirtual 135, 3) := by decide +kernel
theorem dX7_overlap_42 : decode cX7_overlap 42 = .ok (.aload_n 0, 1) := by decide +kernel
theorem dX7_overlap_43 : decode cX7_overlap 43 = .ok (.iload_n 1, 1) := by decide +kernel
theorem dX7_overlap_44 : decode cX7_overlap 44 = .ok (.iload_n 2, 1) := by decide +kernel
theorem dX7_overlap_45 : decode cX7_overlap 45 = .ok (.iconst 0, 1) := by decide +kernel
theorem dX7_overlap_46 : decode cX7_overlap 46 = .ok (.iconst 1, 1) := by decide +kernel
theorem dX7_overlap_47 : decode cX7_overlap 47 = .ok (.invokevirtual 160, 3) := by decide +kernel
theorem dX7_overlap_50 : decode cX7_overlap 50 = .ok (.lstore 5, 2) := by decide +kernel
theorem dX7_overlap_52 : decode cX7_overlap 52 = .ok (.aload_n 0, 1) := by decide +kernel
theorem dX7_overlap_53 : decode cX7_overlap 53 = .ok (.iload_n 1, 1) := by decide +kernel
theorem dX7_overlap_54 : decode cX7_overlap 54 = .ok (.iload_n 2, 1) := by decide +kernel
theorem dX7_overlap_55 : decode cX7_overlap 55 = .ok (.iconst 2, 1) := by decide +kernel
theorem dX7_overlap_56 : decode cX7_overlap 56 = .ok (.iconst 3, 1) := by decide +kernel
theorem dX7_overlap_57 : decode cX7_overlap 57 = .ok (.invokevirtual 160, 3) := by decide +kernel
theorem dX7_overlap_60 : decode cX7_overlap 60 = .ok (.lstore 7, 2) := by decide +kernel
theorem dX7_overlap_62 : decode cX7_overlap 62 = .ok (.aload_n 0, 1) := by decide +kernel
theorem dX7_overlap_63 : decode cX7_overlap 63 = .ok (.getfield 49, 3) := by decide +kernel
theorem dX7_overlap_66 : decode cX7_overlap 66 = .ok (.iload_n 1, 1) := by decide +kernel
theorem dX7_overlap_67 : decode cX7_overlap 67 = .ok (.iaload, 1) := by decide +kernel
theorem dX7_overlap_68 : decode cX7_overlap 68 = .ok (.aload_n 0, 1) := by decide +kernel
theorem dX7_overlap_69 : decode cX7_overlap 69 = .ok (.getfield 49, 3) := by decide +kernel
theorem dX7_overlap_72 : decode cX7_overlap 72 = .ok (.iload_n 2, 1) := by decide +kernel
theorem dX7_overlap_73 : decode cX7_overlap 73 = .ok (.iaload, 1) := by decide +kernel
theorem dX7_overlap_74 : decode cX7_overlap 74 = .ok (.imul, 1) := by decide +kernel
theorem dX7_overlap_75 : decode cX7_overlap 75 = .ok (.i2l, 1) := by decide +kernel
theorem dX7_overlap_76 : decode cX7_overlap 76 = .ok (.lstore 9, 2) := by decide +kernel
theorem dX7_overlap_78 : decode cX7_overlap 78 = .ok (.lload 5, 2) := by decide +kernel
theorem dX7_overlap_80 : decode cX7_overlap 80 = .ok (.lconst 0, 1) := by decide +kernel
theorem dX7_overlap_81 : decode cX7_overlap 81 = .ok (.lcmp, 1) := by decide +kernel
theorem dX7_overlap_82 : decode cX7_overlap 82 = .ok (.ifCond .lt 10, 3) := by decide +kernel
theorem dX7_overlap_85 : decode cX7_overlap 85 = .ok (.lload 7, 2) := by decide +kernel
theorem dX7_overlap_87 : decode cX7_overlap 87 = .ok (.lconst 0, 1) := by decide +kernel
theorem dX7_overlap_88 : decode cX7_overlap 88 = .ok (.lcmp, 1) := by decide +kernel
theorem dX7_overlap_89 : decode cX7_overlap 89 = .ok (.ifCond .ge 7, 3) := by decide +kernel
theorem dX7_overlap_92 : decode cX7_overlap 92 = .ok (.lconst 0, 1) := by decide +kernel
theorem dX7_overlap_93 : decode cX7_overlap 93 = .ok (.goto 20, 3) := by decide +kernel
theorem dX7_overlap_96 : decode cX7_overlap 96 = .ok (.lload 5, 2) := by decide +kernel
theorem dX7_overlap_98 : decode cX7_overlap 98 = .ok (.lload 7, 2) := by decide +kernel
theorem dX7_overlap_100 : decode cX7_overlap 100 = .ok (.lmul, 1) := by decide +kernel
theorem dX7_overlap_101 : decode cX7_overlap 101 = .ok (.aload_n 0, 1) := by decide +kernel
theorem dX7_overlap_102 : decode cX7_overlap 102 = .ok (.getfield 80, 3) := by decide +kernel
theorem dX7_overlap_105 : decode cX7_overlap 105 = .ok (.i2l, 1) := by decide +kernel
theorem dX7_overlap_106 : decode cX7_overlap 106 = .ok (.lmul, 1) := by decide +kernel
theorem dX7_overlap_107 : decode cX7_overlap 107 = .ok (.aload_n 0, 1) := by decide +kernel
theorem dX7_overlap_108 : decode cX7_overlap 108 = .ok (.getfield 80, 3) := by decide +kernel
theorem dX7_overlap_111 : decode cX7_overlap 111 = .ok (.i2l, 1) := by decide +kernel
theorem dX7_overlap_112 : decode cX7_overlap 112 = .ok (.lmul, 1) := by decide +kernel
theorem dX7_overlap_113 : decode cX7_overlap 113 = .ok (.lstore 11, 2) := by decide +kernel
theorem dX7_overlap_115 : decode cX7_overlap 115 = .ok (.lload 11, 2) := by decide +kernel
theorem dX7_overlap_117 : decode cX7_overlap 117 = .ok (.lload 9, 2) := by decide +kernel
theorem dX7_overlap_119 : decode cX7_overlap 119 = .ok (.lload 9, 2) := by decide +kernel
theorem dX7_overlap_121 : decode cX7_overlap 121 = .ok (.lmul, 1) := by decide +kernel
theorem dX7_overlap_122 : decode cX7_overlap 122 = .ok (.iload 4, 2) := by decide +kernel
theorem dX7_overlap_124 : decode cX7_overlap 124 = .ok (.invokestatic 153, 3) := by decide +kernel
theorem dX7_overlap_127 : decode cX7_overlap 127 = .ok (.lreturn, 1) := by decide +kernel
theorem dX7_side_0 : decode cX7_side 0 = .ok (.lload 4, 2) := by decide +kernel
theorem dX7_side_2 : decode cX7_side 2 = .ok (.lload_n 0, 1) := by decide +kernel
theorem dX7_side_3 : decode cX7_side 3 = .ok (.lsub, 1) := by decide +kernel
theorem dX7_side_4 : decode cX7_side 4 = .ok (.lload 10, 2) := by decide +kernel
theorem dX7_side_6 : decode cX7_side 6 = .ok (.lload_n 2, 1) := by decide +kernel
theorem dX7_side_7 : decode cX7_side 7 = .ok (.lsub, 1) := by decide +kernel
theorem dX7_side_8 : decode cX7_side 8 = .ok (.lmul, 1) := by decide +kernel
theorem dX7_side_9 : decode cX7_side 9 = .ok (.lload 6, 2) := by decide +kernel
theorem dX7_side_11 : decode cX7_side 11 = .ok (.lload_n 2, 1) := by decide +kernel
theorem dX7_side_12 : decode cX7_side 12 = .ok (.lsub, 1) := by decide +kernel
theorem dX7_side_13 : decode cX7_side 13 = .ok (.lload 8, 2) := by decide +kernel
theorem dX7_side_15 : decode cX7_side 15 = .ok (.lload_n 0, 1) := by decide +kernel
theorem dX7_side_16 : decode cX7_side 16 = .ok (.lsub, 1) := by decide +kernel
theorem dX7_side_17 : decode cX7_side 17 = .ok (.lmul, 1) := by decide +kernel
theorem dX7_side_18 : decode cX7_side 18 = .ok (.lsub, 1) := by decide +kernel
theorem dX7_side_19 : decode cX7_side 19 = .ok (.lstore 12, 2) := by decide +kernel
theorem dX7_side_21 : decode cX7_side 21 = .ok (.lload 12, 2) := by decide +kernel
theorem dX7_side_23 : decode cX7_side 23 = .ok (.lconst 0, 1) := by decide +kernel
theorem dX7_side_24 : decode cX7_side 24 = .ok (.lcmp, 1) := by decide +kernel
theorem dX7_side_25 : decode cX7_side 25 = .ok (.ifCond .le 7, 3) := by decide +kernel
theorem dX7_side_28 : decode cX7_side 28 = .ok (.iconst 1, 1) := by decide +kernel
theorem dX7_side_29 : decode cX7_side 29 = .ok (.goto 15, 3) := by decide +kernel
theorem dX7_side_32 : decode cX7_side 32 = .ok (.lload 12, 2) := by decide +kernel
theorem dX7_side_34 : decode cX7_side 34 = .ok (.lconst 0, 1) := by decide +kernel
theorem dX7_side_35 : decode cX7_side 35 = .ok (.lcmp, 1) := by decide +kernel
theorem dX7_side_36 : decode cX7_side 36 = .ok (.ifCond .ge 7, 3) := by decide +kernel
theorem dX7_side_39 : decode cX7_side 39 = .ok (.iconst (-1), 1) := by decide +kernel
theorem dX7_side_40 : decode cX7_side 40 = .ok (.goto 4, 3) := by decide +kernel
theorem dX7_side_43 : decode cX7_side 43 = .ok (.iconst 0, 1) := by decide +kernel
theorem dX7_side_44 : decode cX7_side 44 = .ok (.ireturn, 1) := by decide +kernel
theorem dX7_isBetween_0 : decode cX7_isBetween 0 = .ok (.lload 4, 2) := by decide +kernel
theorem dX7_isBetween_2 : decode cX7_isBetween 2 = .ok (.lload_n 0, 1) := by decide +kernel
theorem dX7_isBetween_3 : decode cX7_isBetween 3 = .ok (.lload_n 2, 1) := by decide +kernel
theorem dX7_isBetween_4 : decode cX7_isBetween 4 = .ok (.invokestatic 157, 3) := by decide +kernel
theorem dX7_isBetween_7 : decode cX7_isBetween 7 = .ok (.lcmp, 1) := by decide +kernel
theorem dX7_isBetween_8 : decode cX7_isBetween 8 = .ok (.ifCond .lt 18, 3) := by decide +kernel
theorem dX7_isBetween_11 : decode cX7_isBetween 11 = .ok (.lload 4, 2) := by decide +kernel
theorem dX7_isBetween_13 : decode cX7_isBetween 13 = .ok (.lload_n 0, 1) := by decide +kernel
theorem dX7_isBetween_14 : decode cX7_isBetween 14 = .ok (.lload_n 2, 1) := by decide +kernel
theorem dX7_isBetween_15 : decode cX7_isBetween 15 = .ok (.invokestatic 142, 3) := by decide +kernel
theorem dX7_isBetween_18 : decode cX7_isBetween 18 = .ok (.lcmp, 1) := by decide +kernel
theorem dX7_isBetween_19 : decode cX7_isBetween 19 = .ok (.ifCond .gt 7, 3) := by decide +kernel
theorem dX7_isBetween_22 : decode cX7_isBetween 22 = .ok (.iconst 1, 1) := by decide +kernel
theorem dX7_isBetween_23 : decode cX7_isBetween 23 = .ok (.goto 4, 3) := by decide +kernel
theorem dX7_isBetween_26 : decode cX7_isBetween 26 = .ok (.iconst 0, 1) := by decide +kernel
theorem dX7_isBetween_27 : decode cX7_isBetween 27 = .ok (.ireturn, 1) := by decide +kernel
theorem dX7_isOn_0 : decode cX7_isOn 0 = .ok (.lload_n 0, 1) := by decide +kernel
theorem dX7_isOn_1 : decode cX7_isOn 1 = .ok (.lload_n 2, 1) := by decide +kernel
theorem dX7_isOn_2 : decode cX7_isOn 2 = .ok (.lload 4, 2) := by decide +kernel
theorem dX7_isOn_4 : decode cX7_isOn 4 = .ok (.lload 6, 2) := by decide +kernel
theorem dX7_isOn_6 : decode cX7_isOn 6 = .ok (.lload 8, 2) := by decide +kernel
theorem dX7_isOn_8 : decode cX7_isOn 8 = .ok (.lload 10, 2) := by decide +kernel
theorem dX7_isOn_10 : decode cX7_isOn 10 = .ok (.invokestatic 164, 3) := by decide +kernel
theorem dX7_isOn_13 : decode cX7_isOn 13 = .ok (.ifCond .ne 29, 3) := by decide +kernel
theorem dX7_isOn_16 : decode cX7_isOn 16 = .ok (.lload_n 0, 1) := by decide +kernel
theorem dX7_isOn_17 : decode cX7_isOn 17 = .ok (.lload 4, 2) := by decide +kernel
theorem dX7_isOn_19 : decode cX7_isOn 19 = .ok (.lload 8, 2) := by decide +kernel
theorem dX7_isOn_21 : decode cX7_isOn 21 = .ok (.invokestatic 168, 3) := by decide +kernel
theorem dX7_isOn_24 : decode cX7_isOn 24 = .ok (.ifCond .eq 18, 3) := by decide +kernel
theorem dX7_isOn_27 : decode cX7_isOn 27 = .ok (.lload_n 2, 1) := by decide +kernel
theorem dX7_isOn_28 : decode cX7_isOn 28 = .ok (.lload 6, 2) := by decide +kernel
theorem dX7_isOn_30 : decode cX7_isOn 30 = .ok (.lload 10, 2) := by decide +kernel
theorem dX7_isOn_32 : decode cX7_isOn 32 = .ok (.invokestatic 168, 3) := by decide +kernel
theorem dX7_isOn_35 : decode cX7_isOn 35 = .ok (.ifCond .eq 7, 3) := by decide +kernel
theorem dX7_isOn_38 : decode cX7_isOn 38 = .ok (.iconst 1, 1) := by decide +kernel
theorem dX7_isOn_39 : decode cX7_isOn 39 = .ok (.goto 4, 3) := by decide +kernel
theorem dX7_isOn_42 : decode cX7_isOn 42 = .ok (.iconst 0, 1) := by decide +kernel
theorem dX7_isOn_43 : decode cX7_isOn 43 = .ok (.ireturn, 1) := by decide +kernel
theorem dX7_layEnds_0 : decode cX7_layEnds 0 = .ok (.bipush 9, 2) := by decide +kernel
theorem dX7_layEnds_2 : decode cX7_layEnds 2 = .ok (.iload_n 2, 1) := by decide +kernel
theorem dX7_layEnds_3 : decode cX7_layEnds 3 = .ok (.imul, 1) := by decide +kernel
theorem dX7_layEnds_4 : decode cX7_layEnds 4 = .ok (.aload_n 0, 1) := by decide +kernel
theorem dX7_layEnds_5 : decode cX7_layEnds 5 = .ok (.getfield 22, 3) := by decide +kernel
theorem dX7_layEnds_8 : decode cX7_layEnds 8 = .ok (.bipush 8, 2) := by decide +kernel
theorem dX7_layEnds_10 : decode cX7_layEnds 10 = .ok (.iload_n 2, 1) := by decide +kernel
theorem dX7_layEnds_11 : decode cX7_layEnds 11 = .ok (.imul, 1) := by decide +kernel
theorem dX7_layEnds_12 : decode cX7_layEnds 12 = .ok (.iload_n 3, 1) := by decide +kernel
theorem dX7_layEnds_13 : decode cX7_layEnds 13 = .ok (.iadd, 1) := by decide +kernel
theorem dX7_layEnds_14 : decode cX7_layEnds 14 = .ok (.iaload, 1) := by decide +kernel
theorem dX7_layEnds_15 : decode cX7_layEnds 15 = .ok (.iadd, 1) := by decide +kernel
theorem dX7_layEnds_16 : decode cX7_layEnds 16 = .ok (.iconst 1, 1) := by decide +kernel
theorem dX7_layEnds_17 : decode cX7_layEnds 17 = .ok (.iadd, 1) := by decide +kernel
theorem dX7_layEnds_18 : decode cX7_layEnds 18 = .ok (.istore 6, 2) := by decide +kernel
theorem dX7_layEnds_20 : decode cX7_layEnds 20 = .ok (.bipush 9, 2) := by decide +kernel
theorem dX7_layEnds_22 : decode cX7_layEnds 22 = .ok (.iload_n 2, 1) := by decide +kernel
theorem dX7_layEnds_23 : decode cX7_layEnds 23 = .ok (.imul, 1) := by decide +kernel
theorem dX7_layEnds_24 : decode cX7_layEnds 24 = .ok (.iload_n 3, 1) := by decide +kernel
theorem dX7_layEnds_25 : decode cX7_layEnds 25 = .ok (.iadd, 1) := by decide +kernel
theorem dX7_layEnds_26 : decode cX7_layEnds 26 = .ok (.iconst 1, 1) := by decide +kernel
theorem dX7_layEnds_27 : decode cX7_layEnds 27 = .ok (.iadd, 1) := by decide +kernel
theorem dX7_layEnds_28 : decode cX7_layEnds 28 = .ok (.istore 7, 2) := by decide +kernel
theorem dX7_layEnds_30 : decode cX7_layEnds 30 = .ok (.aload_n 0, 1) := by decide +kernel
theorem dX7_layEnds_31 : decode cX7_layEnds 31 = .ok (.getfield 65, 3) := by decide +kernel
theorem dX7_layEnds_34 : decode cX7_layEnds 34 = .ok (.iload_n 1, 1) := by decide +kernel
theorem dX7_layEnds_35 : decode cX7_layEnds 35 = .ok (.aload_n 0, 1) := by decide +kernel
theorem dX7_layEnds_36 : decode cX7_layEnds 36 = .ok (.getfield 55, 3) := by decide +kernel
theorem dX7_layEnds_39 : decode cX7_layEnds 39 = .ok (.iload 6, 2) := by decide +kernel
theorem dX7_layEnds_41 : decode cX7_layEnds 41 = .ok (.laload, 1) := by decide +kernel
theorem dX7_layEnds_42 : decode cX7_layEnds 42 = .ok (.lload 4, 2) := by decide +kernel
theorem dX7_layEnds_44 : decode cX7_layEnds 44 = .ok (.lmul, 1) := by decide +kernel
theorem dX7_layEnds_45 : decode cX7_layEnds 45 = .ok (.lastore, 1) := by decide +kernel
theorem dX7_layEnds_46 : decode cX7_layEnds 46 = .ok (.aload_n 0, 1) := by decide +kernel
theorem dX7_layEnds_47 : decode cX7_layEnds 47 = .ok (.getfield 68, 3) := by decide +kernel
theorem dX7_layEnds_50 : decode cX7_layEnds 50 = .ok (.iload_n 1, 1) := by decide +kernel
theorem dX7_layEnds_51 : decode cX7_layEnds 51 = .ok (.aload_n 0, 1) := by decide +kernel
theorem dX7_layEnds_52 : decode cX7_layEnds 52 = .ok (.getfield 59, 3) := by decide +kernel
theorem dX7_layEnds_55 : decode cX7_layEnds 55 = .ok (.iload 6, 2) := by decide +kernel
theorem dX7_layEnds_57 : decode cX7_layEnds 57 = .ok (.laload, 1) := by decide +kernel
theorem dX7_layEnds_58 : decode cX7_layEnds 58 = .ok (.lload 4, 2) := by decide +kernel
theorem dX7_layEnds_60 : decode cX7_layEnds 60 = .ok (.lmul, 1) := by decide +kernel
theorem dX7_layEnds_61 : decode cX7_layEnds 61 = .ok (.lastore, 1) := by decide +kernel
theorem dX7_layEnds_62 : decode cX7_layEnds 62 = .ok (.aload_n 0, 1) := by decide +kernel
theorem dX7_layEnds_63 : decode cX7_layEnds 63 = .ok (.getfield 65, 3) := by decide +kernel
theorem dX7_layEnds_66 : decode cX7_layEnds 66 = .ok (.iload_n 1, 1) := by decide +kernel
theorem dX7_layEnds_67 : decode cX7_layEnds 67 = .ok (.iconst 1, 1) := by decide +kernel
theorem dX7_layEnds_68 : decode cX7_layEnds 68 = .ok (.iadd, 1) := by decide +kernel
theorem dX7_layEnds_69 : decode cX7_layEnds 69 = .ok (.aload_n 0, 1) := by decide +kernel
theorem dX7_layEnds_70 : decode cX7_layEnds 70 = .ok (.getfield 55, 3) := by decide +kernel
theorem dX7_layEnds_73 : decode cX7_layEnds 73 = .ok (.iload 7, 2) := by decide +kernel
theorem dX7_layEnds_75 : decode cX7_layEnds 75 = .ok (.laload, 1) := by decide +kernel
theorem dX7_layEnds_76 : decode cX7_layEnds 76 = .ok (.lload 4, 2) := by decide +kernel
end
section
theorem dX7_layEnds_78 : decode cX7_layEnds 78 = .ok (.lmul, 1) := by decide +kernel
theorem dX7_layEnds_79 : decode cX7_layEnds 79 = .ok (.lastore, 1) := by decide +kernel
theorem dX7_layEnds_80 : decode cX7_layEnds 80 = .ok (.aload_n 0, 1) := by decide +kernel
theorem dX7_layEnds_81 : decode cX7_layEnds 81 = .ok (.getfield 68, 3) := by decide +kernel
theorem dX7_layEnds_84 : decode cX7_layEnds 84 = .ok (.iload_n 1, 1) := by decide +kernel
theorem dX7_layEnds_85 : decode cX7_layEnds 85 = .ok (.iconst 1, 1) := by decide +kernel
theorem dX7_layEnds_86 : decode cX7_layEnds 86 = .ok (.iadd, 1) := by decide +kernel
theorem dX7_layEnds_87 : decode cX7_layEnds 87 = .ok (.aload_n 0, 1) := by decide +kernel
theorem dX7_layEnds_88 : decode cX7_layEnds 88 = .ok (.getfield 59, 3) := by decide +kernel
theorem dX7_layEnds_91 : decode cX7_layEnds 91 = .ok (.iload 7, 2) := by decide +kernel
theorem dX7_layEnds_93 : decode cX7_layEnds 93 = .ok (.laload, 1) := by decide +kernel
theorem dX7_layEnds_94 : decode cX7_layEnds 94 = .ok (.lload 4, 2) := by decide +kernel
theorem dX7_layEnds_96 : decode cX7_layEnds 96 = .ok (.lmul, 1) := by decide +kernel
theorem dX7_layEnds_97 : decode cX7_layEnds 97 = .ok (.lastore, 1) := by decide +kernel
theorem dX7_layEnds_98 : decode cX7_layEnds 98 = .ok (.return_, 1) := by decide +kernel
theorem dX7_sideOf_0 : decode cX7_sideOf 0 = .ok (.aload_n 0, 1) := by decide +kernel
theorem dX7_sideOf_1 : decode cX7_sideOf 1 = .ok (.getfield 65, 3) := by decide +kernel
theorem dX7_sideOf_4 : decode cX7_sideOf 4 = .ok (.iload_n 1, 1) := by decide +kernel
theorem dX7_sideOf_5 : decode cX7_sideOf 5 = .ok (.laload, 1) := by decide +kernel
theorem dX7_sideOf_6 : decode cX7_sideOf 6 = .ok (.aload_n 0, 1) := by decide +kernel
theorem dX7_sideOf_7 : decode cX7_sideOf 7 = .ok (.getfield 68, 3) := by decide +kernel
theorem dX7_sideOf_10 : decode cX7_sideOf 10 = .ok (.iload_n 1, 1) := by decide +kernel
theorem dX7_sideOf_11 : decode cX7_sideOf 11 = .ok (.laload, 1) := by decide +kernel
theorem dX7_sideOf_12 : decode cX7_sideOf 12 = .ok (.aload_n 0, 1) := by decide +kernel
theorem dX7_sideOf_13 : decode cX7_sideOf 13 = .ok (.getfield 65, 3) := by decide +kernel
theorem dX7_sideOf_16 : decode cX7_sideOf 16 = .ok (.iload_n 1, 1) := by decide +kernel
theorem dX7_sideOf_17 : decode cX7_sideOf 17 = .ok (.iconst 1, 1) := by decide +kernel
theorem dX7_sideOf_18 : decode cX7_sideOf 18 = .ok (.iadd, 1) := by decide +kernel
theorem dX7_sideOf_19 : decode cX7_sideOf 19 = .ok (.laload, 1) := by decide +kernel
theorem dX7_sideOf_20 : decode cX7_sideOf 20 = .ok (.aload_n 0, 1) := by decide +kernel
theorem dX7_sideOf_21 : decode cX7_sideOf 21 = .ok (.getfield 68, 3) := by decide +kernel
theorem dX7_sideOf_24 : decode cX7_sideOf 24 = .ok (.iload_n 1, 1) := by decide +kernel
theorem dX7_sideOf_25 : decode cX7_sideOf 25 = .ok (.iconst 1, 1) := by decide +kernel
theorem dX7_sideOf_26 : decode cX7_sideOf 26 = .ok (.iadd, 1) := by decide +kernel
theorem dX7_sideOf_27 : decode cX7_sideOf 27 = .ok (.laload, 1) := by decide +kernel
theorem dX7_sideOf_28 : decode cX7_sideOf 28 = .ok (.aload_n 0, 1) := by decide +kernel
theorem dX7_sideOf_29 : decode cX7_sideOf 29 = .ok (.getfield 65, 3) := by decide +kernel
theorem dX7_sideOf_32 : decode cX7_sideOf 32 = .ok (.iload_n 2, 1) := by decide +kernel
theorem dX7_sideOf_33 : decode cX7_sideOf 33 = .ok (.laload, 1) := by decide +kernel
theorem dX7_sideOf_34 : decode cX7_sideOf 34 = .ok (.aload_n 0, 1) := by decide +kernel
theorem dX7_sideOf_35 : decode cX7_sideOf 35 = .ok (.getfield 68, 3) := by decide +kernel
theorem dX7_sideOf_38 : decode cX7_sideOf 38 = .ok (.iload_n 2, 1) := by decide +kernel
theorem dX7_sideOf_39 : decode cX7_sideOf 39 = .ok (.laload, 1) := by decide +kernel
theorem dX7_sideOf_40 : decode cX7_sideOf 40 = .ok (.invokestatic 164, 3) := by decide +kernel
theorem dX7_sideOf_43 : decode cX7_sideOf 43 = .ok (.ireturn, 1) := by decide +kernel
theorem dX7_isOnSegment_0 : decode cX7_isOnSegment 0 = .ok (.aload_n 0, 1) := by decide +kernel
theorem dX7_isOnSegment_1 : decode cX7_isOnSegment 1 = .ok (.getfield 65, 3) := by decide +kernel
theorem dX7_isOnSegment_4 : decode cX7_isOnSegment 4 = .ok (.iload_n 1, 1) := by decide +kernel
theorem dX7_isOnSegment_5 : decode cX7_isOnSegment 5 = .ok (.laload, 1) := by decide +kernel
theorem dX7_isOnSegment_6 : decode cX7_isOnSegment 6 = .ok (.aload_n 0, 1) := by decide +kernel
theorem dX7_isOnSegment_7 : decode cX7_isOnSegment 7 = .ok (.getfield 68, 3) := by decide +kernel
theorem dX7_isOnSegment_10 : decode cX7_isOnSegment 10 = .ok (.iload_n 1, 1) := by decide +kernel
theorem dX7_isOnSegment_11 : decode cX7_isOnSegment 11 = .ok (.laload, 1) := by decide +kernel
theorem dX7_isOnSegment_12 : decode cX7_isOnSegment 12 = .ok (.aload_n 0, 1) := by decide +kernel
theorem dX7_isOnSegment_13 : decode cX7_isOnSegment 13 = .ok (.getfield 65, 3) := by decide +kernel
theorem dX7_isOnSegment_16 : decode cX7_isOnSegment 16 = .ok (.iload_n 1, 1) := by decide +kernel
theorem dX7_isOnSegment_17 : decode cX7_isOnSegment 17 = .ok (.iconst 1, 1) := by decide +kernel
theorem dX7_isOnSegment_18 : decode cX7_isOnSegment 18 = .ok (.iadd, 1) := by decide +kernel
theorem dX7_isOnSegment_19 : decode cX7_isOnSegment 19 = .ok (.laload, 1) := by decide +kernel
theorem dX7_isOnSegment_20 : decode cX7_isOnSegment 20 = .ok (.aload_n 0, 1) := by decide +kernel
theorem dX7_isOnSegment_21 : decode cX7_isOnSegment 21 = .ok (.getfield 68, 3) := by decide +kernel
theorem dX7_isOnSegment_24 : decode cX7_isOnSegment 24 = .ok (.iload_n 1, 1) := by decide +kernel
theorem dX7_isOnSegment_25 : decode cX7_isOnSegment 25 = .ok (.iconst 1, 1) := by decide +kernel
theorem dX7_isOnSegment_26 : decode cX7_isOnSegment 26 = .ok (.iadd, 1) := by decide +kernel
theorem dX7_isOnSegment_27 : decode cX7_isOnSegment 27 = .ok (.laload, 1) := by decide +kernel
theorem dX7_isOnSegment_28 : decode cX7_isOnSegment 28 = .ok (.aload_n 0, 1) := by decide +kernel
theorem dX7_isOnSegment_29 : decode cX7_isOnSegment 29 = .ok (.getfield 65, 3) := by decide +kernel
theorem dX7_isOnSegment_32 : decode cX7_isOnSegment 32 = .ok (.iload_n 2, 1) := by decide +kernel
theorem dX7_isOnSegment_33 : decode cX7_isOnSegment 33 = .ok (.laload, 1) := by decide +kernel
theorem dX7_isOnSegment_34 : decode cX7_isOnSegment 34 = .ok (.aload_n 0, 1) := by decide +kernel
theorem dX7_isOnSegment_35 : decode cX7_isOnSegment 35 = .ok (.getfield 68, 3) := by decide +kernel
theorem dX7_isOnSegment_38 : decode cX7_isOnSegment 38 = .ok (.iload_n 2, 1) := by decide +kernel
theorem dX7_isOnSegment_39 : decode cX7_isOnSegment 39 = .ok (.laload, 1) := by decide +kernel
theorem dX7_isOnSegment_40 : decode cX7_isOnSegment 40 = .ok (.invokestatic 172, 3) := by decide +kernel
theorem dX7_isOnSegment_43 : decode cX7_isOnSegment 43 = .ok (.ireturn, 1) := by decide +kernel
theorem dX7_doMeet_0 : decode cX7_doMeet 0 = .ok (.aload_n 0, 1) := by decide +kernel
theorem dX7_doMeet_1 : decode cX7_doMeet 1 = .ok (.iconst 0, 1) := by decide +kernel
theorem dX7_doMeet_2 : decode cX7_doMeet 2 = .ok (.iconst 2, 1) := by decide +kernel
theorem dX7_doMeet_3 : decode cX7_doMeet 3 = .ok (.invokevirtual 176, 3) := by decide +kernel
theorem dX7_doMeet_6 : decode cX7_doMeet 6 = .ok (.ifCond .ne 30, 3) := by decide +kernel
theorem dX7_doMeet_9 : decode cX7_doMeet 9 = .ok (.aload_n 0, 1) := by decide +kernel
theorem dX7_doMeet_10 : decode cX7_doMeet 10 = .ok (.iconst 0, 1) := by decide +kernel
theorem dX7_doMeet_11 : decode cX7_doMeet 11 = .ok (.iconst 3, 1) := by decide +kernel
theorem dX7_doMeet_12 : decode cX7_doMeet 12 = .ok (.invokevirtual 176, 3) := by decide +kernel
theorem dX7_doMeet_15 : decode cX7_doMeet 15 = .ok (.ifCond .ne 21, 3) := by decide +kernel
theorem dX7_doMeet_18 : decode cX7_doMeet 18 = .ok (.aload_n 0, 1) := by decide +kernel
theorem dX7_doMeet_19 : decode cX7_doMeet 19 = .ok (.iconst 2, 1) := by decide +kernel
theorem dX7_doMeet_20 : decode cX7_doMeet 20 = .ok (.iconst 0, 1) := by decide +kernel
theorem dX7_doMeet_21 : decode cX7_doMeet 21 = .ok (.invokevirtual 176, 3) := by decide +kernel
theorem dX7_doMeet_24 : decode cX7_doMeet 24 = .ok (.ifCond .ne 12, 3) := by decide +kernel
theorem dX7_doMeet_27 : decode cX7_doMeet 27 = .ok (.aload_n 0, 1) := by decide +kernel
theorem dX7_doMeet_28 : decode cX7_doMeet 28 = .ok (.iconst 2, 1) := by decide +kernel
theorem dX7_doMeet_29 : decode cX7_doMeet 29 = .ok (.iconst 1, 1) := by decide +kernel
theorem dX7_doMeet_30 : decode cX7_doMeet 30 = .ok (.invokevirtual 176, 3) := by decide +kernel
theorem dX7_doMeet_33 : decode cX7_doMeet 33 = .ok (.ifCond .eq 7, 3) := by decide +kernel
theorem dX7_doMeet_36 : decode cX7_doMeet 36 = .ok (.iconst 1, 1) := by decide +kernel
theorem dX7_doMeet_37 : decode cX7_doMeet 37 = .ok (.goto 4, 3) := by decide +kernel
theorem dX7_doMeet_40 : decode cX7_doMeet 40 = .ok (.iconst 0, 1) := by decide +kernel
theorem dX7_doMeet_41 : decode cX7_doMeet 41 = .ok (.istore_n 1, 1) := by decide +kernel
theorem dX7_doMeet_42 : decode cX7_doMeet 42 = .ok (.iload_n 1, 1) := by decide +kernel
theorem dX7_doMeet_43 : decode cX7_doMeet 43 = .ok (.ifCond .ne 35, 3) := by decide +kernel
theorem dX7_doMeet_46 : decode cX7_doMeet 46 = .ok (.aload_n 0, 1) := by decide +kernel
theorem dX7_doMeet_47 : decode cX7_doMeet 47 = .ok (.iconst 0, 1) := by decide +kernel
theorem dX7_doMeet_48 : decode cX7_doMeet 48 = .ok (.iconst 2, 1) := by decide +kernel
theorem dX7_doMeet_49 : decode cX7_doMeet 49 = .ok (.invokevirtual 179, 3) := by decide +kernel
theorem dX7_doMeet_52 : decode cX7_doMeet 52 = .ok (.aload_n 0, 1) := by decide +kernel
theorem dX7_doMeet_53 : decode cX7_doMeet 53 = .ok (.iconst 0, 1) := by decide +kernel
theorem dX7_doMeet_54 : decode cX7_doMeet 54 = .ok (.iconst 3, 1) := by decide +kernel
theorem dX7_doMeet_55 : decode cX7_doMeet 55 = .ok (.invokevirtual 179, 3) := by decide +kernel
theorem dX7_doMeet_58 : decode cX7_doMeet 58 = .ok (.imul, 1) := by decide +kernel
theorem dX7_doMeet_59 : decode cX7_doMeet 59 = .ok (.ifCond .ge 23, 3) := by decide +kernel
theorem dX7_doMeet_62 : decode cX7_doMeet 62 = .ok (.aload_n 0, 1) := by decide +kernel
theorem dX7_doMeet_63 : decode cX7_doMeet 63 = .ok (.iconst 2, 1) := by decide +kernel
theorem dX7_doMeet_64 : decode cX7_doMeet 64 = .ok (.iconst 0, 1) := by decide +kernel
theorem dX7_doMeet_65 : decode cX7_doMeet 65 = .ok (.invokevirtual 179, 3) := by decide +kernel
theorem dX7_doMeet_68 : decode cX7_doMeet 68 = .ok (.aload_n 0, 1) := by decide +kernel
theorem dX7_doMeet_69 : decode cX7_doMeet 69 = .ok (.iconst 2, 1) := by decide +kernel
theorem dX7_doMeet_70 : decode cX7_doMeet 70 = .ok (.iconst 1, 1) := by decide +kernel
theorem dX7_doMeet_71 : decode cX7_doMeet 71 = .ok (.invokevirtual 179, 3) := by decide +kernel
theorem dX7_doMeet_74 : decode cX7_doMeet 74 = .ok (.imul, 1) := by decide +kernel
theorem dX7_doMeet_75 : decode cX7_doMeet 75 = .ok (.ifCond .ge 7, 3) := by decide +kernel
theorem dX7_doMeet_78 : decode cX7_doMeet 78 = .ok (.iconst 1, 1) := by decide +kernel
theorem dX7_doMeet_79 : decode cX7_doMeet 79 = .ok (.goto 4, 3) := by decide +kernel
theorem dX7_doMeet_82 : decode cX7_doMeet 82 = .ok (.iconst 0, 1) := by decide +kernel
theorem dX7_doMeet_83 : decode cX7_doMeet 83 = .ok (.ireturn, 1) := by decide +kernel
theorem dX7_crossingsNow_0 : decode cX7_crossingsNow 0 = .ok (.iconst 0, 1) := by decide +kernel
theorem dX7_crossingsNow_1 : decode cX7_crossingsNow 1 = .ok (.istore_n 3, 1) := by decide +kernel
theorem dX7_crossingsNow_2 : decode cX7_crossingsNow 2 = .ok (.iconst 0, 1) := by decide +kernel
theorem dX7_crossingsNow_3 : decode cX7_crossingsNow 3 = .ok (.istore 4, 2) := by decide +kernel
theorem dX7_crossingsNow_5 : decode cX7_crossingsNow 5 = .ok (.iload 4, 2) := by decide +kernel
theorem dX7_crossingsNow_7 : decode cX7_crossingsNow 7 = .ok (.aload_n 0, 1) := by decide +kernel
theorem dX7_crossingsNow_8 : decode cX7_crossingsNow 8 = .ok (.getfield 19, 3) := by decide +kernel
theorem dX7_crossingsNow_11 : decode cX7_crossingsNow 11 = .ok (.iload_n 1, 1) := by decide +kernel
theorem dX7_crossingsNow_12 : decode cX7_crossingsNow 12 = .ok (.iaload, 1) := by decide +kernel
theorem dX7_crossingsNow_13 : decode cX7_crossingsNow 13 = .ok (.if_icmp .ge 74, 3) := by decide +kernel
theorem dX7_crossingsNow_16 : decode cX7_crossingsNow 16 = .ok (.iconst 0, 1) := by decide +kernel
theorem dX7_crossingsNow_17 : decode cX7_crossingsNow 17 = .ok (.istore 5, 2) := by decide +kernel
theorem dX7_crossingsNow_19 : decode cX7_crossingsNow 19 = .ok (.iload 5, 2) := by decide +kernel
theorem dX7_crossingsNow_21 : decode cX7_crossingsNow 21 = .ok (.aload_n 0, 1) := by decide +kernel
theorem dX7_crossingsNow_22 : decode cX7_crossingsNow 22 = .ok (.getfield 19, 3) := by decide +kernel
theorem dX7_crossingsNow_25 : decode cX7_crossingsNow 25 = .ok (.iload_n 2, 1) := by decide +kernel
theorem dX7_crossingsNow_26 : decode cX7_crossingsNow 26 = .ok (.iaload, 1) := by decide +kernel
theorem dX7_crossingsNow_27 : decode cX7_crossingsNow 27 = .ok (.if_icmp .ge 54, 3) := by decide +kernel
theorem dX7_crossingsNow_30 : decode cX7_crossingsNow 30 = .ok (.aload_n 0, 1) := by decide +kernel
theorem dX7_crossingsNow_31 : decode cX7_crossingsNow 31 = .ok (.iconst 0, 1) := by decide +kernel
theorem dX7_crossingsNow_32 : decode cX7_crossingsNow 32 = .ok (.iload_n 1, 1) := by decide +kernel
theorem dX7_crossingsNow_33 : decode cX7_crossingsNow 33 = .ok (.iload 4, 2) := by decide +kernel
theorem dX7_crossingsNow_35 : decode cX7_crossingsNow 35 = .ok (.aload_n 0, 1) := by decide +kernel
theorem dX7_crossingsNow_36 : decode cX7_crossingsNow 36 = .ok (.getfield 49, 3) := by decide +kernel
theorem dX7_crossingsNow_39 : decode cX7_crossingsNow 39 = .ok (.iload_n 2, 1) := by decide +kernel
theorem dX7_crossingsNow_40 : decode cX7_crossingsNow 40 = .ok (.iaload, 1) := by decide +kernel
theorem dX7_crossingsNow_41 : decode cX7_crossingsNow 41 = .ok (.i2l, 1) := by decide +kernel
theorem dX7_crossingsNow_42 : decode cX7_crossingsNow 42 = .ok (.invokevirtual 183, 3) := by decide +kernel
theorem dX7_crossingsNow_45 : decode cX7_crossingsNow 45 = .ok (.aload_n 0, 1) := by decide +kernel
theorem dX7_crossingsNow_46 : decode cX7_crossingsNow 46 = .ok (.iconst 2, 1) := by decide +kernel
theorem dX7_crossingsNow_47 : decode cX7_crossingsNow 47 = .ok (.iload_n 2, 1) := by decide +kernel
theorem dX7_crossingsNow_48 : decode cX7_crossingsNow 48 = .ok (.iload 5, 2) := by decide +kernel
theorem dX7_crossingsNow_50 : decode cX7_crossingsNow 50 = .ok (.aload_n 0, 1) := by decide +kernel
theorem dX7_crossingsNow_51 : decode cX7_crossingsNow 51 = .ok (.getfield 49, 3) := by decide +kernel
theorem dX7_crossingsNow_54 : decode cX7_crossingsNow 54 = .ok (.iload_n 1, 1) := by decide +kernel
theorem dX7_crossingsNow_55 : decode cX7_crossingsNow 55 = .ok (.iaload, 1) := by decide +kernel
theorem dX7_crossingsNow_56 : decode cX7_crossingsNow 56 = .ok (.i2l, 1) := by decide +kernel
theorem dX7_crossingsNow_57 : decode cX7_crossingsNow 57 = .ok (.invokevirtual 183, 3) := by decide +kernel
theorem dX7_crossingsNow_60 : decode cX7_crossingsNow 60 = .ok (.iload_n 3, 1) := by decide +kernel
theorem dX7_crossingsNow_61 : decode cX7_crossingsNow 61 = .ok (.aload_n 0, 1) := by decide +kernel
theorem dX7_crossingsNow_62 : decode cX7_crossingsNow 62 = .ok (.invokevirtual 187, 3) := by decide +kernel
theorem dX7_crossingsNow_65 : decode cX7_crossingsNow 65 = .ok (.ifCond .eq 7, 3) := by decide +kernel
theorem dX7_crossingsNow_68 : decode cX7_crossingsNow 68 = .ok (.iconst 1, 1) := by decide +kernel
theorem dX7_crossingsNow_69 : decode cX7_crossingsNow 69 = .ok (.goto 4, 3) := by decide +kernel
theorem dX7_crossingsNow_72 : decode cX7_crossingsNow 72 = .ok (.iconst 0, 1) := by decide +kernel
theorem dX7_crossingsNow_73 : decode cX7_crossingsNow 73 = .ok (.iadd, 1) := by decide +kernel
theorem dX7_crossingsNow_74 : decode cX7_crossingsNow 74 = .ok (.istore_n 3, 1) := by decide +kernel
theorem dX7_crossingsNow_75 : decode cX7_crossingsNow 75 = .ok (.iinc 5 1, 3) := by decide +kernel
theorem dX7_crossingsNow_78 : decode cX7_crossingsNow 78 = .ok (.goto (-59), 3) := by decide +kernel
theorem dX7_crossingsNow_81 : decode cX7_crossingsNow 81 = .ok (.iinc 4 1, 3) := by decide +kernel
theorem dX7_crossingsNow_84 : decode cX7_crossingsNow 84 = .ok (.goto (-79), 3) := by decide +kernel
theorem dX7_crossingsNow_87 : decode cX7_crossingsNow 87 = .ok (.iload_n 3, 1) := by decide +kernel
theorem dX7_crossingsNow_88 : decode cX7_crossingsNow 88 = .ok (.ireturn, 1) := by decide +kernel
theorem dX7_twoBarred_0 : decode cX7_twoBarred 0 = .ok (.aload_n 0, 1) := by decide +kernel
theorem dX7_twoBarred_1 : decode cX7_twoBarred 1 = .ok (.iload_n 1, 1) := by decide +kernel
theorem dX7_twoBarred_2 : decode cX7_twoBarred 2 = .ok (.invokevirtual 93, 3) := by decide +kernel
theorem dX7_twoBarred_5 : decode cX7_twoBarred 5 = .ok (.ifCond .ne 11, 3) := by decide +kernel
theorem dX7_twoBarred_8 : decode cX7_twoBarred 8 = .ok (.aload_n 0, 1) := by decide +kernel
theorem dX7_twoBarred_9 : decode cX7_twoBarred 9 = .ok (.iload_n 2, 1) := by decide +kernel
theorem dX7_twoBarred_10 : decode cX7_twoBarred 10 = .ok (.invokevirtual 93, 3) := by decide +kernel
theorem dX7_twoBarred_13 : decode cX7_twoBarred 13 = .ok (.ifCond .eq 7, 3) := by decide +kernel
theorem dX7_twoBarred_16 : decode cX7_twoBarred 16 = .ok (.iconst (-1), 1) := by decide +kernel
theorem dX7_twoBarred_17 : decode cX7_twoBarred 17 = .ok (.goto 21, 3) := by decide +kernel
theorem dX7_twoBarred_20 : decode cX7_twoBarred 20 = .ok (.iload_n 3, 1) := by decide +kernel
theorem dX7_twoBarred_21 : decode cX7_twoBarred 21 = .ok (.invokestatic 107, 3) := by decide +kernel
theorem dX7_twoBarred_24 : decode cX7_twoBarred 24 = .ok (.ifCond .eq 8, 3) := by decide +kernel
theorem dX7_twoBarred_27 : decode cX7_twoBarred 27 = .ok (.iload_n 1, 1) := by decide +kernel
theorem dX7_twoBarred_28 : decode cX7_twoBarred 28 = .ok (.iload_n 2, 1) := by decide +kernel
theorem dX7_twoBarred_29 : decode cX7_twoBarred 29 = .ok (.if_icmp .ne 8, 3) := by decide +kernel
theorem dX7_twoBarred_32 : decode cX7_twoBarred 32 = .ok (.bipush (-3), 2) := by decide +kernel
theorem dX7_twoBarred_34 : decode cX7_twoBarred 34 = .ok (.goto 4, 3) := by decide +kernel
theorem dX7_twoBarred_37 : decode cX7_twoBarred 37 = .ok (.iconst 0, 1) := by decide +kernel
theorem dX7_twoBarred_38 : decode cX7_twoBarred 38 = .ok (.ireturn, 1) := by decide +kernel
theorem dX7_crossings_0 : decode cX7_crossings 0 = .ok (.aload_n 0, 1) := by decide +kernel
theorem dX7_crossings_1 : decode cX7_crossings 1 = .ok (.iload_n 1, 1) := by decide +kernel
theorem dX7_crossings_2 : decode cX7_crossings 2 = .ok (.iload_n 2, 1) := by decide +kernel
theorem dX7_crossings_3 : decode cX7_crossings 3 = .ok (.iload_n 3, 1) := by decide +kernel
theorem dX7_crossings_4 : decode cX7_crossings 4 = .ok (.invokevirtual 191, 3) := by decide +kernel
theorem dX7_crossings_7 : decode cX7_crossings 7 = .ok (.istore 4, 2) := by decide +kernel
theorem dX7_crossings_9 : decode cX7_crossings 9 = .ok (.iload 4, 2) := by decide +kernel
theorem dX7_crossings_11 : decode cX7_crossings 11 = .ok (.ifCond .ge 6, 3) := by decide +kernel
theorem dX7_crossings_14 : decode cX7_crossings 14 = .ok (.iload 4, 2) := by decide +kernel
theorem dX7_crossings_16 : decode cX7_crossings 16 = .ok (.ireturn, 1) := by decide +kernel
theorem dX7_crossings_17 : decode cX7_crossings 17 = .ok (.aload_n 0, 1) := by decide +kernel
theorem dX7_crossings_18 : decode cX7_crossings 18 = .ok (.iload_n 3, 1) := by decide +kernel
theorem dX7_crossings_19 : decode cX7_crossings 19 = .ok (.invokevirtual 135, 3) := by decide +kernel
theorem dX7_crossings_22 : decode cX7_crossings 22 = .ok (.aload_n 0, 1) := by decide +kernel
theorem dX7_crossings_23 : decode cX7_crossings 23 = .ok (.iload_n 1, 1) := by decide +kernel
theorem dX7_crossings_24 : decode cX7_crossings 24 = .ok (.iload_n 2, 1) := by decide +kernel
theorem dX7_crossings_25 : decode cX7_crossings 25 = .ok (.invokevirtual 195, 3) := by decide +kernel
theorem dX7_crossings_28 : decode cX7_crossings 28 = .ok (.ireturn, 1) := by decide +kernel
theorem dX7_nextCrossing_0 : decode cX7_nextCrossing 0 = .ok (.aload_n 0, 1) := by decide +kernel
theorem dX7_nextCrossing_1 : decode cX7_nextCrossing 1 = .ok (.iload_n 1, 1) := by decide +kernel
theorem dX7_nextCrossing_2 : decode cX7_nextCrossing 2 = .ok (.iload_n 2, 1) := by decide +kernel
theorem dX7_nextCrossing_3 : decode cX7_nextCrossing 3 = .ok (.iload_n 3, 1) := by decide +kernel
theorem dX7_nextCrossing_4 : decode cX7_nextCrossing 4 = .ok (.invokevirtual 191, 3) := by decide +kernel
theorem dX7_nextCrossing_7 : decode cX7_nextCrossing 7 = .ok (.istore 4, 2) := by decide +kernel
theorem dX7_nextCrossing_9 : decode cX7_nextCrossing 9 = .ok (.iload 4, 2) := by decide +kernel
theorem dX7_nextCrossing_11 : decode cX7_nextCrossing 11 = .ok (.ifCond .ge 6, 3) := by decide +kernel
theorem dX7_nextCrossing_14 : decode cX7_nextCrossing 14 = .ok (.iload 4, 2) := by decide +kernel
theorem dX7_nextCrossing_16 : decode cX7_nextCrossing 16 = .ok (.ireturn, 1) := by decide +kernel
theorem dX7_nextCrossing_17 : decode cX7_nextCrossing 17 = .ok (.iload_n 3, 1) := by decide +kernel
theorem dX7_nextCrossing_18 : decode cX7_nextCrossing 18 = .ok (.istore 5, 2) := by decide +kernel
theorem dX7_nextCrossing_20 : decode cX7_nextCrossing 20 = .ok (.iload 5, 2) := by decide +kernel
theorem dX7_nextCrossing_22 : decode cX7_nextCrossing 22 = .ok (.bipush 100, 2) := by decide +kernel
theorem dX7_nextCrossing_24 : decode cX7_nextCrossing 24 = .ok (.if_icmp .ge 27, 3) := by decide +kernel
theorem dX7_nextCrossing_27 : decode cX7_nextCrossing 27 = .ok (.aload_n 0, 1) := by decide +kernel
theorem dX7_nextCrossing_28 : decode cX7_nextCrossing 28 = .ok (.iload 5, 2) := by decide +kernel
theorem dX7_nextCrossing_30 : decode cX7_nextCrossing 30 = .ok (.invokevirtual 135, 3) := by decide +kernel
theorem dX7_nextCrossing_33 : decode cX7_nextCrossing 33 = .ok (.aload_n 0, 1) := by decide +kernel
theorem dX7_nextCrossing_34 : decode cX7_nextCrossing 34 = .ok (.iload_n 1, 1) := by decide +kernel
theorem dX7_nextCrossing_35 : decode cX7_nextCrossing 35 = .ok (.iload_n 2, 1) := by decide +kernel
theorem dX7_nextCrossing_36 : decode cX7_nextCrossing 36 = .ok (.invokevirtual 195, 3) := by decide +kernel
theorem dX7_nextCrossing_39 : decode cX7_nextCrossing 39 = .ok (.ifCond .le 6, 3) := by decide +kernel
theorem dX7_nextCrossing_42 : decode cX7_nextCrossing 42 = .ok (.iload 5, 2) := by decide +kernel
theorem dX7_nextCrossing_44 : decode cX7_nextCrossing 44 = .ok (.ireturn, 1) := by decide +kernel
theorem dX7_nextCrossing_45 : decode cX7_nextCrossing 45 = .ok (.iinc 5 1, 3) := by decide +kernel
theorem dX7_nextCrossing_48 : decode cX7_nextCrossing 48 = .ok (.goto (-28), 3) := by decide +kernel
theorem dX7_nextCrossing_51 : decode cX7_nextCrossing 51 = .ok (.bipush (-5), 2) := by decide +kernel
theorem dX7_nextCrossing_53 : decode cX7_nextCrossing 53 = .ok (.ireturn, 1) := by decide +kernel
theorem dX7_isWithin_0 : decode cX7_isWithin 0 = .ok (.aload_n 0, 1) := by decide +kernel
theorem dX7_isWithin_1 : decode cX7_isWithin 1 = .ok (.iload_n 1, 1) := by decide +kernel
theorem dX7_isWithin_2 : decode cX7_isWithin 2 = .ok (.iconst 1, 1) := by decide +kernel
theorem dX7_isWithin_3 : decode cX7_isWithin 3 = .ok (.invokevirtual 149, 3) := by decide +kernel
theorem dX7_isWithin_6 : decode cX7_isWithin 6 = .ok (.aload_n 0, 1) := by decide +kernel
theorem dX7_isWithin_7 : decode cX7_isWithin 7 = .ok (.iload_n 1, 1) := by decide +kernel
theorem dX7_isWithin_8 : decode cX7_isWithin 8 = .ok (.iconst 0, 1) := by decide +kernel
theorem dX7_isWithin_9 : decode cX7_isWithin 9 = .ok (.invokevirtual 149, 3) := by decide +kernel
theorem dX7_isWithin_12 : decode cX7_isWithin 12 = .ok (.lneg, 1) := by decide +kernel
theorem dX7_isWithin_13 : decode cX7_isWithin 13 = .ok (.invokestatic 142, 3) := by decide +kernel
theorem dX7_isWithin_16 : decode cX7_isWithin 16 = .ok (.lstore 6, 2) := by decide +kernel
theorem dX7_isWithin_18 : decode cX7_isWithin 18 = .ok (.aload_n 0, 1) := by decide +kernel
theorem dX7_isWithin_19 : decode cX7_isWithin 19 = .ok (.iload_n 1, 1) := by decide +kernel
theorem dX7_isWithin_20 : decode cX7_isWithin 20 = .ok (.iconst 3, 1) := by decide +kernel
theorem dX7_isWithin_21 : decode cX7_isWithin 21 = .ok (.invokevirtual 149, 3) := by decide +kernel
theorem dX7_isWithin_24 : decode cX7_isWithin 24 = .ok (.aload_n 0, 1) := by decide +kernel
theorem dX7_isWithin_25 : decode cX7_isWithin 25 = .ok (.iload_n 1, 1) := by decide +kernel
theorem dX7_isWithin_26 : decode cX7_isWithin 26 = .ok (.iconst 2, 1) := by decide +kernel
theorem dX7_isWithin_27 : decode cX7_isWithin 27 = .ok (.invokevirtual 149, 3) := by decide +kernel
theorem dX7_isWithin_30 : decode cX7_isWithin 30 = .ok (.lneg, 1) := by decide +kernel
theorem dX7_isWithin_31 : decode cX7_isWithin 31 = .ok (.invokestatic 142, 3) := by decide +kernel
theorem dX7_isWithin_34 : decode cX7_isWithin 34 = .ok (.lstore 8, 2) := by decide +kernel
theorem dX7_isWithin_36 : decode cX7_isWithin 36 = .ok (.lload 6, 2) := by decide +kernel
theorem dX7_isWithin_38 : decode cX7_isWithin 38 = .ok (.aload_n 0, 1) := by decide +kernel
theorem dX7_isWithin_39 : decode cX7_isWithin 39 = .ok (.getfield 80, 3) := by decide +kernel
theorem dX7_isWithin_42 : decode cX7_isWithin 42 = .ok (.i2l, 1) := by decide +kernel
theorem dX7_isWithin_43 : decode cX7_isWithin 43 = .ok (.lmul, 1) := by decide +kernel
theorem dX7_isWithin_44 : decode cX7_isWithin 44 = .ok (.lload_n 2, 1) := by decide +kernel
theorem dX7_isWithin_45 : decode cX7_isWithin 45 = .ok (.aload_n 0, 1) := by decide +kernel
theorem dX7_isWithin_46 : decode cX7_isWithin 46 = .ok (.getfield 49, 3) := by decide +kernel
theorem dX7_isWithin_49 : decode cX7_isWithin 49 = .ok (.iload_n 1, 1) := by decide +kernel
theorem dX7_isWithin_50 : decode cX7_isWithin 50 = .ok (.iaload, 1) := by decide +kernel
theorem dX7_isWithin_51 : decode cX7_isWithin 51 = .ok (.i2l, 1) := by decide +kernel
theorem dX7_isWithin_52 : decode cX7_isWithin 52 = .ok (.lmul, 1) := by decide +kernel
theorem dX7_isWithin_53 : decode cX7_isWithin 53 = .ok (.lcmp, 1) := by decide +kernel
theorem dX7_isWithin_54 : decode cX7_isWithin 54 = .ok (.ifCond .gt 29, 3) := by decide +kernel
theorem dX7_isWithin_57 : decode cX7_isWithin 57 = .ok (.lload 8, 2) := by decide +kernel
theorem dX7_isWithin_59 : decode cX7_isWithin 59 = .ok (.aload_n 0, 1) := by decide +kernel
theorem dX7_isWithin_60 : decode cX7_isWithin 60 = .ok (.getfield 80, 3) := by decide +kernel
theorem dX7_isWithin_63 : decode cX7_isWithin 63 = .ok (.i2l, 1) := by decide +kernel
theorem dX7_isWithin_64 : decode cX7_isWithin 64 = .ok (.lmul, 1) := by decide +kernel
theorem dX7_isWithin_65 : decode cX7_isWithin 65 = .ok (.lload 4, 2) := by decide +kernel
theorem dX7_isWithin_67 : decode cX7_isWithin 67 = .ok (.aload_n 0, 1) := by decide +kernel
theorem dX7_isWithin_68 : decode cX7_isWithin 68 = .ok (.getfield 49, 3) := by decide +kernel
theorem dX7_isWithin_71 : decode cX7_isWithin 71 = .ok (.iload_n 1, 1) := by decide +kernel
theorem dX7_isWithin_72 : decode cX7_isWithin 72 = .ok (.iaload, 1) := by decide +kernel
theorem dX7_isWithin_73 : decode cX7_isWithin 73 = .ok (.i2l, 1) := by decide +kernel
theorem dX7_isWithin_74 : decode cX7_isWithin 74 = .ok (.lmul, 1) := by decide +kernel
theorem dX7_isWithin_75 : decode cX7_isWithin 75 = .ok (.lcmp, 1) := by decide +kernel
theorem dX7_isWithin_76 : decode cX7_isWithin 76 = .ok (.ifCond .gt 7, 3) := by decide +kernel
theorem dX7_isWithin_79 : decode cX7_isWithin 79 = .ok (.iconst 1, 1) := by decide +kernel
theorem dX7_isWithin_80 : decode cX7_isWithin 80 = .ok (.goto 4, 3) := by decide +kernel
theorem dX7_isWithin_83 : decode cX7_isWithin 83 = .ok (.iconst 0, 1) := by decide +kernel
theorem dX7_isWithin_84 : decode cX7_isWithin 84 = .ok (.ireturn, 1) := by decide +kernel
theorem dX7_within_0 : decode cX7_within 0 = .ok (.iload_n 1, 1) := by decide +kernel
theorem dX7_within_1 : decode cX7_within 1 = .ok (.iconst 0, 1) := by decide +kernel
theorem dX7_within_2 : decode cX7_within 2 = .ok (.sipush 20000, 3) := by decide +kernel
theorem dX7_within_5 : decode cX7_within 5 = .ok (.invokestatic 89, 3) := by decide +kernel
theorem dX7_within_8 : decode cX7_within 8 = .ok (.ifCond .eq 21, 3) := by decide +kernel
theorem dX7_within_11 : decode cX7_within 11 = .ok (.iload_n 2, 1) := by decide +kernel
theorem dX7_within_12 : decode cX7_within 12 = .ok (.iconst 0, 1) := by decide +kernel
theorem dX7_within_13 : decode cX7_within 13 = .ok (.sipush 20000, 3) := by decide +kernel
theorem dX7_within_16 : decode cX7_within 16 = .ok (.invokestatic 89, 3) := by decide +kernel
theorem dX7_within_19 : decode cX7_within 19 = .ok (.ifCond .eq 10, 3) := by decide +kernel
theorem dX7_within_22 : decode cX7_within 22 = .ok (.iload_n 3, 1) := by decide +kernel
theorem dX7_within_23 : decode cX7_within 23 = .ok (.invokestatic 107, 3) := by decide +kernel
theorem dX7_within_26 : decode cX7_within 26 = .ok (.ifCond .ne 6, 3) := by decide +kernel
theorem dX7_within_29 : decode cX7_within 29 = .ok (.bipush (-3), 2) := by decide +kernel
theorem dX7_within_31 : decode cX7_within 31 = .ok (.ireturn, 1) := by decide +kernel
theorem dX7_within_32 : decode cX7_within 32 = .ok (.aload_n 0, 1) := by decide +kernel
theorem dX7_within_33 : decode cX7_within 33 = .ok (.iload_n 3, 1) := by decide +kernel
theorem dX7_within_34 : decode cX7_within 34 = .ok (.invokevirtual 135, 3) := by decide +kernel
theorem dX7_within_37 : decode cX7_within 37 = .ok (.iconst 0, 1) := by decide +kernel
theorem dX7_within_38 : decode cX7_within 38 = .ok (.istore 4, 2) := by decide +kernel
theorem dX7_within_40 : decode cX7_within 40 = .ok (.iconst 0, 1) := by decide +kernel
theorem dX7_within_41 : decode cX7_within 41 = .ok (.istore 5, 2) := by decide +kernel
theorem dX7_within_43 : decode cX7_within 43 = .ok (.iload 5, 2) := by decide +kernel
theorem dX7_within_45 : decode cX7_within 45 = .ok (.aload_n 0, 1) := by decide +kernel
theorem dX7_within_46 : decode cX7_within 46 = .ok (.getfield 86, 3) := by decide +kernel
theorem dX7_within_49 : decode cX7_within 49 = .ok (.if_icmp .ge 35, 3) := by decide +kernel
theorem dX7_within_52 : decode cX7_within 52 = .ok (.iload 4, 2) := by decide +kernel
theorem dX7_within_54 : decode cX7_within 54 = .ok (.aload_n 0, 1) := by decide +kernel
theorem dX7_within_55 : decode cX7_within 55 = .ok (.iload 5, 2) := by decide +kernel
theorem dX7_within_57 : decode cX7_within 57 = .ok (.iload_n 1, 1) := by decide +kernel
theorem dX7_within_58 : decode cX7_within 58 = .ok (.i2l, 1) := by decide +kernel
theorem dX7_within_59 : decode cX7_within 59 = .ok (.iload_n 2, 1) := by decide +kernel
theorem dX7_within_60 : decode cX7_within 60 = .ok (.i2l, 1) := by decide +kernel
theorem dX7_within_61 : decode cX7_within 61 = .ok (.invokevirtual 198, 3) := by decide +kernel
theorem dX7_within_64 : decode cX7_within 64 = .ok (.ifCond .eq 10, 3) := by decide +kernel
theorem dX7_within_67 : decode cX7_within 67 = .ok (.iconst 1, 1) := by decide +kernel
theorem dX7_within_68 : decode cX7_within 68 = .ok (.iload 5, 2) := by decide +kernel
theorem dX7_within_70 : decode cX7_within 70 = .ok (.ishl, 1) := by decide +kernel
theorem dX7_within_71 : decode cX7_within 71 = .ok (.goto 4, 3) := by decide +kernel
theorem dX7_within_74 : decode cX7_within 74 = .ok (.iconst 0, 1) := by decide +kernel
theorem dX7_within_75 : decode cX7_within 75 = .ok (.ior, 1) := by decide +kernel
theorem dX7_within_76 : decode cX7_within 76 = .ok (.istore 4, 2) := by decide +kernel
theorem dX7_within_78 : decode cX7_within 78 = .ok (.iinc 5 1, 3) := by decide +kernel
theorem dX7_within_81 : decode cX7_within 81 = .ok (.goto (-38), 3) := by decide +kernel
theorem dX7_within_84 : decode cX7_within 84 = .ok (.iload 4, 2) := by decide +kernel
theorem dX7_within_86 : decode cX7_within 86 = .ok (.ireturn, 1) := by decide +kernel
theorem dX7_highest_0 : decode cX7_highest 0 = .ok (.iload_n 1, 1) := by decide +kernel
theorem dX7_highest_1 : decode cX7_highest 1 = .ok (.invokestatic 107, 3) := by decide +kernel
theorem dX7_highest_4 : decode cX7_highest 4 = .ok (.ifCond .ne 6, 3) := by decide +kernel
theorem dX7_highest_7 : decode cX7_highest 7 = .ok (.bipush (-3), 2) := by decide +kernel
theorem dX7_highest_9 : decode cX7_highest 9 = .ok (.ireturn, 1) := by decide +kernel
theorem dX7_highest_10 : decode cX7_highest 10 = .ok (.aload_n 0, 1) := by decide +kernel
theorem dX7_highest_11 : decode cX7_highest 11 = .ok (.iload_n 1, 1) := by decide +kernel
theorem dX7_highest_12 : decode cX7_highest 12 = .ok (.invokevirtual 135, 3) := by decide +kernel
theorem dX7_highest_15 : decode cX7_highest 15 = .ok (.bipush (-5), 2) := by decide +kernel
theorem dX7_highest_17 : decode cX7_highest 17 = .ok (.istore_n 2, 1) := by decide +kernel
theorem dX7_highest_18 : decode cX7_highest 18 = .ok (.iconst 0, 1) := by decide +kernel
theorem dX7_highest_19 : decode cX7_highest 19 = .ok (.istore_n 3, 1) := by decide +kernel
theorem dX7_highest_20 : decode cX7_highest 20 = .ok (.iload_n 3, 1) := by decide +kernel
theorem dX7_highest_21 : decode cX7_highest 21 = .ok (.aload_n 0, 1) := by decide +kernel
theorem dX7_highest_22 : decode cX7_highest 22 = .ok (.getfield 86, 3) := by decide +kernel
theorem dX7_highest_25 : decode cX7_highest 25 = .ok (.if_icmp .ge 63, 3) := by decide +kernel
theorem dX7_highest_28 : decode cX7_highest 28 = .ok (.iload_n 2, 1) := by decide +kernel
theorem dX7_highest_29 : decode cX7_highest 29 = .ok (.ifCond .lt 35, 3) := by decide +kernel
theorem dX7_highest_32 : decode cX7_highest 32 = .ok (.aload_n 0, 1) := by decide +kernel
theorem dX7_highest_33 : decode cX7_highest 33 = .ok (.iload_n 3, 1) := by decide +kernel
theorem dX7_highest_34 : decode cX7_highest 34 = .ok (.iconst 5, 1) := by decide +kernel
theorem dX7_highest_35 : decode cX7_highest 35 = .ok (.invokevirtual 149, 3) := by decide +kernel
theorem dX7_highest_38 : decode cX7_highest 38 = .ok (.aload_n 0, 1) := by decide +kernel
theorem dX7_highest_39 : decode cX7_highest 39 = .ok (.getfield 49, 3) := by decide +kernel
theorem dX7_highest_42 : decode cX7_highest 42 = .ok (.iload_n 2, 1) := by decide +kernel
theorem dX7_highest_43 : decode cX7_highest 43 = .ok (.iaload, 1) := by decide +kernel
theorem dX7_highest_44 : decode cX7_highest 44 = .ok (.i2l, 1) := by decide +kernel
theorem dX7_highest_45 : decode cX7_highest 45 = .ok (.lmul, 1) := by decide +kernel
theorem dX7_highest_46 : decode cX7_highest 46 = .ok (.aload_n 0, 1) := by decide +kernel
theorem dX7_highest_47 : decode cX7_highest 47 = .ok (.iload_n 2, 1) := by decide +kernel
theorem dX7_highest_48 : decode cX7_highest 48 = .ok (.iconst 5, 1) := by decide +kernel
theorem dX7_highest_49 : decode cX7_highest 49 = .ok (.invokevirtual 149, 3) := by decide +kernel
theorem dX7_highest_52 : decode cX7_highest 52 = .ok (.aload_n 0, 1) := by decide +kernel
theorem dX7_highest_53 : decode cX7_highest 53 = .ok (.getfield 49, 3) := by decide +kernel
theorem dX7_highest_56 : decode cX7_highest 56 = .ok (.iload_n 3, 1) := by decide +kernel
theorem dX7_highest_57 : decode cX7_highest 57 = .ok (.iaload, 1) := by decide +kernel
theorem dX7_highest_58 : decode cX7_highest 58 = .ok (.i2l, 1) := by decide +kernel
theorem dX7_highest_59 : decode cX7_highest 59 = .ok (.lmul, 1) := by decide +kernel
theorem dX7_highest_60 : decode cX7_highest 60 = .ok (.lcmp, 1) := by decide +kernel
theorem dX7_highest_61 : decode cX7_highest 61 = .ok (.ifCond .le 7, 3) := by decide +kernel
theorem dX7_highest_64 : decode cX7_highest 64 = .ok (.iconst 1, 1) := by decide +kernel
theorem dX7_highest_65 : decode cX7_highest 65 = .ok (.goto 4, 3) := by decide +kernel
theorem dX7_highest_68 : decode cX7_highest 68 = .ok (.iconst 0, 1) := by decide +kernel
theorem dX7_highest_69 : decode cX7_highest 69 = .ok (.istore 4, 2) := by decide +kernel
theorem dX7_highest_71 : decode cX7_highest 71 = .ok (.iload 4, 2) := by decide +kernel
theorem dX7_highest_73 : decode cX7_highest 73 = .ok (.ifCond .eq 7, 3) := by decide +kernel
theorem dX7_highest_76 : decode cX7_highest 76 = .ok (.iload_n 3, 1) := by decide +kernel
theorem dX7_highest_77 : decode cX7_highest 77 = .ok (.goto 4, 3) := by decide +kernel
theorem dX7_highest_80 : decode cX7_highest 80 = .ok (.iload_n 2, 1) := by decide +kernel
theorem dX7_highest_81 : decode cX7_highest 81 = .ok (.istore_n 2, 1) := by decide +kernel
theorem dX7_highest_82 : decode cX7_highest 82 = .ok (.iinc 3 1, 3) := by decide +kernel
theorem dX7_highest_85 : decode cX7_highest 85 = .ok (.goto (-65), 3) := by decide +kernel
theorem dX7_highest_88 : decode cX7_highest 88 = .ok (.iload_n 2, 1) := by decide +kernel
theorem dX7_highest_89 : decode cX7_highest 89 = .ok (.ireturn, 1) := by decide +kernel
theorem dX7_planeFor_0 : decode cX7_planeFor 0 = .ok (.aload_n 0, 1) := by decide +kernel
theorem dX7_planeFor_1 : decode cX7_planeFor 1 = .ok (.iload_n 1, 1) := by decide +kernel
theorem dX7_planeFor_2 : decode cX7_planeFor 2 = .ok (.invokevirtual 93, 3) := by decide +kernel
theorem dX7_planeFor_5 : decode cX7_planeFor 5 = .ok (.ifCond .eq 5, 3) := by decide +kernel
theorem dX7_planeFor_8 : decode cX7_planeFor 8 = .ok (.iconst (-1), 1) := by decide +kernel
theorem dX7_planeFor_9 : decode cX7_planeFor 9 = .ok (.ireturn, 1) := by decide +kernel
theorem dX7_planeFor_10 : decode cX7_planeFor 10 = .ok (.iload_n 2, 1) := by decide +kernel
theorem dX7_planeFor_11 : decode cX7_planeFor 11 = .ok (.invokestatic 107, 3) := by decide +kernel
theorem dX7_planeFor_14 : decode cX7_planeFor 14 = .ok (.ifCond .eq 13, 3) := by decide +kernel
theorem dX7_planeFor_17 : decode cX7_planeFor 17 = .ok (.iload_n 3, 1) := by decide +kernel
theorem dX7_planeFor_18 : decode cX7_planeFor 18 = .ok (.iconst 0, 1) := by decide +kernel
theorem dX7_planeFor_19 : decode cX7_planeFor 19 = .ok (.ldc 202, 2) := by decide +kernel
theorem dX7_planeFor_21 : decode cX7_planeFor 21 = .ok (.invokestatic 89, 3) := by decide +kernel
theorem dX7_planeFor_24 : decode cX7_planeFor 24 = .ok (.ifCond .ne 6, 3) := by decide +kernel
theorem dX7_planeFor_27 : decode cX7_planeFor 27 = .ok (.bipush (-3), 2) := by decide +kernel
theorem dX7_planeFor_29 : decode cX7_planeFor 29 = .ok (.ireturn, 1) := by decide +kernel
theorem dX7_planeFor_30 : decode cX7_planeFor 30 = .ok (.aload_n 0, 1) := by decide +kernel
theorem dX7_planeFor_31 : decode cX7_planeFor 31 = .ok (.iload_n 2, 1) := by decide +kernel
theorem dX7_planeFor_32 : decode cX7_planeFor 32 = .ok (.invokevirtual 135, 3) := by decide +kernel
theorem dX7_planeFor_35 : decode cX7_planeFor 35 = .ok (.aload_n 0, 1) := by decide +kernel
theorem dX7_planeFor_36 : decode cX7_planeFor 36 = .ok (.iload_n 1, 1) := by decide +kernel
theorem dX7_planeFor_37 : decode cX7_planeFor 37 = .ok (.iconst 5, 1) := by decide +kernel
theorem dX7_planeFor_38 : decode cX7_planeFor 38 = .ok (.invokevirtual 149, 3) := by decide +kernel
theorem dX7_planeFor_41 : decode cX7_planeFor 41 = .ok (.aload_n 0, 1) := by decide +kernel
theorem dX7_planeFor_42 : decode cX7_planeFor 42 = .ok (.getfield 80, 3) := by decide +kernel
theorem dX7_planeFor_45 : decode cX7_planeFor 45 = .ok (.i2l, 1) := by decide +kernel
theorem dX7_planeFor_46 : decode cX7_planeFor 46 = .ok (.lmul, 1) := by decide +kernel
theorem dX7_planeFor_47 : decode cX7_planeFor 47 = .ok (.lstore 4, 2) := by decide +kernel
theorem dX7_planeFor_49 : decode cX7_planeFor 49 = .ok (.aload_n 0, 1) := by decide +kernel
theorem dX7_planeFor_50 : decode cX7_planeFor 50 = .ok (.getfield 80, 3) := by decide +kernel
theorem dX7_planeFor_53 : decode cX7_planeFor 53 = .ok (.istore 6, 2) := by decide +kernel
theorem dX7_planeFor_55 : decode cX7_planeFor 55 = .ok (.iload 6, 2) := by decide +kernel
theorem dX7_planeFor_57 : decode cX7_planeFor 57 = .ok (.ifCond .le 24, 3) := by decide +kernel
theorem dX7_planeFor_60 : decode cX7_planeFor 60 = .ok (.lload 4, 2) := by decide +kernel
theorem dX7_planeFor_62 : decode cX7_planeFor 62 = .ok (.iload_n 3, 1) := by decide +kernel
theorem dX7_planeFor_63 : decode cX7_planeFor 63 = .ok (.i2l, 1) := by decide +kernel
theorem dX7_planeFor_64 : decode cX7_planeFor 64 = .ok (.iload 6, 2) := by decide +kernel
theorem dX7_planeFor_66 : decode cX7_planeFor 66 = .ok (.i2l, 1) := by decide +kernel
theorem dX7_planeFor_67 : decode cX7_planeFor 67 = .ok (.lmul, 1) := by decide +kernel
theorem dX7_planeFor_68 : decode cX7_planeFor 68 = .ok (.lcmp, 1) := by decide +kernel
theorem dX7_planeFor_69 : decode cX7_planeFor 69 = .ok (.ifCond .lt 6, 3) := by decide +kernel
theorem dX7_planeFor_72 : decode cX7_planeFor 72 = .ok (.iload 6, 2) := by decide +kernel
theorem dX7_planeFor_74 : decode cX7_planeFor 74 = .ok (.ireturn, 1) := by decide +kernel
theorem dX7_planeFor_75 : decode cX7_planeFor 75 = .ok (.iinc 6 (-1), 3) := by decide +kernel
theorem dX7_planeFor_78 : decode cX7_planeFor 78 = .ok (.goto (-23), 3) := by decide +kernel
theorem dX7_planeFor_81 : decode cX7_planeFor 81 = .ok (.bipush (-5), 2) := by decide +kernel
theorem dX7_planeFor_83 : decode cX7_planeFor 83 = .ok (.ireturn, 1) := by decide +kernel
theorem dX7_activeOf_0 : decode cX7_activeOf 0 = .ok (.iconst 0, 1) := by decide +kernel
theorem dX7_activeOf_1 : decode cX7_activeOf 1 = .ok (.istore_n 3, 1) := by decide +kernel
theorem dX7_activeOf_2 : decode cX7_activeOf 2 = .ok (.iconst 0, 1) := by decide +kernel
theorem dX7_activeOf_3 : decode cX7_activeOf 3 = .ok (.istore 4, 2) := by decide +kernel
theorem dX7_activeOf_5 : decode cX7_activeOf 5 = .ok (.iload 4, 2) := by decide +kernel
theorem dX7_activeOf_7 : decode cX7_activeOf 7 = .ok (.aload_n 0, 1) := by decide +kernel
theorem dX7_activeOf_8 : decode cX7_activeOf 8 = .ok (.getfield 101, 3) := by decide +kernel
theorem dX7_activeOf_11 : decode cX7_activeOf 11 = .ok (.if_icmp .ge 75, 3) := by decide +kernel
theorem dX7_activeOf_14 : decode cX7_activeOf 14 = .ok (.aload_n 0, 1) := by decide +kernel
theorem dX7_activeOf_15 : decode cX7_activeOf 15 = .ok (.getfield 31, 3) := by decide +kernel
theorem dX7_activeOf_18 : decode cX7_activeOf 18 = .ok (.iload 4, 2) := by decide +kernel
theorem dX7_activeOf_20 : decode cX7_activeOf 20 = .ok (.iaload, 1) := by decide +kernel
theorem dX7_activeOf_21 : decode cX7_activeOf 21 = .ok (.iload_n 2, 1) := by decide +kernel
theorem dX7_activeOf_22 : decode cX7_activeOf 22 = .ok (.if_icmp .ne 18, 3) := by decide +kernel
theorem dX7_activeOf_25 : decode cX7_activeOf 25 = .ok (.aload_n 0, 1) := by decide +kernel
theorem dX7_activeOf_26 : decode cX7_activeOf 26 = .ok (.getfield 34, 3) := by decide +kernel
theorem dX7_activeOf_29 : decode cX7_activeOf 29 = .ok (.iload 4, 2) := by decide +kernel
theorem dX7_activeOf_31 : decode cX7_activeOf 31 = .ok (.iaload, 1) := by decide +kernel
theorem dX7_activeOf_32 : decode cX7_activeOf 32 = .ok (.iload_n 1, 1) := by decide +kernel
theorem dX7_activeOf_33 : decode cX7_activeOf 33 = .ok (.if_icmp .ne 7, 3) := by decide +kernel
theorem dX7_activeOf_36 : decode cX7_activeOf 36 = .ok (.iconst 1, 1) := by decide +kernel
theorem dX7_activeOf_37 : decode cX7_activeOf 37 = .ok (.goto 4, 3) := by decide +kernel
theorem dX7_activeOf_40 : decode cX7_activeOf 40 = .ok (.iconst 0, 1) := by decide +kernel
theorem dX7_activeOf_41 : decode cX7_activeOf 41 = .ok (.istore 5, 2) := by decide +kernel
theorem dX7_activeOf_43 : decode cX7_activeOf 43 = .ok (.iload_n 3, 1) := by decide +kernel
theorem dX7_activeOf_44 : decode cX7_activeOf 44 = .ok (.iload 5, 2) := by decide +kernel
theorem dX7_activeOf_46 : decode cX7_activeOf 46 = .ok (.ifCond .ne 7, 3) := by decide +kernel
theorem dX7_activeOf_49 : decode cX7_activeOf 49 = .ok (.iconst 0, 1) := by decide +kernel
theorem dX7_activeOf_50 : decode cX7_activeOf 50 = .ok (.goto 28, 3) := by decide +kernel
theorem dX7_activeOf_53 : decode cX7_activeOf 53 = .ok (.aload_n 0, 1) := by decide +kernel
theorem dX7_activeOf_54 : decode cX7_activeOf 54 = .ok (.getfield 37, 3) := by decide +kernel
theorem dX7_activeOf_57 : decode cX7_activeOf 57 = .ok (.iload 4, 2) := by decide +kernel
theorem dX7_activeOf_59 : decode cX7_activeOf 59 = .ok (.iaload, 1) := by decide +kernel
theorem dX7_activeOf_60 : decode cX7_activeOf 60 = .ok (.ifCond .ge 9, 3) := by decide +kernel
theorem dX7_activeOf_63 : decode cX7_activeOf 63 = .ok (.sipush 256, 3) := by decide +kernel
theorem dX7_activeOf_66 : decode cX7_activeOf 66 = .ok (.goto 12, 3) := by decide +kernel
theorem dX7_activeOf_69 : decode cX7_activeOf 69 = .ok (.iconst 1, 1) := by decide +kernel
theorem dX7_activeOf_70 : decode cX7_activeOf 70 = .ok (.aload_n 0, 1) := by decide +kernel
theorem dX7_activeOf_71 : decode cX7_activeOf 71 = .ok (.getfield 37, 3) := by decide +kernel
theorem dX7_activeOf_74 : decode cX7_activeOf 74 = .ok (.iload 4, 2) := by decide +kernel
theorem dX7_activeOf_76 : decode cX7_activeOf 76 = .ok (.iaload, 1) := by decide +kernel
theorem dX7_activeOf_77 : decode cX7_activeOf 77 = .ok (.ishl, 1) := by decide +kernel
theorem dX7_activeOf_78 : decode cX7_activeOf 78 = .ok (.ior, 1) := by decide +kernel
theorem dX7_activeOf_79 : decode cX7_activeOf 79 = .ok (.istore_n 3, 1) := by decide +kernel
theorem dX7_activeOf_80 : decode cX7_activeOf 80 = .ok (.iinc 4 1, 3) := by decide +kernel
theorem dX7_activeOf_83 : decode cX7_activeOf 83 = .ok (.goto (-78), 3) := by decide +kernel
theorem dX7_activeOf_86 : decode cX7_activeOf 86 = .ok (.iload_n 3, 1) := by decide +kernel
theorem dX7_activeOf_87 : decode cX7_activeOf 87 = .ok (.ireturn, 1) := by decide +kernel
theorem dX7_bits_0 : decode cX7_bits 0 = .ok (.iconst 0, 1) := by decide +kernel
theorem dX7_bits_1 : decode cX7_bits 1 = .ok (.istore_n 1, 1) := by decide +kernel
theorem dX7_bits_2 : decode cX7_bits 2 = .ok (.iload_n 0, 1) := by decide +kernel
theorem dX7_bits_3 : decode cX7_bits 3 = .ok (.istore_n 2, 1) := by decide +kernel
theorem dX7_bits_4 : decode cX7_bits 4 = .ok (.iload_n 2, 1) := by decide +kernel
theorem dX7_bits_5 : decode cX7_bits 5 = .ok (.ifCond .le 16, 3) := by decide +kernel
theorem dX7_bits_8 : decode cX7_bits 8 = .ok (.iload_n 1, 1) := by decide +kernel
theorem dX7_bits_9 : decode cX7_bits 9 = .ok (.iload_n 2, 1) := by decide +kernel
theorem dX7_bits_10 : decode cX7_bits 10 = .ok (.iconst 1, 1) := by decide +kernel
theorem dX7_bits_11 : decode cX7_bits 11 = .ok (.iand, 1) := by decide +kernel
theorem dX7_bits_12 : decode cX7_bits 12 = .ok (.iadd, 1) := by decide +kernel
theorem dX7_bits_13 : decode cX7_bits 13 = .ok (.istore_n 1, 1) := by decide +kernel
theorem dX7_bits_14 : decode cX7_bits 14 = .ok (.iload_n 2, 1) := by decide +kernel
theorem dX7_bits_15 : decode cX7_bits 15 = .ok (.iconst 1, 1) := by decide +kernel
theorem dX7_bits_16 : decode cX7_bits 16 = .ok (.ishr, 1) := by decide +kernel
theorem dX7_bits_17 : decode cX7_bits 17 = .ok (.istore_n 2, 1) := by decide +kernel
theorem dX7_bits_18 : decode cX7_bits 18 = .ok (.goto (-14), 3) := by decide +kernel
theorem dX7_bits_21 : decode cX7_bits 21 = .ok (.iload_n 1, 1) := by decide +kernel
theorem dX7_bits_22 : decode cX7_bits 22 = .ok (.ireturn, 1) := by decide +kernel
theorem dX7_handsOf_0 : decode cX7_handsOf 0 = .ok (.aload_n 0, 1) := by decide +kernel
theorem dX7_handsOf_1 : decode cX7_handsOf 1 = .ok (.iload_n 1, 1) := by decide +kernel
theorem dX7_handsOf_2 : decode cX7_handsOf 2 = .ok (.iload_n 2, 1) := by decide +kernel
theorem dX7_handsOf_3 : decode cX7_handsOf 3 = .ok (.invokevirtual 203, 3) := by decide +kernel
theorem dX7_handsOf_6 : decode cX7_handsOf 6 = .ok (.istore_n 3, 1) := by decide +kernel
theorem dX7_handsOf_7 : decode cX7_handsOf 7 = .ok (.iload_n 3, 1) := by decide +kernel
theorem dX7_handsOf_8 : decode cX7_handsOf 8 = .ok (.istore 4, 2) := by decide +kernel
theorem dX7_handsOf_10 : decode cX7_handsOf 10 = .ok (.iconst 0, 1) := by decide +kernel
theorem dX7_handsOf_11 : decode cX7_handsOf 11 = .ok (.istore 5, 2) := by decide +kernel
theorem dX7_handsOf_13 : decode cX7_handsOf 13 = .ok (.aload_n 0, 1) := by decide +kernel
theorem dX7_handsOf_14 : decode cX7_handsOf 14 = .ok (.getfield 19, 3) := by decide +kernel
theorem dX7_handsOf_17 : decode cX7_handsOf 17 = .ok (.iload_n 1, 1) := by decide +kernel
theorem dX7_handsOf_18 : decode cX7_handsOf 18 = .ok (.iaload, 1) := by decide +kernel
theorem dX7_handsOf_19 : decode cX7_handsOf 19 = .ok (.iconst 1, 1) := by decide +kernel
theorem dX7_handsOf_20 : decode cX7_handsOf 20 = .ok (.isub, 1) := by decide +kernel
theorem dX7_handsOf_21 : decode cX7_handsOf 21 = .ok (.istore 6, 2) := by decide +kernel
theorem dX7_handsOf_23 : decode cX7_handsOf 23 = .ok (.iload 6, 2) := by decide +kernel
theorem dX7_handsOf_25 : decode cX7_handsOf 25 = .ok (.ifCond .lt 92, 3) := by decide +kernel
theorem dX7_handsOf_28 : decode cX7_handsOf 28 = .ok (.aload_n 0, 1) := by decide +kernel
theorem dX7_handsOf_29 : decode cX7_handsOf 29 = .ok (.getfield 22, 3) := by decide +kernel
theorem dX7_handsOf_32 : decode cX7_handsOf 32 = .ok (.bipush 8, 2) := by decide +kernel
theorem dX7_handsOf_34 : decode cX7_handsOf 34 = .ok (.iload_n 1, 1) := by decide +kernel
theorem dX7_handsOf_35 : decode cX7_handsOf 35 = .ok (.imul, 1) := by decide +kernel
theorem dX7_handsOf_36 : decode cX7_handsOf 36 = .ok (.iload 6, 2) := by decide +kernel
theorem dX7_handsOf_38 : decode cX7_handsOf 38 = .ok (.iadd, 1) := by decide +kernel
theorem dX7_handsOf_39 : decode cX7_handsOf 39 = .ok (.iaload, 1) := by decide +kernel
theorem dX7_handsOf_40 : decode cX7_handsOf 40 = .ok (.istore 7, 2) := by decide +kernel
theorem dX7_handsOf_42 : decode cX7_handsOf 42 = .ok (.iload 4, 2) := by decide +kernel
theorem dX7_handsOf_44 : decode cX7_handsOf 44 = .ok (.iload 6, 2) := by decide +kernel
theorem dX7_handsOf_46 : decode cX7_handsOf 46 = .ok (.ishr, 1) := by decide +kernel
theorem dX7_handsOf_47 : decode cX7_handsOf 47 = .ok (.iconst 1, 1) := by decide +kernel
theorem dX7_handsOf_48 : decode cX7_handsOf 48 = .ok (.iand, 1) := by decide +kernel
theorem dX7_handsOf_49 : decode cX7_handsOf 49 = .ok (.iconst 1, 1) := by decide +kernel
theorem dX7_handsOf_50 : decode cX7_handsOf 50 = .ok (.if_icmp .ne 23, 3) := by decide +kernel
theorem dX7_handsOf_53 : decode cX7_handsOf 53 = .ok (.iload 7, 2) := by decide +kernel
theorem dX7_handsOf_55 : decode cX7_handsOf 55 = .ok (.ifCond .lt 18, 3) := by decide +kernel
theorem dX7_handsOf_58 : decode cX7_handsOf 58 = .ok (.iload 4, 2) := by decide +kernel
theorem dX7_handsOf_60 : decode cX7_handsOf 60 = .ok (.iload 7, 2) := by decide +kernel
theorem dX7_handsOf_62 : decode cX7_handsOf 62 = .ok (.ishr, 1) := by decide +kernel
theorem dX7_handsOf_63 : decode cX7_handsOf 63 = .ok (.iconst 1, 1) := by decide +kernel
theorem dX7_handsOf_64 : decode cX7_handsOf 64 = .ok (.iand, 1) := by decide +kernel
theorem dX7_handsOf_65 : decode cX7_handsOf 65 = .ok (.iconst 1, 1) := by decide +kernel
theorem dX7_handsOf_66 : decode cX7_handsOf 66 = .ok (.if_icmp .ne 7, 3) := by decide +kernel
theorem dX7_handsOf_69 : decode cX7_handsOf 69 = .ok (.iconst 1, 1) := by decide +kernel
theorem dX7_handsOf_70 : decode cX7_handsOf 70 = .ok (.goto 4, 3) := by decide +kernel
theorem dX7_handsOf_73 : decode cX7_handsOf 73 = .ok (.iconst 0, 1) := by decide +kernel
theorem dX7_handsOf_74 : decode cX7_handsOf 74 = .ok (.istore 8, 2) := by decide +kernel
theorem dX7_handsOf_76 : decode cX7_handsOf 76 = .ok (.iload 4, 2) := by decide +kernel
theorem dX7_handsOf_78 : decode cX7_handsOf 78 = .ok (.iload 8, 2) := by decide +kernel
theorem dX7_handsOf_80 : decode cX7_handsOf 80 = .ok (.ifCond .eq 12, 3) := by decide +kernel
theorem dX7_handsOf_83 : decode cX7_handsOf 83 = .ok (.iconst 1, 1) := by decide +kernel
theorem dX7_handsOf_84 : decode cX7_handsOf 84 = .ok (.iload 7, 2) := by decide +kernel
theorem dX7_handsOf_86 : decode cX7_handsOf 86 = .ok (.ishl, 1) := by decide +kernel
theorem dX7_handsOf_87 : decode cX7_handsOf 87 = .ok (.iconst (-1), 1) := by decide +kernel
theorem dX7_handsOf_88 : decode cX7_handsOf 88 = .ok (.ixor, 1) := by decide +kernel
theorem dX7_handsOf_89 : decode cX7_handsOf 89 = .ok (.goto 4, 3) := by decide +kernel
theorem dX7_handsOf_92 : decode cX7_handsOf 92 = .ok (.iconst (-1), 1) := by decide +kernel
theorem dX7_handsOf_93 : decode cX7_handsOf 93 = .ok (.iand, 1) := by decide +kernel
theorem dX7_handsOf_94 : decode cX7_handsOf 94 = .ok (.istore 4, 2) := by decide +kernel
theorem dX7_handsOf_96 : decode cX7_handsOf 96 = .ok (.iload 5, 2) := by decide +kernel
theorem dX7_handsOf_98 : decode cX7_handsOf 98 = .ok (.iload 8, 2) := by decide +kernel
theorem dX7_handsOf_100 : decode cX7_handsOf 100 = .ok (.ifCond .eq 7, 3) := by decide +kernel
theorem dX7_handsOf_103 : decode cX7_handsOf 103 = .ok (.iconst 1, 1) := by decide +kernel
theorem dX7_handsOf_104 : decode cX7_handsOf 104 = .ok (.goto 4, 3) := by decide +kernel
theorem dX7_handsOf_107 : decode cX7_handsOf 107 = .ok (.iconst 0, 1) := by decide +kernel
theorem dX7_handsOf_108 : decode cX7_handsOf 108 = .ok (.iadd, 1) := by decide +kernel
theorem dX7_handsOf_109 : decode cX7_handsOf 109 = .ok (.istore 5, 2) := by decide +kernel
theorem dX7_handsOf_111 : decode cX7_handsOf 111 = .ok (.iinc 6 (-1), 3) := by decide +kernel
theorem dX7_handsOf_114 : decode cX7_handsOf 114 = .ok (.goto (-91), 3) := by decide +kernel
theorem dX7_handsOf_117 : decode cX7_handsOf 117 = .ok (.iload_n 3, 1) := by decide +kernel
theorem dX7_handsOf_118 : decode cX7_handsOf 118 = .ok (.invokestatic 206, 3) := by decide +kernel
theorem dX7_handsOf_121 : decode cX7_handsOf 121 = .ok (.iload 5, 2) := by decide +kernel
theorem dX7_handsOf_123 : decode cX7_handsOf 123 = .ok (.isub, 1) := by decide +kernel
theorem dX7_handsOf_124 : decode cX7_handsOf 124 = .ok (.ireturn, 1) := by decide +kernel
theorem dX7_handsIn_0 : decode cX7_handsIn 0 = .ok (.iconst 0, 1) := by decide +kernel
theorem dX7_handsIn_1 : decode cX7_handsIn 1 = .ok (.istore_n 2, 1) := by decide +kernel
theorem dX7_handsIn_2 : decode cX7_handsIn 2 = .ok (.iconst 0, 1) := by decide +kernel
theorem dX7_handsIn_3 : decode cX7_handsIn 3 = .ok (.istore_n 3, 1) := by decide +kernel
theorem dX7_handsIn_4 : decode cX7_handsIn 4 = .ok (.iload_n 3, 1) := by decide +kernel
theorem dX7_handsIn_5 : decode cX7_handsIn 5 = .ok (.aload_n 0, 1) := by decide +kernel
theorem dX7_handsIn_6 : decode cX7_handsIn 6 = .ok (.getfield 86, 3) := by decide +kernel
theorem dX7_handsIn_9 : decode cX7_handsIn 9 = .ok (.if_icmp .ge 18, 3) := by decide +kernel
theorem dX7_handsIn_12 : decode cX7_handsIn 12 = .ok (.iload_n 2, 1) := by decide +kernel
theorem dX7_handsIn_13 : decode cX7_handsIn 13 = .ok (.aload_n 0, 1) := by decide +kernel
theorem dX7_handsIn_14 : decode cX7_handsIn 14 = .ok (.iload_n 3, 1) := by decide +kernel
theorem dX7_handsIn_15 : decode cX7_handsIn 15 = .ok (.iload_n 1, 1) := by decide +kernel
theorem dX7_handsIn_16 : decode cX7_handsIn 16 = .ok (.invokevirtual 209, 3) := by decide +kernel
theorem dX7_handsIn_19 : decode cX7_handsIn 19 = .ok (.iadd, 1) := by decide +kernel
theorem dX7_handsIn_20 : decode cX7_handsIn 20 = .ok (.istore_n 2, 1) := by decide +kernel
theorem dX7_handsIn_21 : decode cX7_handsIn 21 = .ok (.iinc 3 1, 3) := by decide +kernel
theorem dX7_handsIn_24 : decode cX7_handsIn 24 = .ok (.goto (-20), 3) := by decide +kernel
theorem dX7_handsIn_27 : decode cX7_handsIn 27 = .ok (.iload_n 2, 1) := by decide +kernel
theorem dX7_handsIn_28 : decode cX7_handsIn 28 = .ok (.ireturn, 1) := by decide +kernel
theorem dX7_hands_0 : decode cX7_hands 0 = .ok (.iload_n 1, 1) := by decide +kernel
theorem dX7_hands_1 : decode cX7_hands 1 = .ok (.invokestatic 107, 3) := by decide +kernel
theorem dX7_hands_4 : decode cX7_hands 4 = .ok (.ifCond .eq 11, 3) := by decide +kernel
theorem dX7_hands_7 : decode cX7_hands 7 = .ok (.aload_n 0, 1) := by decide +kernel
theorem dX7_hands_8 : decode cX7_hands 8 = .ok (.iload_n 1, 1) := by decide +kernel
theorem dX7_hands_9 : decode cX7_hands 9 = .ok (.invokevirtual 212, 3) := by decide +kernel
theorem dX7_hands_12 : decode cX7_hands 12 = .ok (.goto 5, 3) := by decide +kernel
theorem dX7_hands_15 : decode cX7_hands 15 = .ok (.bipush (-3), 2) := by decide +kernel
theorem dX7_hands_17 : decode cX7_hands 17 = .ok (.ireturn, 1) := by decide +kernel
theorem dX7_busiestBeat_0 : decode cX7_busiestBeat 0 = .ok (.aload_n 0, 1) := by decide +kernel
theorem dX7_busiestBeat_1 : decode cX7_busiestBeat 1 = .ok (.getfield 101, 3) := by decide +kernel
theorem dX7_busiestBeat_4 : decode cX7_busiestBeat 4 = .ok (.ifCond .ne 6, 3) := by decide +kernel
theorem dX7_busiestBeat_7 : decode cX7_busiestBeat 7 = .ok (.bipush (-5), 2) := by decide +kernel
theorem dX7_busiestBeat_9 : decode cX7_busiestBeat 9 = .ok (.ireturn, 1) := by decide +kernel
theorem dX7_busiestBeat_10 : decode cX7_busiestBeat 10 = .ok (.iconst 0, 1) := by decide +kernel
theorem dX7_busiestBeat_11 : decode cX7_busiestBeat 11 = .ok (.istore_n 1, 1) := by decide +kernel
theorem dX7_busiestBeat_12 : decode cX7_busiestBeat 12 = .ok (.iconst 0, 1) := by decide +kernel
theorem dX7_busiestBeat_13 : decode cX7_busiestBeat 13 = .ok (.istore_n 2, 1) := by decide +kernel
theorem dX7_busiestBeat_14 : decode cX7_busiestBeat 14 = .ok (.iconst 0, 1) := by decide +kernel
theorem dX7_busiestBeat_15 : decode cX7_busiestBeat 15 = .ok (.istore_n 3, 1) := by decide +kernel
theorem dX7_busiestBeat_16 : decode cX7_busiestBeat 16 = .ok (.iload_n 3, 1) := by decide +kernel
theorem dX7_busiestBeat_17 : decode cX7_busiestBeat 17 = .ok (.bipush 100, 2) := by decide +kernel
theorem dX7_busiestBeat_19 : decode cX7_busiestBeat 19 = .ok (.if_icmp .ge 41, 3) := by decide +kernel
theorem dX7_busiestBeat_22 : decode cX7_busiestBeat 22 = .ok (.aload_n 0, 1) := by decide +kernel
theorem dX7_busiestBeat_23 : decode cX7_busiestBeat 23 = .ok (.iload_n 3, 1) := by decide +kernel
theorem dX7_busiestBeat_24 : decode cX7_busiestBeat 24 = .ok (.invokevirtual 212, 3) := by decide +kernel
theorem dX7_busiestBeat_27 : decode cX7_busiestBeat 27 = .ok (.istore 4, 2) := by decide +kernel
theorem dX7_busiestBeat_29 : decode cX7_busiestBeat 29 = .ok (.iload 4, 2) := by decide +kernel
theorem dX7_busiestBeat_31 : decode cX7_busiestBeat 31 = .ok (.iload_n 2, 1) := by decide +kernel
theorem dX7_busiestBeat_32 : decode cX7_busiestBeat 32 = .ok (.if_icmp .le 7, 3) := by decide +kernel
theorem dX7_busiestBeat_35 : decode cX7_busiestBeat 35 = .ok (.iload_n 3, 1) := by decide +kernel
theorem dX7_busiestBeat_36 : decode cX7_busiestBeat 36 = .ok (.goto 4, 3) := by decide +kernel
theorem dX7_busiestBeat_39 : decode cX7_busiestBeat 39 = .ok (.iload_n 1, 1) := by decide +kernel
theorem dX7_busiestBeat_40 : decode cX7_busiestBeat 40 = .ok (.istore_n 1, 1) := by decide +kernel
theorem dX7_busiestBeat_41 : decode cX7_busiestBeat 41 = .ok (.iload 4, 2) := by decide +kernel
theorem dX7_busiestBeat_43 : decode cX7_busiestBeat 43 = .ok (.iload_n 2, 1) := by decide +kernel
theorem dX7_busiestBeat_44 : decode cX7_busiestBeat 44 = .ok (.if_icmp .le 8, 3) := by decide +kernel
theorem dX7_busiestBeat_47 : decode cX7_busiestBeat 47 = .ok (.iload 4, 2) := by decide +kernel
theorem dX7_busiestBeat_49 : decode cX7_busiestBeat 49 = .ok (.goto 4, 3) := by decide +kernel
theorem dX7_busiestBeat_52 : decode cX7_busiestBeat 52 = .ok (.iload_n 2, 1) := by decide +kernel
theorem dX7_busiestBeat_53 : decode cX7_busiestBeat 53 = .ok (.istore_n 2, 1) := by decide +kernel
theorem dX7_busiestBeat_54 : decode cX7_busiestBeat 54 = .ok (.iinc 3 1, 3) := by decide +kernel
theorem dX7_busiestBeat_57 : decode cX7_busiestBeat 57 = .ok (.goto (-41), 3) := by decide +kernel
theorem dX7_busiestBeat_60 : decode cX7_busiestBeat 60 = .ok (.iload_n 1, 1) := by decide +kernel
theorem dX7_busiestBeat_61 : decode cX7_busiestBeat 61 = .ok (.ireturn, 1) := by decide +kernel
theorem dX7_activeRods_0 : decode cX7_activeRods 0 = .ok (.aload_n 0, 1) := by decide +kernel
theorem dX7_activeRods_1 : decode cX7_activeRods 1 = .ok (.iload_n 1, 1) := by decide +kernel
theorem dX7_activeRods_2 : decode cX7_activeRods 2 = .ok (.invokevirtual 93, 3) := by decide +kernel
theorem dX7_activeRods_5 : decode cX7_activeRods 5 = .ok (.ifCond .eq 5, 3) := by decide +kernel
theorem dX7_activeRods_8 : decode cX7_activeRods 8 = .ok (.iconst (-1), 1) := by decide +kernel
theorem dX7_activeRods_9 : decode cX7_activeRods 9 = .ok (.ireturn, 1) := by decide +kernel
theorem dX7_activeRods_10 : decode cX7_activeRods 10 = .ok (.iload_n 2, 1) := by decide +kernel
theorem dX7_activeRods_11 : decode cX7_activeRods 11 = .ok (.invokestatic 107, 3) := by decide +kernel
theorem dX7_activeRods_14 : decode cX7_activeRods 14 = .ok (.ifCond .eq 15, 3) := by decide +kernel
theorem dX7_activeRods_17 : decode cX7_activeRods 17 = .ok (.aload_n 0, 1) := by decide +kernel
theorem dX7_activeRods_18 : decode cX7_activeRods 18 = .ok (.iload_n 1, 1) := by decide +kernel
theorem dX7_activeRods_19 : decode cX7_activeRods 19 = .ok (.iload_n 2, 1) := by decide +kernel
theorem dX7_activeRods_20 : decode cX7_activeRods 20 = .ok (.invokevirtual 203, 3) := by decide +kernel
theorem dX7_activeRods_23 : decode cX7_activeRods 23 = .ok (.invokestatic 206, 3) := by decide +kernel
theorem dX7_activeRods_26 : decode cX7_activeRods 26 = .ok (.goto 5, 3) := by decide +kernel
theorem dX7_activeRods_29 : decode cX7_activeRods 29 = .ok (.bipush (-3), 2) := by decide +kernel
theorem dX7_activeRods_31 : decode cX7_activeRods 31 = .ok (.ireturn, 1) := by decide +kernel
theorem dX7_addScene_0 : decode cX7_addScene 0 = .ok (.iload_n 1, 1) := by decide +kernel
theorem dX7_addScene_1 : decode cX7_addScene 1 = .ok (.iconst 0, 1) := by decide +kernel
theorem dX7_addScene_2 : decode cX7_addScene 2 = .ok (.bipush 63, 2) := by decide +kernel
theorem dX7_addScene_4 : decode cX7_addScene 4 = .ok (.invokestatic 89, 3) := by decide +kernel
theorem dX7_addScene_7 : decode cX7_addScene 7 = .ok (.ifCond .ne 6, 3) := by decide +kernel
theorem dX7_addScene_10 : decode cX7_addScene 10 = .ok (.bipush (-3), 2) := by decide +kernel
theorem dX7_addScene_12 : decode cX7_addScene 12 = .ok (.ireturn, 1) := by decide +kernel
theorem dX7_addScene_13 : decode cX7_addScene 13 = .ok (.aload_n 0, 1) := by decide +kernel
theorem dX7_addScene_14 : decode cX7_addScene 14 = .ok (.getfield 104, 3) := by decide +kernel
theorem dX7_addScene_17 : decode cX7_addScene 17 = .ok (.bipush 8, 2) := by decide +kernel
theorem dX7_addScene_19 : decode cX7_addScene 19 = .ok (.if_icmp .ne 6, 3) := by decide +kernel
theorem dX7_addScene_22 : decode cX7_addScene 22 = .ok (.bipush (-4), 2) := by decide +kernel
theorem dX7_addScene_24 : decode cX7_addScene 24 = .ok (.ireturn, 1) := by decide +kernel
theorem dX7_addScene_25 : decode cX7_addScene 25 = .ok (.aload_n 0, 1) := by decide +kernel
theorem dX7_addScene_26 : decode cX7_addScene 26 = .ok (.getfield 71, 3) := by decide +kernel
theorem dX7_addScene_29 : decode cX7_addScene 29 = .ok (.aload_n 0, 1) := by decide +kernel
theorem dX7_addScene_30 : decode cX7_addScene 30 = .ok (.getfield 104, 3) := by decide +kernel
theorem dX7_addScene_33 : decode cX7_addScene 33 = .ok (.iload_n 1, 1) := by decide +kernel
theorem dX7_addScene_34 : decode cX7_addScene 34 = .ok (.iastore, 1) := by decide +kernel
theorem dX7_addScene_35 : decode cX7_addScene 35 = .ok (.aload_n 0, 1) := by decide +kernel
theorem dX7_addScene_36 : decode cX7_addScene 36 = .ok (.dup, 1) := by decide +kernel
theorem dX7_addScene_37 : decode cX7_addScene 37 = .ok (.getfield 104, 3) := by decide +kernel
theorem dX7_addScene_40 : decode cX7_addScene 40 = .ok (.iconst 1, 1) := by decide +kernel
theorem dX7_addScene_41 : decode cX7_addScene 41 = .ok (.iadd, 1) := by decide +kernel
theorem dX7_addScene_42 : decode cX7_addScene 42 = .ok (.putfield 104, 3) := by decide +kernel
theorem dX7_addScene_45 : decode cX7_addScene 45 = .ok (.aload_n 0, 1) := by decide +kernel
theorem dX7_addScene_46 : decode cX7_addScene 46 = .ok (.getfield 104, 3) := by decide +kernel
theorem dX7_addScene_49 : decode cX7_addScene 49 = .ok (.iconst 1, 1) := by decide +kernel
theorem dX7_addScene_50 : decode cX7_addScene 50 = .ok (.isub, 1) := by decide +kernel
theorem dX7_addScene_51 : decode cX7_addScene 51 = .ok (.ireturn, 1) := by decide +kernel
theorem dX7_clearScenes_0 : decode cX7_clearScenes 0 = .ok (.aload_n 0, 1) := by decide +kernel
theorem dX7_clearScenes_1 : decode cX7_clearScenes 1 = .ok (.getfield 104, 3) := by decide +kernel
theorem dX7_clearScenes_4 : decode cX7_clearScenes 4 = .ok (.istore_n 1, 1) := by decide +kernel
theorem dX7_clearScenes_5 : decode cX7_clearScenes 5 = .ok (.aload_n 0, 1) := by decide +kernel
theorem dX7_clearScenes_6 : decode cX7_clearScenes 6 = .ok (.iconst 0, 1) := by decide +kernel
theorem dX7_clearScenes_7 : decode cX7_clearScenes 7 = .ok (.putfield 104, 3) := by decide +kernel
theorem dX7_clearScenes_10 : decode cX7_clearScenes 10 = .ok (.iload_n 1, 1) := by decide +kernel
theorem dX7_clearScenes_11 : decode cX7_clearScenes 11 = .ok (.ireturn, 1) := by decide +kernel
theorem dX7_costNow_0 : decode cX7_costNow 0 = .ok (.iconst 0, 1) := by decide +kernel
theorem dX7_costNow_1 : decode cX7_costNow 1 = .ok (.istore_n 1, 1) := by decide +kernel
theorem dX7_costNow_2 : decode cX7_costNow 2 = .ok (.iconst 1, 1) := by decide +kernel
theorem dX7_costNow_3 : decode cX7_costNow 3 = .ok (.istore_n 2, 1) := by decide +kernel
theorem dX7_costNow_4 : decode cX7_costNow 4 = .ok (.iload_n 2, 1) := by decide +kernel
theorem dX7_costNow_5 : decode cX7_costNow 5 = .ok (.aload_n 0, 1) := by decide +kernel
theorem dX7_costNow_6 : decode cX7_costNow 6 = .ok (.getfield 104, 3) := by decide +kernel
theorem dX7_costNow_9 : decode cX7_costNow 9 = .ok (.if_icmp .ge 40, 3) := by decide +kernel
theorem dX7_costNow_12 : decode cX7_costNow 12 = .ok (.iload_n 1, 1) := by decide +kernel
theorem dX7_costNow_13 : decode cX7_costNow 13 = .ok (.aload_n 0, 1) := by decide +kernel
theorem dX7_costNow_14 : decode cX7_costNow 14 = .ok (.getfield 71, 3) := by decide +kernel
theorem dX7_costNow_17 : decode cX7_costNow 17 = .ok (.aload_n 0, 1) := by decide +kernel
theorem dX7_costNow_18 : decode cX7_costNow 18 = .ok (.getfield 74, 3) := by decide +kernel
theorem dX7_costNow_21 : decode cX7_costNow 21 = .ok (.iload_n 2, 1) := by decide +kernel
theorem dX7_costNow_22 : decode cX7_costNow 22 = .ok (.iconst 1, 1) := by decide +kernel
theorem dX7_costNow_23 : decode cX7_costNow 23 = .ok (.isub, 1) := by decide +kernel
theorem dX7_costNow_24 : decode cX7_costNow 24 = .ok (.iaload, 1) := by decide +kernel
theorem dX7_costNow_25 : decode cX7_costNow 25 = .ok (.iaload, 1) := by decide +kernel
theorem dX7_costNow_26 : decode cX7_costNow 26 = .ok (.aload_n 0, 1) := by decide +kernel
theorem dX7_costNow_27 : decode cX7_costNow 27 = .ok (.getfield 71, 3) := by decide +kernel
theorem dX7_costNow_30 : decode cX7_costNow 30 = .ok (.aload_n 0, 1) := by decide +kernel
theorem dX7_costNow_31 : decode cX7_costNow 31 = .ok (.getfield 74, 3) := by decide +kernel
theorem dX7_costNow_34 : decode cX7_costNow 34 = .ok (.iload_n 2, 1) := by decide +kernel
theorem dX7_costNow_35 : decode cX7_costNow 35 = .ok (.iaload, 1) := by decide +kernel
theorem dX7_costNow_36 : decode cX7_costNow 36 = .ok (.iaload, 1) := by decide +kernel
theorem dX7_costNow_37 : decode cX7_costNow 37 = .ok (.ixor, 1) := by decide +kernel
theorem dX7_costNow_38 : decode cX7_costNow 38 = .ok (.invokestatic 206, 3) := by decide +kernel
theorem dX7_costNow_41 : decode cX7_costNow 41 = .ok (.iadd, 1) := by decide +kernel
theorem dX7_costNow_42 : decode cX7_costNow 42 = .ok (.istore_n 1, 1) := by decide +kernel
theorem dX7_costNow_43 : decode cX7_costNow 43 = .ok (.iinc 2 1, 3) := by decide +kernel
theorem dX7_costNow_46 : decode cX7_costNow 46 = .ok (.goto (-42), 3) := by decide +kernel
theorem dX7_costNow_49 : decode cX7_costNow 49 = .ok (.iload_n 1, 1) := by decide +kernel
theorem dX7_costNow_50 : decode cX7_costNow 50 = .ok (.ireturn, 1) := by decide +kernel
theorem dX7_exchange_0 : decode cX7_exchange 0 = .ok (.aload_n 0, 1) := by decide +kernel
theorem dX7_exchange_1 : decode cX7_exchange 1 = .ok (.getfield 74, 3) := by decide +kernel
theorem dX7_exchange_4 : decode cX7_exchange 4 = .ok (.iload_n 1, 1) := by decide +kernel
theorem dX7_exchange_5 : decode cX7_exchange 5 = .ok (.iaload, 1) := by decide +kernel
theorem dX7_exchange_6 : decode cX7_exchange 6 = .ok (.istore_n 3, 1) := by decide +kernel
theorem dX7_exchange_7 : decode cX7_exchange 7 = .ok (.aload_n 0, 1) := by decide +kernel
theorem dX7_exchange_8 : decode cX7_exchange 8 = .ok (.getfield 74, 3) := by decide +kernel
theorem dX7_exchange_11 : decode cX7_exchange 11 = .ok (.iload_n 1, 1) := by decide +kernel
theorem dX7_exchange_12 : decode cX7_exchange 12 = .ok (.aload_n 0, 1) := by decide +kernel
theorem dX7_exchange_13 : decode cX7_exchange 13 = .ok (.getfield 74, 3) := by decide +kernel
theorem dX7_exchange_16 : decode cX7_exchange 16 = .ok (.iload_n 2, 1) := by decide +kernel
theorem dX7_exchange_17 : decode cX7_exchange 17 = .ok (.iaload, 1) := by decide +kernel
theorem dX7_exchange_18 : decode cX7_exchange 18 = .ok (.iastore, 1) := by decide +kernel
theorem dX7_exchange_19 : decode cX7_exchange 19 = .ok (.aload_n 0, 1) := by decide +kernel
theorem dX7_exchange_20 : decode cX7_exchange 20 = .ok (.getfield 74, 3) := by decide +kernel
theorem dX7_exchange_23 : decode cX7_exchange 23 = .ok (.iload_n 2, 1) := by decide +kernel
theorem dX7_exchange_24 : decode cX7_exchange 24 = .ok (.iload_n 3, 1) := by decide +kernel
theorem dX7_exchange_25 : decode cX7_exchange 25 = .ok (.iastore, 1) := by decide +kernel
theorem dX7_exchange_26 : decode cX7_exchange 26 = .ok (.return_, 1) := by decide +kernel
theorem dX7_nextOrder_0 : decode cX7_nextOrder 0 = .ok (.aload_n 0, 1) := by decide +kernel
theorem dX7_nextOrder_1 : decode cX7_nextOrder 1 = .ok (.getfield 104, 3) := by decide +kernel
theorem dX7_nextOrder_4 : decode cX7_nextOrder 4 = .ok (.iconst 2, 1) := by decide +kernel
theorem dX7_nextOrder_5 : decode cX7_nextOrder 5 = .ok (.isub, 1) := by decide +kernel
theorem dX7_nextOrder_6 : decode cX7_nextOrder 6 = .ok (.istore_n 1, 1) := by decide +kernel
theorem dX7_nextOrder_7 : decode cX7_nextOrder 7 = .ok (.iload_n 1, 1) := by decide +kernel
theorem dX7_nextOrder_8 : decode cX7_nextOrder 8 = .ok (.ifCond .le 26, 3) := by decide +kernel
theorem dX7_nextOrder_11 : decode cX7_nextOrder 11 = .ok (.aload_n 0, 1) := by decide +kernel
theorem dX7_nextOrder_12 : decode cX7_nextOrder 12 = .ok (.getfield 74, 3) := by decide +kernel
theorem dX7_nextOrder_15 : decode cX7_nextOrder 15 = .ok (.iload_n 1, 1) := by decide +kernel
theorem dX7_nextOrder_16 : decode cX7_nextOrder 16 = .ok (.iaload, 1) := by decide +kernel
theorem dX7_nextOrder_17 : decode cX7_nextOrder 17 = .ok (.aload_n 0, 1) := by decide +kernel
theorem dX7_nextOrder_18 : decode cX7_nextOrder 18 = .ok (.getfield 74, 3) := by decide +kernel
theorem dX7_nextOrder_21 : decode cX7_nextOrder 21 = .ok (.iload_n 1, 1) := by decide +kernel
theorem dX7_nextOrder_22 : decode cX7_nextOrder 22 = .ok (.iconst 1, 1) := by decide +kernel
theorem dX7_nextOrder_23 : decode cX7_nextOrder 23 = .ok (.iadd, 1) := by decide +kernel
theorem dX7_nextOrder_24 : decode cX7_nextOrder 24 = .ok (.iaload, 1) := by decide +kernel
theorem dX7_nextOrder_25 : decode cX7_nextOrder 25 = .ok (.if_icmp .le 9, 3) := by decide +kernel
theorem dX7_nextOrder_28 : decode cX7_nextOrder 28 = .ok (.iinc 1 (-1), 3) := by decide +kernel
theorem dX7_nextOrder_31 : decode cX7_nextOrder 31 = .ok (.goto (-24), 3) := by decide +kernel
theorem dX7_nextOrder_34 : decode cX7_nextOrder 34 = .ok (.iload_n 1, 1) := by decide +kernel
theorem dX7_nextOrder_35 : decode cX7_nextOrder 35 = .ok (.ifCond .gt 5, 3) := by decide +kernel
theorem dX7_nextOrder_38 : decode cX7_nextOrder 38 = .ok (.iconst 0, 1) := by decide +kernel
theorem dX7_nextOrder_39 : decode cX7_nextOrder 39 = .ok (.ireturn, 1) := by decide +kernel
theorem dX7_nextOrder_40 : decode cX7_nextOrder 40 = .ok (.aload_n 0, 1) := by decide +kernel
theorem dX7_nextOrder_41 : decode cX7_nextOrder 41 = .ok (.getfield 104, 3) := by decide +kernel
theorem dX7_nextOrder_44 : decode cX7_nextOrder 44 = .ok (.iconst 1, 1) := by decide +kernel
theorem dX7_nextOrder_45 : decode cX7_nextOrder 45 = .ok (.isub, 1) := by decide +kernel
theorem dX7_nextOrder_46 : decode cX7_nextOrder 46 = .ok (.istore_n 2, 1) := by decide +kernel
theorem dX7_nextOrder_47 : decode cX7_nextOrder 47 = .ok (.aload_n 0, 1) := by decide +kernel
theorem dX7_nextOrder_48 : decode cX7_nextOrder 48 = .ok (.getfield 74, 3) := by decide +kernel
theorem dX7_nextOrder_51 : decode cX7_nextOrder 51 = .ok (.iload_n 2, 1) := by decide +kernel
theorem dX7_nextOrder_52 : decode cX7_nextOrder 52 = .ok (.iaload, 1) := by decide +kernel
theorem dX7_nextOrder_53 : decode cX7_nextOrder 53 = .ok (.aload_n 0, 1) := by decide +kernel
theorem dX7_nextOrder_54 : decode cX7_nextOrder 54 = .ok (.getfield 74, 3) := by decide +kernel
theorem dX7_nextOrder_57 : decode cX7_nextOrder 57 = .ok (.iload_n 1, 1) := by decide +kernel
theorem dX7_nextOrder_58 : decode cX7_nextOrder 58 = .ok (.iaload, 1) := by decide +kernel
theorem dX7_nextOrder_59 : decode cX7_nextOrder 59 = .ok (.if_icmp .ge 9, 3) := by decide +kernel
theorem dX7_nextOrder_62 : decode cX7_nextOrder 62 = .ok (.iinc 2 (-1), 3) := by decide +kernel
theorem dX7_nextOrder_65 : decode cX7_nextOrder 65 = .ok (.goto (-18), 3) := by decide +kernel
theorem dX7_nextOrder_68 : decode cX7_nextOrder 68 = .ok (.aload_n 0, 1) := by decide +kernel
theorem dX7_nextOrder_69 : decode cX7_nextOrder 69 = .ok (.iload_n 1, 1) := by decide +kernel
theorem dX7_nextOrder_70 : decode cX7_nextOrder 70 = .ok (.iload_n 2, 1) := by decide +kernel
theorem dX7_nextOrder_71 : decode cX7_nextOrder 71 = .ok (.invokevirtual 215, 3) := by decide +kernel
theorem dX7_nextOrder_74 : decode cX7_nextOrder 74 = .ok (.iload_n 1, 1) := by decide +kernel
theorem dX7_nextOrder_75 : decode cX7_nextOrder 75 = .ok (.iconst 1, 1) := by decide +kernel
theorem dX7_nextOrder_76 : decode cX7_nextOrder 76 = .ok (.iadd, 1) := by decide +kernel
theorem dX7_nextOrder_77 : decode cX7_nextOrder 77 = .ok (.istore_n 3, 1) := by decide +kernel
theorem dX7_nextOrder_78 : decode cX7_nextOrder 78 = .ok (.aload_n 0, 1) := by decide +kernel
theorem dX7_nextOrder_79 : decode cX7_nextOrder 79 = .ok (.getfield 104, 3) := by decide +kernel
theorem dX7_nextOrder_82 : decode cX7_nextOrder 82 = .ok (.iconst 1, 1) := by decide +kernel
theorem dX7_nextOrder_83 : decode cX7_nextOrder 83 = .ok (.isub, 1) := by decide +kernel
theorem dX7_nextOrder_84 : decode cX7_nextOrder 84 = .ok (.istore 4, 2) := by decide +kernel
theorem dX7_nextOrder_86 : decode cX7_nextOrder 86 = .ok (.iload 4, 2) := by decide +kernel
theorem dX7_nextOrder_88 : decode cX7_nextOrder 88 = .ok (.iload_n 3, 1) := by decide +kernel
theorem dX7_nextOrder_89 : decode cX7_nextOrder 89 = .ok (.if_icmp .le 19, 3) := by decide +kernel
theorem dX7_nextOrder_92 : decode cX7_nextOrder 92 = .ok (.aload_n 0, 1) := by decide +kernel
theorem dX7_nextOrder_93 : decode cX7_nextOrder 93 = .ok (.iload_n 3, 1) := by decide +kernel
theorem dX7_nextOrder_94 : decode cX7_nextOrder 94 = .ok (.iload 4, 2) := by decide +kernel
theorem dX7_nextOrder_96 : decode cX7_nextOrder 96 = .ok (.invokevirtual 215, 3) := by decide +kernel
theorem dX7_nextOrder_99 : decode cX7_nextOrder 99 = .ok (.iinc 3 1, 3) := by decide +kernel
theorem dX7_nextOrder_102 : decode cX7_nextOrder 102 = .ok (.iinc 4 (-1), 3) := by decide +kernel
theorem dX7_nextOrder_105 : decode cX7_nextOrder 105 = .ok (.goto (-19), 3) := by decide +kernel
theorem dX7_nextOrder_108 : decode cX7_nextOrder 108 = .ok (.iconst 1, 1) := by decide +kernel
theorem dX7_nextOrder_109 : decode cX7_nextOrder 109 = .ok (.ireturn, 1) := by decide +kernel
theorem dX7_findOrder_0 : decode cX7_findOrder 0 = .ok (.iconst 0, 1) := by decide +kernel
theorem dX7_findOrder_1 : decode cX7_findOrder 1 = .ok (.istore_n 1, 1) := by decide +kernel
theorem dX7_findOrder_2 : decode cX7_findOrder 2 = .ok (.iload_n 1, 1) := by decide +kernel
theorem dX7_findOrder_3 : decode cX7_findOrder 3 = .ok (.aload_n 0, 1) := by decide +kernel
theorem dX7_findOrder_4 : decode cX7_findOrder 4 = .ok (.getfield 104, 3) := by decide +kernel
theorem dX7_findOrder_7 : decode cX7_findOrder 7 = .ok (.if_icmp .ge 16, 3) := by decide +kernel
theorem dX7_findOrder_10 : decode cX7_findOrder 10 = .ok (.aload_n 0, 1) := by decide +kernel
theorem dX7_findOrder_11 : decode cX7_findOrder 11 = .ok (.getfield 74, 3) := by decide +kernel
theorem dX7_findOrder_14 : decode cX7_findOrder 14 = .ok (.iload_n 1, 1) := by decide +kernel
theorem dX7_findOrder_15 : decode cX7_findOrder 15 = .ok (.iload_n 1, 1) := by decide +kernel
theorem dX7_findOrder_16 : decode cX7_findOrder 16 = .ok (.iastore, 1) := by decide +kernel
theorem dX7_findOrder_17 : decode cX7_findOrder 17 = .ok (.iinc 1 1, 3) := by decide +kernel
theorem dX7_findOrder_20 : decode cX7_findOrder 20 = .ok (.goto (-18), 3) := by decide +kernel
theorem dX7_findOrder_23 : decode cX7_findOrder 23 = .ok (.iconst (-1), 1) := by decide +kernel
theorem dX7_findOrder_24 : decode cX7_findOrder 24 = .ok (.istore_n 1, 1) := by decide +kernel
theorem dX7_findOrder_25 : decode cX7_findOrder 25 = .ok (.iconst 1, 1) := by decide +kernel
theorem dX7_findOrder_26 : decode cX7_findOrder 26 = .ok (.istore_n 2, 1) := by decide +kernel
theorem dX7_findOrder_27 : decode cX7_findOrder 27 = .ok (.iload_n 2, 1) := by decide +kernel
theorem dX7_findOrder_28 : decode cX7_findOrder 28 = .ok (.ifCond .eq 90, 3) := by decide +kernel
theorem dX7_findOrder_31 : decode cX7_findOrder 31 = .ok (.aload_n 0, 1) := by decide +kernel
theorem dX7_findOrder_32 : decode cX7_findOrder 32 = .ok (.invokevirtual 219, 3) := by decide +kernel
theorem dX7_findOrder_35 : decode cX7_findOrder 35 = .ok (.istore_n 3, 1) := by decide +kernel
theorem dX7_findOrder_36 : decode cX7_findOrder 36 = .ok (.iload_n 1, 1) := by decide +kernel
theorem dX7_findOrder_37 : decode cX7_findOrder 37 = .ok (.ifCond .lt 8, 3) := by decide +kernel
theorem dX7_findOrder_40 : decode cX7_findOrder 40 = .ok (.iload_n 3, 1) := by decide +kernel
theorem dX7_findOrder_41 : decode cX7_findOrder 41 = .ok (.iload_n 1, 1) := by decide +kernel
theorem dX7_findOrder_42 : decode cX7_findOrder 42 = .ok (.if_icmp .ge 7, 3) := by decide +kernel
theorem dX7_findOrder_45 : decode cX7_findOrder 45 = .ok (.iconst 1, 1) := by decide +kernel
theorem dX7_findOrder_46 : decode cX7_findOrder 46 = .ok (.goto 4, 3) := by decide +kernel
theorem dX7_findOrder_49 : decode cX7_findOrder 49 = .ok (.iconst 0, 1) := by decide +kernel
theorem dX7_findOrder_50 : decode cX7_findOrder 50 = .ok (.istore 4, 2) := by decide +kernel
theorem dX7_findOrder_52 : decode cX7_findOrder 52 = .ok (.iconst 0, 1) := by decide +kernel
theorem dX7_findOrder_53 : decode cX7_findOrder 53 = .ok (.istore 5, 2) := by decide +kernel
theorem dX7_findOrder_55 : decode cX7_findOrder 55 = .ok (.iload 5, 2) := by decide +kernel
theorem dX7_findOrder_57 : decode cX7_findOrder 57 = .ok (.aload_n 0, 1) := by decide +kernel
theorem dX7_findOrder_58 : decode cX7_findOrder 58 = .ok (.getfield 104, 3) := by decide +kernel
theorem dX7_findOrder_61 : decode cX7_findOrder 61 = .ok (.if_icmp .ge 38, 3) := by decide +kernel
theorem dX7_findOrder_64 : decode cX7_findOrder 64 = .ok (.aload_n 0, 1) := by decide +kernel
theorem dX7_findOrder_65 : decode cX7_findOrder 65 = .ok (.getfield 77, 3) := by decide +kernel
theorem dX7_findOrder_68 : decode cX7_findOrder 68 = .ok (.iload 5, 2) := by decide +kernel
theorem dX7_findOrder_70 : decode cX7_findOrder 70 = .ok (.iload 4, 2) := by decide +kernel
theorem dX7_findOrder_72 : decode cX7_findOrder 72 = .ok (.ifCond .eq 13, 3) := by decide +kernel
theorem dX7_findOrder_75 : decode cX7_findOrder 75 = .ok (.aload_n 0, 1) := by decide +kernel
theorem dX7_findOrder_76 : decode cX7_findOrder 76 = .ok (.getfield 74, 3) := by decide +kernel
theorem dX7_findOrder_79 : decode cX7_findOrder 79 = .ok (.iload 5, 2) := by decide +kernel
theorem dX7_findOrder_81 : decode cX7_findOrder 81 = .ok (.iaload, 1) := by decide +kernel
theorem dX7_findOrder_82 : decode cX7_findOrder 82 = .ok (.goto 10, 3) := by decide +kernel
theorem dX7_findOrder_85 : decode cX7_findOrder 85 = .ok (.aload_n 0, 1) := by decide +kernel
theorem dX7_findOrder_86 : decode cX7_findOrder 86 = .ok (.getfield 77, 3) := by decide +kernel
theorem dX7_findOrder_89 : decode cX7_findOrder 89 = .ok (.iload 5, 2) := by decide +kernel
theorem dX7_findOrder_91 : decode cX7_findOrder 91 = .ok (.iaload, 1) := by decide +kernel
theorem dX7_findOrder_92 : decode cX7_findOrder 92 = .ok (.iastore, 1) := by decide +kernel
theorem dX7_findOrder_93 : decode cX7_findOrder 93 = .ok (.iinc 5 1, 3) := by decide +kernel
theorem dX7_findOrder_96 : decode cX7_findOrder 96 = .ok (.goto (-41), 3) := by decide +kernel
theorem dX7_findOrder_99 : decode cX7_findOrder 99 = .ok (.iload 4, 2) := by decide +kernel
theorem dX7_findOrder_101 : decode cX7_findOrder 101 = .ok (.ifCond .eq 7, 3) := by decide +kernel
theorem dX7_findOrder_104 : decode cX7_findOrder 104 = .ok (.iload_n 3, 1) := by decide +kernel
theorem dX7_findOrder_105 : decode cX7_findOrder 105 = .ok (.goto 4, 3) := by decide +kernel
theorem dX7_findOrder_108 : decode cX7_findOrder 108 = .ok (.iload_n 1, 1) := by decide +kernel
theorem dX7_findOrder_109 : decode cX7_findOrder 109 = .ok (.istore_n 1, 1) := by decide +kernel
theorem dX7_findOrder_110 : decode cX7_findOrder 110 = .ok (.aload_n 0, 1) := by decide +kernel
theorem dX7_findOrder_111 : decode cX7_findOrder 111 = .ok (.invokevirtual 223, 3) := by decide +kernel
theorem dX7_findOrder_114 : decode cX7_findOrder 114 = .ok (.istore_n 2, 1) := by decide +kernel
theorem dX7_findOrder_115 : decode cX7_findOrder 115 = .ok (.goto (-88), 3) := by decide +kernel
theorem dX7_findOrder_118 : decode cX7_findOrder 118 = .ok (.iload_n 1, 1) := by decide +kernel
theorem dX7_findOrder_119 : decode cX7_findOrder 119 = .ok (.ireturn, 1) := by decide +kernel
theorem dX7_bestScene_0 : decode cX7_bestScene 0 = .ok (.iload_n 1, 1) := by decide +kernel
theorem dX7_bestScene_1 : decode cX7_bestScene 1 = .ok (.ifCond .ge 6, 3) := by decide +kernel
theorem dX7_bestScene_4 : decode cX7_bestScene 4 = .ok (.bipush (-3), 2) := by decide +kernel
theorem dX7_bestScene_6 : decode cX7_bestScene 6 = .ok (.ireturn, 1) := by decide +kernel
theorem dX7_bestScene_7 : decode cX7_bestScene 7 = .ok (.aload_n 0, 1) := by decide +kernel
theorem dX7_bestScene_8 : decode cX7_bestScene 8 = .ok (.invokevirtual 226, 3) := by decide +kernel
theorem dX7_bestScene_11 : decode cX7_bestScene 11 = .ok (.pop, 1) := by decide +kernel
theorem dX7_bestScene_12 : decode cX7_bestScene 12 = .ok (.iload_n 1, 1) := by decide +kernel
theorem dX7_bestScene_13 : decode cX7_bestScene 13 = .ok (.aload_n 0, 1) := by decide +kernel
theorem dX7_bestScene_14 : decode cX7_bestScene 14 = .ok (.getfield 104, 3) := by decide +kernel
theorem dX7_bestScene_17 : decode cX7_bestScene 17 = .ok (.if_icmp .ge 12, 3) := by decide +kernel
theorem dX7_bestScene_20 : decode cX7_bestScene 20 = .ok (.aload_n 0, 1) := by decide +kernel
theorem dX7_bestScene_21 : decode cX7_bestScene 21 = .ok (.getfield 77, 3) := by decide +kernel
theorem dX7_bestScene_24 : decode cX7_bestScene 24 = .ok (.iload_n 1, 1) := by decide +kernel
theorem dX7_bestScene_25 : decode cX7_bestScene 25 = .ok (.iaload, 1) := by decide +kernel
theorem dX7_bestScene_26 : decode cX7_bestScene 26 = .ok (.goto 5, 3) := by decide +kernel
theorem dX7_bestScene_29 : decode cX7_bestScene 29 = .ok (.bipush (-5), 2) := by decide +kernel
theorem dX7_bestScene_31 : decode cX7_bestScene 31 = .ok (.ireturn, 1) := by decide +kernel
theorem dX7_bestCost_0 : decode cX7_bestCost 0 = .ok (.aload_n 0, 1) := by decide +kernel
theorem dX7_bestCost_1 : decode cX7_bestCost 1 = .ok (.invokevirtual 226, 3) := by decide +kernel
theorem dX7_bestCost_4 : decode cX7_bestCost 4 = .ok (.ireturn, 1) := by decide +kernel
theorem dJ6_bitCount_0f7a4_0 : decode cJ6_bitCount_0f7a4 0 = .ok (.iload_n 0, 1) := by decide +kernel
theorem dJ6_bitCount_0f7a4_1 : decode cJ6_bitCount_0f7a4 1 = .ok (.iload_n 0, 1) := by decide +kernel
theorem dJ6_bitCount_0f7a4_2 : decode cJ6_bitCount_0f7a4 2 = .ok (.iconst 1, 1) := by decide +kernel
theorem dJ6_bitCount_0f7a4_3 : decode cJ6_bitCount_0f7a4 3 = .ok (.iushr, 1) := by decide +kernel
theorem dJ6_bitCount_0f7a4_4 : decode cJ6_bitCount_0f7a4 4 = .ok (.ldc_w 265, 3) := by decide +kernel
theorem dJ6_bitCount_0f7a4_7 : decode cJ6_bitCount_0f7a4 7 = .ok (.iand, 1) := by decide +kernel
theorem dJ6_bitCount_0f7a4_8 : decode cJ6_bitCount_0f7a4 8 = .ok (.isub, 1) := by decide +kernel
theorem dJ6_bitCount_0f7a4_9 : decode cJ6_bitCount_0f7a4 9 = .ok (.istore_n 0, 1) := by decide +kernel
theorem dJ6_bitCount_0f7a4_10 : decode cJ6_bitCount_0f7a4 10 = .ok (.iload_n 0, 1) := by decide +kernel
theorem dJ6_bitCount_0f7a4_11 : decode cJ6_bitCount_0f7a4 11 = .ok (.ldc_w 266, 3) := by decide +kernel
theorem dJ6_bitCount_0f7a4_14 : decode cJ6_bitCount_0f7a4 14 = .ok (.iand, 1) := by decide +kernel
theorem dJ6_bitCount_0f7a4_15 : decode cJ6_bitCount_0f7a4 15 = .ok (.iload_n 0, 1) := by decide +kernel
theorem dJ6_bitCount_0f7a4_16 : decode cJ6_bitCount_0f7a4 16 = .ok (.iconst 2, 1) := by decide +kernel
theorem dJ6_bitCount_0f7a4_17 : decode cJ6_bitCount_0f7a4 17 = .ok (.iushr, 1) := by decide +kernel
theorem dJ6_bitCount_0f7a4_18 : decode cJ6_bitCount_0f7a4 18 = .ok (.ldc_w 266, 3) := by decide +kernel
theorem dJ6_bitCount_0f7a4_21 : decode cJ6_bitCount_0f7a4 21 = .ok (.iand, 1) := by decide +kernel
theorem dJ6_bitCount_0f7a4_22 : decode cJ6_bitCount_0f7a4 22 = .ok (.iadd, 1) := by decide +kernel
theorem dJ6_bitCount_0f7a4_23 : decode cJ6_bitCount_0f7a4 23 = .ok (.istore_n 0, 1) := by decide +kernel
theorem dJ6_bitCount_0f7a4_24 : decode cJ6_bitCount_0f7a4 24 = .ok (.iload_n 0, 1) := by decide +kernel
theorem dJ6_bitCount_0f7a4_25 : decode cJ6_bitCount_0f7a4 25 = .ok (.iload_n 0, 1) := by decide +kernel
theorem dJ6_bitCount_0f7a4_26 : decode cJ6_bitCount_0f7a4 26 = .ok (.iconst 4, 1) := by decide +kernel
theorem dJ6_bitCount_0f7a4_27 : decode cJ6_bitCount_0f7a4 27 = .ok (.iushr, 1) := by decide +kernel
theorem dJ6_bitCount_0f7a4_28 : decode cJ6_bitCount_0f7a4 28 = .ok (.iadd, 1) := by decide +kernel
theorem dJ6_bitCount_0f7a4_29 : decode cJ6_bitCount_0f7a4 29 = .ok (.ldc_w 267, 3) := by decide +kernel
theorem dJ6_bitCount_0f7a4_32 : decode cJ6_bitCount_0f7a4 32 = .ok (.iand, 1) := by decide +kernel
theorem dJ6_bitCount_0f7a4_33 : decode cJ6_bitCount_0f7a4 33 = .ok (.istore_n 0, 1) := by decide +kernel
theorem dJ6_bitCount_0f7a4_34 : decode cJ6_bitCount_0f7a4 34 = .ok (.iload_n 0, 1) := by decide +kernel
theorem dJ6_bitCount_0f7a4_35 : decode cJ6_bitCount_0f7a4 35 = .ok (.iload_n 0, 1) := by decide +kernel
theorem dJ6_bitCount_0f7a4_36 : decode cJ6_bitCount_0f7a4 36 = .ok (.bipush 8, 2) := by decide +kernel
theorem dJ6_bitCount_0f7a4_38 : decode cJ6_bitCount_0f7a4 38 = .ok (.iushr, 1) := by decide +kernel
theorem dJ6_bitCount_0f7a4_39 : decode cJ6_bitCount_0f7a4 39 = .ok (.iadd, 1) := by decide +kernel
theorem dJ6_bitCount_0f7a4_40 : decode cJ6_bitCount_0f7a4 40 = .ok (.istore_n 0, 1) := by decide +kernel
theorem dJ6_bitCount_0f7a4_41 : decode cJ6_bitCount_0f7a4 41 = .ok (.iload_n 0, 1) := by decide +kernel
theorem dJ6_bitCount_0f7a4_42 : decode cJ6_bitCount_0f7a4 42 = .ok (.iload_n 0, 1) := by decide +kernel
theorem dJ6_bitCount_0f7a4_43 : decode cJ6_bitCount_0f7a4 43 = .ok (.bipush 16, 2) := by decide +kernel
theorem dJ6_bitCount_0f7a4_45 : decode cJ6_bitCount_0f7a4 45 = .ok (.iushr, 1) := by decide +kernel
theorem dJ6_bitCount_0f7a4_46 : decode cJ6_bitCount_0f7a4 46 = .ok (.iadd, 1) := by decide +kernel
theorem dJ6_bitCount_0f7a4_47 : decode cJ6_bitCount_0f7a4 47 = .ok (.istore_n 0, 1) := by decide +kernel
theorem dJ6_bitCount_0f7a4_48 : decode cJ6_bitCount_0f7a4 48 = .ok (.iload_n 0, 1) := by decide +kernel
theorem dJ6_bitCount_0f7a4_49 : decode cJ6_bitCount_0f7a4 49 = .ok (.bipush 63, 2) := by decide +kernel
theorem dJ6_bitCount_0f7a4_51 : decode cJ6_bitCount_0f7a4 51 = .ok (.iand, 1) := by decide +kernel
theorem dJ6_bitCount_0f7a4_52 : decode cJ6_bitCount_0f7a4 52 = .ok (.ireturn, 1) := by decide +kernel
theorem dJ13_compare_74951_0 : decode cJ13_compare_74951 0 = .ok (.lload_n 0, 1) := by decide +kernel
theorem dJ13_compare_74951_1 : decode cJ13_compare_74951 1 = .ok (.lload_n 2, 1) := by decide +kernel
theorem dJ13_compare_74951_2 : decode cJ13_compare_74951 2 = .ok (.lcmp, 1) := by decide +kernel
theorem dJ13_compare_74951_3 : decode cJ13_compare_74951 3 = .ok (.ifCond .ge 7, 3) := by decide +kernel
theorem dJ13_compare_74951_6 : decode cJ13_compare_74951 6 = .ok (.iconst (-1), 1) := by decide +kernel
theorem dJ13_compare_74951_7 : decode cJ13_compare_74951 7 = .ok (.goto 14, 3) := by decide +kernel
theorem dJ13_compare_74951_10 : decode cJ13_compare_74951 10 = .ok (.lload_n 0, 1) := by decide +kernel
theorem dJ13_compare_74951_11 : decode cJ13_compare_74951 11 = .ok (.lload_n 2, 1) := by decide +kernel
theorem dJ13_compare_74951_12 : decode cJ13_compare_74951 12 = .ok (.lcmp, 1) := by decide +kernel
theorem dJ13_compare_74951_13 : decode cJ13_compare_74951 13 = .ok (.ifCond .ne 7, 3) := by decide +kernel
theorem dJ13_compare_74951_16 : decode cJ13_compare_74951 16 = .ok (.iconst 0, 1) := by decide +kernel
theorem dJ13_compare_74951_17 : decode cJ13_compare_74951 17 = .ok (.goto 4, 3) := by decide +kernel
theorem dJ13_compare_74951_20 : decode cJ13_compare_74951 20 = .ok (.iconst 1, 1) := by decide +kernel
theorem dJ13_compare_74951_21 : decode cJ13_compare_74951 21 = .ok (.ireturn, 1) := by decide +kernel
theorem dJ9_floorMod_7cf53_0 : decode cJ9_floorMod_7cf53 0 = .ok (.iload_n 0, 1) := by decide +kernel
theorem dJ9_floorMod_7cf53_1 : decode cJ9_floorMod_7cf53 1 = .ok (.iload_n 1, 1) := by decide +kernel
theorem dJ9_floorMod_7cf53_2 : decode cJ9_floorMod_7cf53 2 = .ok (.irem, 1) := by decide +kernel
theorem dJ9_floorMod_7cf53_3 : decode cJ9_floorMod_7cf53 3 = .ok (.istore_n 2, 1) := by decide +kernel
theorem dJ9_floorMod_7cf53_4 : decode cJ9_floorMod_7cf53 4 = .ok (.iload_n 0, 1) := by decide +kernel
theorem dJ9_floorMod_7cf53_5 : decode cJ9_floorMod_7cf53 5 = .ok (.iload_n 1, 1) := by decide +kernel
theorem dJ9_floorMod_7cf53_6 : decode cJ9_floorMod_7cf53 6 = .ok (.ixor, 1) := by decide +kernel
theorem dJ9_floorMod_7cf53_7 : decode cJ9_floorMod_7cf53 7 = .ok (.ifCond .ge 11, 3) := by decide +kernel
theorem dJ9_floorMod_7cf53_10 : decode cJ9_floorMod_7cf53 10 = .ok (.iload_n 2, 1) := by decide +kernel
theorem dJ9_floorMod_7cf53_11 : decode cJ9_floorMod_7cf53 11 = .ok (.ifCond .eq 7, 3) := by decide +kernel
theorem dJ9_floorMod_7cf53_14 : decode cJ9_floorMod_7cf53 14 = .ok (.iload_n 2, 1) := by decide +kernel
theorem dJ9_floorMod_7cf53_15 : decode cJ9_floorMod_7cf53 15 = .ok (.iload_n 1, 1) := by decide +kernel
theorem dJ9_floorMod_7cf53_16 : decode cJ9_floorMod_7cf53 16 = .ok (.iadd, 1) := by decide +kernel
theorem dJ9_floorMod_7cf53_17 : decode cJ9_floorMod_7cf53 17 = .ok (.ireturn, 1) := by decide +kernel
theorem dJ9_floorMod_7cf53_18 : decode cJ9_floorMod_7cf53 18 = .ok (.iload_n 2, 1) := by decide +kernel
theorem dJ9_floorMod_7cf53_19 : decode cJ9_floorMod_7cf53 19 = .ok (.ireturn, 1) := by decide +kernel
theorem dJ9_abs_067f4_0 : decode cJ9_abs_067f4 0 = .ok (.lload_n 0, 1) := by decide +kernel
theorem dJ9_abs_067f4_1 : decode cJ9_abs_067f4 1 = .ok (.lconst 0, 1) := by decide +kernel
theorem dJ9_abs_067f4_2 : decode cJ9_abs_067f4 2 = .ok (.lcmp, 1) := by decide +kernel
theorem dJ9_abs_067f4_3 : decode cJ9_abs_067f4 3 = .ok (.ifCond .ge 8, 3) := by decide +kernel
theorem dJ9_abs_067f4_6 : decode cJ9_abs_067f4 6 = .ok (.lload_n 0, 1) := by decide +kernel
theorem dJ9_abs_067f4_7 : decode cJ9_abs_067f4 7 = .ok (.lneg, 1) := by decide +kernel
theorem dJ9_abs_067f4_8 : decode cJ9_abs_067f4 8 = .ok (.goto 4, 3) := by decide +kernel
theorem dJ9_abs_067f4_11 : decode cJ9_abs_067f4 11 = .ok (.lload_n 0, 1) := by decide +kernel
theorem dJ9_abs_067f4_12 : decode cJ9_abs_067f4 12 = .ok (.lreturn, 1) := by decide +kernel
theorem dJ9_max_7cf53_0 : decode cJ9_max_7cf53 0 = .ok (.iload_n 0, 1) := by decide +kernel
theorem dJ9_max_7cf53_1 : decode cJ9_max_7cf53 1 = .ok (.iload_n 1, 1) := by decide +kernel
theorem dJ9_max_7cf53_2 : decode cJ9_max_7cf53 2 = .ok (.if_icmp .lt 7, 3) := by decide +kernel
theorem dJ9_max_7cf53_5 : decode cJ9_max_7cf53 5 = .ok (.iload_n 0, 1) := by decide +kernel
theorem dJ9_max_7cf53_6 : decode cJ9_max_7cf53 6 = .ok (.goto 4, 3) := by decide +kernel
theorem dJ9_max_7cf53_9 : decode cJ9_max_7cf53 9 = .ok (.iload_n 1, 1) := by decide +kernel
theorem dJ9_max_7cf53_10 : decode cJ9_max_7cf53 10 = .ok (.ireturn, 1) := by decide +kernel
theorem dJ9_max_f86c9_0 : decode cJ9_max_f86c9 0 = .ok (.lload_n 0, 1) := by decide +kernel
theorem dJ9_max_f86c9_1 : decode cJ9_max_f86c9 1 = .ok (.lload_n 2, 1) := by decide +kernel
theorem dJ9_max_f86c9_2 : decode cJ9_max_f86c9 2 = .ok (.lcmp, 1) := by decide +kernel
theorem dJ9_max_f86c9_3 : decode cJ9_max_f86c9 3 = .ok (.ifCond .lt 7, 3) := by decide +kernel
theorem dJ9_max_f86c9_6 : decode cJ9_max_f86c9 6 = .ok (.lload_n 0, 1) := by decide +kernel
theorem dJ9_max_f86c9_7 : decode cJ9_max_f86c9 7 = .ok (.goto 4, 3) := by decide +kernel
theorem dJ9_max_f86c9_10 : decode cJ9_max_f86c9 10 = .ok (.lload_n 2, 1) := by decide +kernel
theorem dJ9_max_f86c9_11 : decode cJ9_max_f86c9 11 = .ok (.lreturn, 1) := by decide +kernel
theorem dJ9_min_7cf53_0 : decode cJ9_min_7cf53 0 = .ok (.iload_n 0, 1) := by decide +kernel
theorem dJ9_min_7cf53_1 : decode cJ9_min_7cf53 1 = .ok (.iload_n 1, 1) := by decide +kernel
theorem dJ9_min_7cf53_2 : decode cJ9_min_7cf53 2 = .ok (.if_icmp .gt 7, 3) := by decide +kernel
theorem dJ9_min_7cf53_5 : decode cJ9_min_7cf53 5 = .ok (.iload_n 0, 1) := by decide +kernel
theorem dJ9_min_7cf53_6 : decode cJ9_min_7cf53 6 = .ok (.goto 4, 3) := by decide +kernel
theorem dJ9_min_7cf53_9 : decode cJ9_min_7cf53 9 = .ok (.iload_n 1, 1) := by decide +kernel
theorem dJ9_min_7cf53_10 : decode cJ9_min_7cf53 10 = .ok (.ireturn, 1) := by decide +kernel
theorem dJ9_min_f86c9_0 : decode cJ9_min_f86c9 0 = .ok (.lload_n 0, 1) := by decide +kernel
theorem dJ9_min_f86c9_1 : decode cJ9_min_f86c9 1 = .ok (.lload_n 2, 1) := by decide +kernel
theorem dJ9_min_f86c9_2 : decode cJ9_min_f86c9 2 = .ok (.lcmp, 1) := by decide +kernel
theorem dJ9_min_f86c9_3 : decode cJ9_min_f86c9 3 = .ok (.ifCond .gt 7, 3) := by decide +kernel
theorem dJ9_min_f86c9_6 : decode cJ9_min_f86c9 6 = .ok (.lload_n 0, 1) := by decide +kernel
theorem dJ9_min_f86c9_7 : decode cJ9_min_f86c9 7 = .ok (.goto 4, 3) := by decide +kernel
theorem dJ9_min_f86c9_10 : decode cJ9_min_f86c9 10 = .ok (.lload_n 2, 1) := by decide +kernel
theorem dJ9_min_f86c9_11 : decode cJ9_min_f86c9 11 = .ok (.lreturn, 1) := by decide +kernel
theorem dL_law_0 : decode cL_law 0 = .ok (.new 7, 3) := by decide +kernel
theorem dL_law_3 : decode cL_law 3 = .ok (.dup, 1) := by decide +kernel
theorem dL_law_4 : decode cL_law 4 = .ok (.invokespecial 9, 3) := by decide +kernel
theorem dL_law_7 : decode cL_law 7 = .ok (.astore_n 1, 1) := by decide +kernel
theorem dL_law_8 : decode cL_law 8 = .ok (.new 10, 3) := by decide +kernel
theorem dL_law_11 : decode cL_law 11 = .ok (.dup, 1) := by decide +kernel
theorem dL_law_12 : decode cL_law 12 = .ok (.invokespecial 12, 3) := by decide +kernel
theorem dL_law_15 : decode cL_law 15 = .ok (.astore_n 2, 1) := by decide +kernel
theorem dL_law_16 : decode cL_law 16 = .ok (.iconst 0, 1) := by decide +kernel
theorem dL_law_17 : decode cL_law 17 = .ok (.istore_n 3, 1) := by decide +kernel
theorem dL_law_18 : decode cL_law 18 = .ok (.iload_n 3, 1) := by decide +kernel
theorem dL_law_19 : decode cL_law 19 = .ok (.aload_n 0, 1) := by decide +kernel
theorem dL_law_20 : decode cL_law 20 = .ok (.arraylength, 1) := by decide +kernel
theorem dL_law_21 : decode cL_law 21 = .ok (.bipush 6, 2) := by decide +kernel
theorem dL_law_23 : decode cL_law 23 = .ok (.isub, 1) := by decide +kernel
theorem dL_law_24 : decode cL_law 24 = .ok (.if_icmp .gt 897, 3) := by decide +kernel
theorem dL_law_27 : decode cL_law 27 = .ok (.aload_n 0, 1) := by decide +kernel
theorem dL_law_28 : decode cL_law 28 = .ok (.iload_n 3, 1) := by decide +kernel
theorem dL_law_29 : decode cL_law 29 = .ok (.iaload, 1) := by decide +kernel
theorem dL_law_30 : decode cL_law 30 = .ok (.bipush 31, 2) := by decide +kernel
theorem dL_law_32 : decode cL_law 32 = .ok (.iand, 1) := by decide +kernel
theorem dL_law_33 : decode cL_law 33 = .ok (.tableswitch 882 0 21 #[103, 126, 169, 222, 245, 298, 361, 384, 438, 492, 546, 589, 632, 675, 698, 741, 764, 777, 810, 833, 846, 869], 103) := by decide +kernel
theorem dL_law_136 : decode cL_law 136 = .ok (.aload_n 1, 1) := by decide +kernel
theorem dL_law_137 : decode cL_law 137 = .ok (.aload_n 0, 1) := by decide +kernel
theorem dL_law_138 : decode cL_law 138 = .ok (.iload_n 3, 1) := by decide +kernel
theorem dL_law_139 : decode cL_law 139 = .ok (.iconst 1, 1) := by decide +kernel
theorem dL_law_140 : decode cL_law 140 = .ok (.iadd, 1) := by decide +kernel
theorem dL_law_141 : decode cL_law 141 = .ok (.iaload, 1) := by decide +kernel
theorem dL_law_142 : decode cL_law 142 = .ok (.invokevirtual 13, 3) := by decide +kernel
theorem dL_law_145 : decode cL_law 145 = .ok (.aload_n 2, 1) := by decide +kernel
theorem dL_law_146 : decode cL_law 146 = .ok (.aload_n 0, 1) := by decide +kernel
theorem dL_law_147 : decode cL_law 147 = .ok (.iload_n 3, 1) := by decide +kernel
theorem dL_law_148 : decode cL_law 148 = .ok (.iconst 1, 1) := by decide +kernel
theorem dL_law_149 : decode cL_law 149 = .ok (.iadd, 1) := by decide +kernel
theorem dL_law_150 : decode cL_law 150 = .ok (.iaload, 1) := by decide +kernel
theorem dL_law_151 : decode cL_law 151 = .ok (.invokevirtual 17, 3) := by decide +kernel
theorem dL_law_154 : decode cL_law 154 = .ok (.if_icmp .eq 761, 3) := by decide +kernel
theorem dL_law_157 : decode cL_law 157 = .ok (.iconst 0, 1) := by decide +kernel
theorem dL_law_158 : decode cL_law 158 = .ok (.ireturn, 1) := by decide +kernel
theorem dL_law_159 : decode cL_law 159 = .ok (.aload_n 1, 1) := by decide +kernel
theorem dL_law_160 : decode cL_law 160 = .ok (.aload_n 0, 1) := by decide +kernel
theorem dL_law_161 : decode cL_law 161 = .ok (.iload_n 3, 1) := by decide +kernel
theorem dL_law_162 : decode cL_law 162 = .ok (.iconst 1, 1) := by decide +kernel
theorem dL_law_163 : decode cL_law 163 = .ok (.iadd, 1) := by decide +kernel
theorem dL_law_164 : decode cL_law 164 = .ok (.iaload, 1) := by decide +kernel
theorem dL_law_165 : decode cL_law 165 = .ok (.aload_n 0, 1) := by decide +kernel
theorem dL_law_166 : decode cL_law 166 = .ok (.iload_n 3, 1) := by decide +kernel
theorem dL_law_167 : decode cL_law 167 = .ok (.iconst 2, 1) := by decide +kernel
theorem dL_law_168 : decode cL_law 168 = .ok (.iadd, 1) := by decide +kernel
theorem dL_law_169 : decode cL_law 169 = .ok (.iaload, 1) := by decide +kernel
theorem dL_law_170 : decode cL_law 170 = .ok (.aload_n 0, 1) := by decide +kernel
theorem dL_law_171 : decode cL_law 171 = .ok (.iload_n 3, 1) := by decide +kernel
theorem dL_law_172 : decode cL_law 172 = .ok (.iconst 3, 1) := by decide +kernel
theorem dL_law_173 : decode cL_law 173 = .ok (.iadd, 1) := by decide +kernel
theorem dL_law_174 : decode cL_law 174 = .ok (.iaload, 1) := by decide +kernel
theorem dL_law_175 : decode cL_law 175 = .ok (.invokevirtual 18, 3) := by decide +kernel
theorem dL_law_178 : decode cL_law 178 = .ok (.aload_n 2, 1) := by decide +kernel
theorem dL_law_179 : decode cL_law 179 = .ok (.aload_n 0, 1) := by decide +kernel
theorem dL_law_180 : decode cL_law 180 = .ok (.iload_n 3, 1) := by decide +kernel
theorem dL_law_181 : decode cL_law 181 = .ok (.iconst 1, 1) := by decide +kernel
theorem dL_law_182 : decode cL_law 182 = .ok (.iadd, 1) := by decide +kernel
theorem dL_law_183 : decode cL_law 183 = .ok (.iaload, 1) := by decide +kernel
theorem dL_law_184 : decode cL_law 184 = .ok (.aload_n 0, 1) := by decide +kernel
theorem dL_law_185 : decode cL_law 185 = .ok (.iload_n 3, 1) := by decide +kernel
theorem dL_law_186 : decode cL_law 186 = .ok (.iconst 2, 1) := by decide +kernel
theorem dL_law_187 : decode cL_law 187 = .ok (.iadd, 1) := by decide +kernel
theorem dL_law_188 : decode cL_law 188 = .ok (.iaload, 1) := by decide +kernel
theorem dL_law_189 : decode cL_law 189 = .ok (.aload_n 0, 1) := by decide +kernel
theorem dL_law_190 : decode cL_law 190 = .ok (.iload_n 3, 1) := by decide +kernel
theorem dL_law_191 : decode cL_law 191 = .ok (.iconst 3, 1) := by decide +kernel
theorem dL_law_192 : decode cL_law 192 = .ok (.iadd, 1) := by decide +kernel
theorem dL_law_193 : decode cL_law 193 = .ok (.iaload, 1) := by decide +kernel
theorem dL_law_194 : decode cL_law 194 = .ok (.invokevirtual 22, 3) := by decide +kernel
theorem dL_law_197 : decode cL_law 197 = .ok (.if_icmp .eq 718, 3) := by decide +kernel
theorem dL_law_200 : decode cL_law 200 = .ok (.iconst 0, 1) := by decide +kernel
theorem dL_law_201 : decode cL_law 201 = .ok (.ireturn, 1) := by decide +kernel
theorem dL_law_202 : decode cL_law 202 = .ok (.aload_n 1, 1) := by decide +kernel
theorem dL_law_203 : decode cL_law 203 = .ok (.aload_n 0, 1) := by decide +kernel
theorem dL_law_204 : decode cL_law 204 = .ok (.iload_n 3, 1) := by decide +kernel
theorem dL_law_205 : decode cL_law 205 = .ok (.iconst 1, 1) := by decide +kernel
theorem dL_law_206 : decode cL_law 206 = .ok (.iadd, 1) := by decide +kernel
theorem dL_law_207 : decode cL_law 207 = .ok (.iaload, 1) := by decide +kernel
theorem dL_law_208 : decode cL_law 208 = .ok (.aload_n 0, 1) := by decide +kernel
theorem dL_law_209 : decode cL_law 209 = .ok (.iload_n 3, 1) := by decide +kernel
theorem dL_law_210 : decode cL_law 210 = .ok (.iconst 2, 1) := by decide +kernel
theorem dL_law_211 : decode cL_law 211 = .ok (.iadd, 1) := by decide +kernel
theorem dL_law_212 : decode cL_law 212 = .ok (.iaload, 1) := by decide +kernel
theorem dL_law_213 : decode cL_law 213 = .ok (.aload_n 0, 1) := by decide +kernel
theorem dL_law_214 : decode cL_law 214 = .ok (.iload_n 3, 1) := by decide +kernel
theorem dL_law_215 : decode cL_law 215 = .ok (.iconst 3, 1) := by decide +kernel
theorem dL_law_216 : decode cL_law 216 = .ok (.iadd, 1) := by decide +kernel
theorem dL_law_217 : decode cL_law 217 = .ok (.iaload, 1) := by decide +kernel
theorem dL_law_218 : decode cL_law 218 = .ok (.aload_n 0, 1) := by decide +kernel
theorem dL_law_219 : decode cL_law 219 = .ok (.iload_n 3, 1) := by decide +kernel
theorem dL_law_220 : decode cL_law 220 = .ok (.iconst 4, 1) := by decide +kernel
theorem dL_law_221 : decode cL_law 221 = .ok (.iadd, 1) := by decide +kernel
theorem dL_law_222 : decode cL_law 222 = .ok (.iaload, 1) := by decide +kernel
theorem dL_law_223 : decode cL_law 223 = .ok (.invokevirtual 23, 3) := by decide +kernel
theorem dL_law_226 : decode cL_law 226 = .ok (.aload_n 2, 1) := by decide +kernel
theorem dL_law_227 : decode cL_law 227 = .ok (.aload_n 0, 1) := by decide +kernel
theorem dL_law_228 : decode cL_law 228 = .ok (.iload_n 3, 1) := by decide +kernel
theorem dL_law_229 : decode cL_law 229 = .ok (.iconst 1, 1) := by decide +kernel
theorem dL_law_230 : decode cL_law 230 = .ok (.iadd, 1) := by decide +kernel
theorem dL_law_231 : decode cL_law 231 = .ok (.iaload, 1) := by decide +kernel
theorem dL_law_232 : decode cL_law 232 = .ok (.aload_n 0, 1) := by decide +kernel
theorem dL_law_233 : decode cL_law 233 = .ok (.iload_n 3, 1) := by decide +kernel
theorem dL_law_234 : decode cL_law 234 = .ok (.iconst 2, 1) := by decide +kernel
theorem dL_law_235 : decode cL_law 235 = .ok (.iadd, 1) := by decide +kernel
theorem dL_law_236 : decode cL_law 236 = .ok (.iaload, 1) := by decide +kernel
theorem dL_law_237 : decode cL_law 237 = .ok (.aload_n 0, 1) := by decide +kernel
theorem dL_law_238 : decode cL_law 238 = .ok (.iload_n 3, 1) := by decide +kernel
theorem dL_law_239 : decode cL_law 239 = .ok (.iconst 3, 1) := by decide +kernel
theorem dL_law_240 : decode cL_law 240 = .ok (.iadd, 1) := by decide +kernel
theorem dL_law_241 : decode cL_law 241 = .ok (.iaload, 1) := by decide +kernel
theorem dL_law_242 : decode cL_law 242 = .ok (.aload_n 0, 1) := by decide +kernel
theorem dL_law_243 : decode cL_law 243 = .ok (.iload_n 3, 1) := by decide +kernel
theorem dL_law_244 : decode cL_law 244 = .ok (.iconst 4, 1) := by decide +kernel
theorem dL_law_245 : decode cL_law 245 = .ok (.iadd, 1) := by decide +kernel
theorem dL_law_246 : decode cL_law 246 = .ok (.iaload, 1) := by decide +kernel
theorem dL_law_247 : decode cL_law 247 = .ok (.invokevirtual 27, 3) := by decide +kernel
theorem dL_law_250 : decode cL_law 250 = .ok (.if_icmp .eq 665, 3) := by decide +kernel
theorem dL_law_253 : decode cL_law 253 = .ok (.iconst 0, 1) := by decide +kernel
theorem dL_law_254 : decode cL_law 254 = .ok (.ireturn, 1) := by decide +kernel
theorem dL_law_255 : decode cL_law 255 = .ok (.aload_n 1, 1) := by decide +kernel
theorem dL_law_256 : decode cL_law 256 = .ok (.aload_n 0, 1) := by decide +kernel
theorem dL_law_257 : decode cL_law 257 = .ok (.iload_n 3, 1) := by decide +kernel
theorem dL_law_258 : decode cL_law 258 = .ok (.iconst 1, 1) := by decide +kernel
theorem dL_law_259 : decode cL_law 259 = .ok (.iadd, 1) := by decide +kernel
theorem dL_law_260 : decode cL_law 260 = .ok (.iaload, 1) := by decide +kernel
theorem dL_law_261 : decode cL_law 261 = .ok (.invokevirtual 28, 3) := by decide +kernel
theorem dL_law_264 : decode cL_law 264 = .ok (.aload_n 2, 1) := by decide +kernel
theorem dL_law_265 : decode cL_law 265 = .ok (.aload_n 0, 1) := by decide +kernel
theorem dL_law_266 : decode cL_law 266 = .ok (.iload_n 3, 1) := by decide +kernel
theorem dL_law_267 : decode cL_law 267 = .ok (.iconst 1, 1) := by decide +kernel
theorem dL_law_268 : decode cL_law 268 = .ok (.iadd, 1) := by decide +kernel
theorem dL_law_269 : decode cL_law 269 = .ok (.iaload, 1) := by decide +kernel
theorem dL_law_270 : decode cL_law 270 = .ok (.invokevirtual 31, 3) := by decide +kernel
theorem dL_law_273 : decode cL_law 273 = .ok (.if_icmp .eq 642, 3) := by decide +kernel
theorem dL_law_276 : decode cL_law 276 = .ok (.iconst 0, 1) := by decide +kernel
theorem dL_law_277 : decode cL_law 277 = .ok (.ireturn, 1) := by decide +kernel
theorem dL_law_278 : decode cL_law 278 = .ok (.aload_n 1, 1) := by decide +kernel
theorem dL_law_279 : decode cL_law 279 = .ok (.aload_n 0, 1) := by decide +kernel
theorem dL_law_280 : decode cL_law 280 = .ok (.iload_n 3, 1) := by decide +kernel
theorem dL_law_281 : decode cL_law 281 = .ok (.iconst 1, 1) := by decide +kernel
theorem dL_law_282 : decode cL_law 282 = .ok (.iadd, 1) := by decide +kernel
theorem dL_law_283 : decode cL_law 283 = .ok (.iaload, 1) := by decide +kernel
theorem dL_law_284 : decode cL_law 284 = .ok (.aload_n 0, 1) := by decide +kernel
theorem dL_law_285 : decode cL_law 285 = .ok (.iload_n 3, 1) := by decide +kernel
theorem dL_law_286 : decode cL_law 286 = .ok (.iconst 2, 1) := by decide +kernel
theorem dL_law_287 : decode cL_law 287 = .ok (.iadd, 1) := by decide +kernel
theorem dL_law_288 : decode cL_law 288 = .ok (.iaload, 1) := by decide +kernel
theorem dL_law_289 : decode cL_law 289 = .ok (.aload_n 0, 1) := by decide +kernel
theorem dL_law_290 : decode cL_law 290 = .ok (.iload_n 3, 1) := by decide +kernel
theorem dL_law_291 : decode cL_law 291 = .ok (.iconst 3, 1) := by decide +kernel
theorem dL_law_292 : decode cL_law 292 = .ok (.iadd, 1) := by decide +kernel
theorem dL_law_293 : decode cL_law 293 = .ok (.iaload, 1) := by decide +kernel
theorem dL_law_294 : decode cL_law 294 = .ok (.aload_n 0, 1) := by decide +kernel
theorem dL_law_295 : decode cL_law 295 = .ok (.iload_n 3, 1) := by decide +kernel
theorem dL_law_296 : decode cL_law 296 = .ok (.iconst 4, 1) := by decide +kernel
theorem dL_law_297 : decode cL_law 297 = .ok (.iadd, 1) := by decide +kernel
theorem dL_law_298 : decode cL_law 298 = .ok (.iaload, 1) := by decide +kernel
theorem dL_law_299 : decode cL_law 299 = .ok (.invokevirtual 32, 3) := by decide +kernel
theorem dL_law_302 : decode cL_law 302 = .ok (.aload_n 2, 1) := by decide +kernel
theorem dL_law_303 : decode cL_law 303 = .ok (.aload_n 0, 1) := by decide +kernel
theorem dL_law_304 : decode cL_law 304 = .ok (.iload_n 3, 1) := by decide +kernel
theorem dL_law_305 : decode cL_law 305 = .ok (.iconst 1, 1) := by decide +kernel
theorem dL_law_306 : decode cL_law 306 = .ok (.iadd, 1) := by decide +kernel
theorem dL_law_307 : decode cL_law 307 = .ok (.iaload, 1) := by decide +kernel
theorem dL_law_308 : decode cL_law 308 = .ok (.aload_n 0, 1) := by decide +kernel
theorem dL_law_309 : decode cL_law 309 = .ok (.iload_n 3, 1) := by decide +kernel
theorem dL_law_310 : decode cL_law 310 = .ok (.iconst 2, 1) := by decide +kernel
theorem dL_law_311 : decode cL_law 311 = .ok (.iadd, 1) := by decide +kernel
theorem dL_law_312 : decode cL_law 312 = .ok (.iaload, 1) := by decide +kernel
theorem dL_law_313 : decode cL_law 313 = .ok (.aload_n 0, 1) := by decide +kernel
theorem dL_law_314 : decode cL_law 314 = .ok (.iload_n 3, 1) := by decide +kernel
theorem dL_law_315 : decode cL_law 315 = .ok (.iconst 3, 1) := by decide +kernel
theorem dL_law_316 : decode cL_law 316 = .ok (.iadd, 1) := by decide +kernel
theorem dL_law_317 : decode cL_law 317 = .ok (.iaload, 1) := by decide +kernel
theorem dL_law_318 : decode cL_law 318 = .ok (.aload_n 0, 1) := by decide +kernel
theorem dL_law_319 : decode cL_law 319 = .ok (.iload_n 3, 1) := by decide +kernel
theorem dL_law_320 : decode cL_law 320 = .ok (.iconst 4, 1) := by decide +kernel
theorem dL_law_321 : decode cL_law 321 = .ok (.iadd, 1) := by decide +kernel
theorem dL_law_322 : decode cL_law 322 = .ok (.iaload, 1) := by decide +kernel
theorem dL_law_323 : decode cL_law 323 = .ok (.invokevirtual 35, 3) := by decide +kernel
theorem dL_law_326 : decode cL_law 326 = .ok (.if_icmp .eq 589, 3) := by decide +kernel
theorem dL_law_329 : decode cL_law 329 = .ok (.iconst 0, 1) := by decide +kernel
theorem dL_law_330 : decode cL_law 330 = .ok (.ireturn, 1) := by decide +kernel
theorem dL_law_331 : decode cL_law 331 = .ok (.aload_n 1, 1) := by decide +kernel
theorem dL_law_332 : decode cL_law 332 = .ok (.aload_n 0, 1) := by decide +kernel
theorem dL_law_333 : decode cL_law 333 = .ok (.iload_n 3, 1) := by decide +kernel
theorem dL_law_334 : decode cL_law 334 = .ok (.iconst 1, 1) := by decide +kernel
theorem dL_law_335 : decode cL_law 335 = .ok (.iadd, 1) := by decide +kernel
theorem dL_law_336 : decode cL_law 336 = .ok (.iaload, 1) := by decide +kernel
theorem dL_law_337 : decode cL_law 337 = .ok (.aload_n 0, 1) := by decide +kernel
theorem dL_law_338 : decode cL_law 338 = .ok (.iload_n 3, 1) := by decide +kernel
theorem dL_law_339 : decode cL_law 339 = .ok (.iconst 2, 1) := by decide +kernel
theorem dL_law_340 : decode cL_law 340 = .ok (.iadd, 1) := by decide +kernel
theorem dL_law_341 : decode cL_law 341 = .ok (.iaload, 1) := by decide +kernel
theorem dL_law_342 : decode cL_law 342 = .ok (.aload_n 0, 1) := by decide +kernel
theorem dL_law_343 : decode cL_law 343 = .ok (.iload_n 3, 1) := by decide +kernel
theorem dL_law_344 : decode cL_law 344 = .ok (.iconst 3, 1) := by decide +kernel
theorem dL_law_345 : decode cL_law 345 = .ok (.iadd, 1) := by decide +kernel
theorem dL_law_346 : decode cL_law 346 = .ok (.iaload, 1) := by decide +kernel
theorem dL_law_347 : decode cL_law 347 = .ok (.aload_n 0, 1) := by decide +kernel
theorem dL_law_348 : decode cL_law 348 = .ok (.iload_n 3, 1) := by decide +kernel
theorem dL_law_349 : decode cL_law 349 = .ok (.iconst 4, 1) := by decide +kernel
theorem dL_law_350 : decode cL_law 350 = .ok (.iadd, 1) := by decide +kernel
theorem dL_law_351 : decode cL_law 351 = .ok (.iaload, 1) := by decide +kernel
theorem dL_law_352 : decode cL_law 352 = .ok (.aload_n 0, 1) := by decide +kernel
theorem dL_law_353 : decode cL_law 353 = .ok (.iload_n 3, 1) := by decide +kernel
theorem dL_law_354 : decode cL_law 354 = .ok (.iconst 5, 1) := by decide +kernel
theorem dL_law_355 : decode cL_law 355 = .ok (.iadd, 1) := by decide +kernel
theorem dL_law_356 : decode cL_law 356 = .ok (.iaload, 1) := by decide +kernel
theorem dL_law_357 : decode cL_law 357 = .ok (.invokevirtual 36, 3) := by decide +kernel
theorem dL_law_360 : decode cL_law 360 = .ok (.aload_n 2, 1) := by decide +kernel
theorem dL_law_361 : decode cL_law 361 = .ok (.aload_n 0, 1) := by decide +kernel
theorem dL_law_362 : decode cL_law 362 = .ok (.iload_n 3, 1) := by decide +kernel
theorem dL_law_363 : decode cL_law 363 = .ok (.iconst 1, 1) := by decide +kernel
theorem dL_law_364 : decode cL_law 364 = .ok (.iadd, 1) := by decide +kernel
theorem dL_law_365 : decode cL_law 365 = .ok (.iaload, 1) := by decide +kernel
theorem dL_law_366 : decode cL_law 366 = .ok (.aload_n 0, 1) := by decide +kernel
theorem dL_law_367 : decode cL_law 367 = .ok (.iload_n 3, 1) := by decide +kernel
theorem dL_law_368 : decode cL_law 368 = .ok (.iconst 2, 1) := by decide +kernel
theorem dL_law_369 : decode cL_law 369 = .ok (.iadd, 1) := by decide +kernel
theorem dL_law_370 : decode cL_law 370 = .ok (.iaload, 1) := by decide +kernel
theorem dL_law_371 : decode cL_law 371 = .ok (.aload_n 0, 1) := by decide +kernel
theorem dL_law_372 : decode cL_law 372 = .ok (.iload_n 3, 1) := by decide +kernel
theorem dL_law_373 : decode cL_law 373 = .ok (.iconst 3, 1) := by decide +kernel
theorem dL_law_374 : decode cL_law 374 = .ok (.iadd, 1) := by decide +kernel
theorem dL_law_375 : decode cL_law 375 = .ok (.iaload, 1) := by decide +kernel
theorem dL_law_376 : decode cL_law 376 = .ok (.aload_n 0, 1) := by decide +kernel
theorem dL_law_377 : decode cL_law 377 = .ok (.iload_n 3, 1) := by decide +kernel
theorem dL_law_378 : decode cL_law 378 = .ok (.iconst 4, 1) := by decide +kernel
theorem dL_law_379 : decode cL_law 379 = .ok (.iadd, 1) := by decide +kernel
theorem dL_law_380 : decode cL_law 380 = .ok (.iaload, 1) := by decide +kernel
theorem dL_law_381 : decode cL_law 381 = .ok (.aload_n 0, 1) := by decide +kernel
theorem dL_law_382 : decode cL_law 382 = .ok (.iload_n 3, 1) := by decide +kernel
theorem dL_law_383 : decode cL_law 383 = .ok (.iconst 5, 1) := by decide +kernel
theorem dL_law_384 : decode cL_law 384 = .ok (.iadd, 1) := by decide +kernel
theorem dL_law_385 : decode cL_law 385 = .ok (.iaload, 1) := by decide +kernel
theorem dL_law_386 : decode cL_law 386 = .ok (.invokevirtual 40, 3) := by decide +kernel
theorem dL_law_389 : decode cL_law 389 = .ok (.if_icmp .eq 526, 3) := by decide +kernel
theorem dL_law_392 : decode cL_law 392 = .ok (.iconst 0, 1) := by decide +kernel
theorem dL_law_393 : decode cL_law 393 = .ok (.ireturn, 1) := by decide +kernel
theorem dL_law_394 : decode cL_law 394 = .ok (.aload_n 1, 1) := by decide +kernel
theorem dL_law_395 : decode cL_law 395 = .ok (.aload_n 0, 1) := by decide +kernel
theorem dL_law_396 : decode cL_law 396 = .ok (.iload_n 3, 1) := by decide +kernel
theorem dL_law_397 : decode cL_law 397 = .ok (.iconst 1, 1) := by decide +kernel
theorem dL_law_398 : decode cL_law 398 = .ok (.iadd, 1) := by decide +kernel
theorem dL_law_399 : decode cL_law 399 = .ok (.iaload, 1) := by decide +kernel
theorem dL_law_400 : decode cL_law 400 = .ok (.invokevirtual 41, 3) := by decide +kernel
theorem dL_law_403 : decode cL_law 403 = .ok (.aload_n 2, 1) := by decide +kernel
theorem dL_law_404 : decode cL_law 404 = .ok (.aload_n 0, 1) := by decide +kernel
theorem dL_law_405 : decode cL_law 405 = .ok (.iload_n 3, 1) := by decide +kernel
theorem dL_law_406 : decode cL_law 406 = .ok (.iconst 1, 1) := by decide +kernel
theorem dL_law_407 : decode cL_law 407 = .ok (.iadd, 1) := by decide +kernel
theorem dL_law_408 : decode cL_law 408 = .ok (.iaload, 1) := by decide +kernel
theorem dL_law_409 : decode cL_law 409 = .ok (.invokevirtual 44, 3) := by decide +kernel
theorem dL_law_412 : decode cL_law 412 = .ok (.if_icmp .eq 503, 3) := by decide +kernel
theorem dL_law_415 : decode cL_law 415 = .ok (.iconst 0, 1) := by decide +kernel
theorem dL_law_416 : decode cL_law 416 = .ok (.ireturn, 1) := by decide +kernel
theorem dL_law_417 : decode cL_law 417 = .ok (.aload_n 1, 1) := by decide +kernel
theorem dL_law_418 : decode cL_law 418 = .ok (.aload_n 0, 1) := by decide +kernel
theorem dL_law_419 : decode cL_law 419 = .ok (.iload_n 3, 1) := by decide +kernel
theorem dL_law_420 : decode cL_law 420 = .ok (.iconst 1, 1) := by decide +kernel
theorem dL_law_421 : decode cL_law 421 = .ok (.iadd, 1) := by decide +kernel
theorem dL_law_422 : decode cL_law 422 = .ok (.iaload, 1) := by decide +kernel
theorem dL_law_423 : decode cL_law 423 = .ok (.aload_n 0, 1) := by decide +kernel
theorem dL_law_424 : decode cL_law 424 = .ok (.iload_n 3, 1) := by decide +kernel
theorem dL_law_425 : decode cL_law 425 = .ok (.iconst 2, 1) := by decide +kernel
theorem dL_law_426 : decode cL_law 426 = .ok (.iadd, 1) := by decide +kernel
theorem dL_law_427 : decode cL_law 427 = .ok (.iaload, 1) := by decide +kernel
theorem dL_law_428 : decode cL_law 428 = .ok (.aload_n 0, 1) := by decide +kernel
theorem dL_law_429 : decode cL_law 429 = .ok (.iload_n 3, 1) := by decide +kernel
theorem dL_law_430 : decode cL_law 430 = .ok (.iconst 3, 1) := by decide +kernel
theorem dL_law_431 : decode cL_law 431 = .ok (.iadd, 1) := by decide +kernel
theorem dL_law_432 : decode cL_law 432 = .ok (.iaload, 1) := by decide +kernel
theorem dL_law_433 : decode cL_law 433 = .ok (.aload_n 0, 1) := by decide +kernel
theorem dL_law_434 : decode cL_law 434 = .ok (.iload_n 3, 1) := by decide +kernel
theorem dL_law_435 : decode cL_law 435 = .ok (.iconst 4, 1) := by decide +kernel
theorem dL_law_436 : decode cL_law 436 = .ok (.iadd, 1) := by decide +kernel
theorem dL_law_437 : decode cL_law 437 = .ok (.iaload, 1) := by decide +kernel
theorem dL_law_438 : decode cL_law 438 = .ok (.invokevirtual 45, 3) := by decide +kernel
theorem dL_law_441 : decode cL_law 441 = .ok (.aload_n 2, 1) := by decide +kernel
theorem dL_law_442 : decode cL_law 442 = .ok (.aload_n 0, 1) := by decide +kernel
theorem dL_law_443 : decode cL_law 443 = .ok (.iload_n 3, 1) := by decide +kernel
theorem dL_law_444 : decode cL_law 444 = .ok (.iconst 1, 1) := by decide +kernel
theorem dL_law_445 : decode cL_law 445 = .ok (.iadd, 1) := by decide +kernel
theorem dL_law_446 : decode cL_law 446 = .ok (.iaload, 1) := by decide +kernel
theorem dL_law_447 : decode cL_law 447 = .ok (.aload_n 0, 1) := by decide +kernel
theorem dL_law_448 : decode cL_law 448 = .ok (.iload_n 3, 1) := by decide +kernel
theorem dL_law_449 : decode cL_law 449 = .ok (.iconst 2, 1) := by decide +kernel
theorem dL_law_450 : decode cL_law 450 = .ok (.iadd, 1) := by decide +kernel
theorem dL_law_451 : decode cL_law 451 = .ok (.iaload, 1) := by decide +kernel
theorem dL_law_452 : decode cL_law 452 = .ok (.aload_n 0, 1) := by decide +kernel
theorem dL_law_453 : decode cL_law 453 = .ok (.iload_n 3, 1) := by decide +kernel
theorem dL_law_454 : decode cL_law 454 = .ok (.iconst 3, 1) := by decide +kernel
theorem dL_law_455 : decode cL_law 455 = .ok (.iadd, 1) := by decide +kernel
theorem dL_law_456 : decode cL_law 456 = .ok (.iaload, 1) := by decide +kernel
theorem dL_law_457 : decode cL_law 457 = .ok (.aload_n 0, 1) := by decide +kernel
theorem dL_law_458 : decode cL_law 458 = .ok (.iload_n 3, 1) := by decide +kernel
theorem dL_law_459 : decode cL_law 459 = .ok (.iconst 4, 1) := by decide +kernel
theorem dL_law_460 : decode cL_law 460 = .ok (.iadd, 1) := by decide +kernel
theorem dL_law_461 : decode cL_law 461 = .ok (.iaload, 1) := by decide +kernel
theorem dL_law_462 : decode cL_law 462 = .ok (.invokevirtual 49, 3) := by decide +kernel
theorem dL_law_465 : decode cL_law 465 = .ok (.lcmp, 1) := by decide +kernel
theorem dL_law_466 : decode cL_law 466 = .ok (.ifCond .eq 449, 3) := by decide +kernel
theorem dL_law_469 : decode cL_law 469 = .ok (.iconst 0, 1) := by decide +kernel
theorem dL_law_470 : decode cL_law 470 = .ok (.ireturn, 1) := by decide +kernel
theorem dL_law_471 : decode cL_law 471 = .ok (.aload_n 1, 1) := by decide +kernel
theorem dL_law_472 : decode cL_law 472 = .ok (.aload_n 0, 1) := by decide +kernel
theorem dL_law_473 : decode cL_law 473 = .ok (.iload_n 3, 1) := by decide +kernel
theorem dL_law_474 : decode cL_law 474 = .ok (.iconst 1, 1) := by decide +kernel
theorem dL_law_475 : decode cL_law 475 = .ok (.iadd, 1) := by decide +kernel
theorem dL_law_476 : decode cL_law 476 = .ok (.iaload, 1) := by decide +kernel
theorem dL_law_477 : decode cL_law 477 = .ok (.aload_n 0, 1) := by decide +kernel
theorem dL_law_478 : decode cL_law 478 = .ok (.iload_n 3, 1) := by decide +kernel
theorem dL_law_479 : decode cL_law 479 = .ok (.iconst 2, 1) := by decide +kernel
theorem dL_law_480 : decode cL_law 480 = .ok (.iadd, 1) := by decide +kernel
theorem dL_law_481 : decode cL_law 481 = .ok (.iaload, 1) := by decide +kernel
theorem dL_law_482 : decode cL_law 482 = .ok (.aload_n 0, 1) := by decide +kernel
theorem dL_law_483 : decode cL_law 483 = .ok (.iload_n 3, 1) := by decide +kernel
theorem dL_law_484 : decode cL_law 484 = .ok (.iconst 3, 1) := by decide +kernel
theorem dL_law_485 : decode cL_law 485 = .ok (.iadd, 1) := by decide +kernel
theorem dL_law_486 : decode cL_law 486 = .ok (.iaload, 1) := by decide +kernel
theorem dL_law_487 : decode cL_law 487 = .ok (.aload_n 0, 1) := by decide +kernel
theorem dL_law_488 : decode cL_law 488 = .ok (.iload_n 3, 1) := by decide +kernel
theorem dL_law_489 : decode cL_law 489 = .ok (.iconst 4, 1) := by decide +kernel
theorem dL_law_490 : decode cL_law 490 = .ok (.iadd, 1) := by decide +kernel
theorem dL_law_491 : decode cL_law 491 = .ok (.iaload, 1) := by decide +kernel
theorem dL_law_492 : decode cL_law 492 = .ok (.invokevirtual 50, 3) := by decide +kernel
theorem dL_law_495 : decode cL_law 495 = .ok (.aload_n 2, 1) := by decide +kernel
theorem dL_law_496 : decode cL_law 496 = .ok (.aload_n 0, 1) := by decide +kernel
theorem dL_law_497 : decode cL_law 497 = .ok (.iload_n 3, 1) := by decide +kernel
theorem dL_law_498 : decode cL_law 498 = .ok (.iconst 1, 1) := by decide +kernel
theorem dL_law_499 : decode cL_law 499 = .ok (.iadd, 1) := by decide +kernel
theorem dL_law_500 : decode cL_law 500 = .ok (.iaload, 1) := by decide +kernel
theorem dL_law_501 : decode cL_law 501 = .ok (.aload_n 0, 1) := by decide +kernel
theorem dL_law_502 : decode cL_law 502 = .ok (.iload_n 3, 1) := by decide +kernel
theorem dL_law_503 : decode cL_law 503 = .ok (.iconst 2, 1) := by decide +kernel
theorem dL_law_504 : decode cL_law 504 = .ok (.iadd, 1) := by decide +kernel
theorem dL_law_505 : decode cL_law 505 = .ok (.iaload, 1) := by decide +kernel
theorem dL_law_506 : decode cL_law 506 = .ok (.aload_n 0, 1) := by decide +kernel
theorem dL_law_507 : decode cL_law 507 = .ok (.iload_n 3, 1) := by decide +kernel
theorem dL_law_508 : decode cL_law 508 = .ok (.iconst 3, 1) := by decide +kernel
theorem dL_law_509 : decode cL_law 509 = .ok (.iadd, 1) := by decide +kernel
theorem dL_law_510 : decode cL_law 510 = .ok (.iaload, 1) := by decide +kernel
theorem dL_law_511 : decode cL_law 511 = .ok (.aload_n 0, 1) := by decide +kernel
theorem dL_law_512 : decode cL_law 512 = .ok (.iload_n 3, 1) := by decide +kernel
theorem dL_law_513 : decode cL_law 513 = .ok (.iconst 4, 1) := by decide +kernel
theorem dL_law_514 : decode cL_law 514 = .ok (.iadd, 1) := by decide +kernel
theorem dL_law_515 : decode cL_law 515 = .ok (.iaload, 1) := by decide +kernel
theorem dL_law_516 : decode cL_law 516 = .ok (.invokevirtual 53, 3) := by decide +kernel
theorem dL_law_519 : decode cL_law 519 = .ok (.lcmp, 1) := by decide +kernel
theorem dL_law_520 : decode cL_law 520 = .ok (.ifCond .eq 395, 3) := by decide +kernel
theorem dL_law_523 : decode cL_law 523 = .ok (.iconst 0, 1) := by decide +kernel
theorem dL_law_524 : decode cL_law 524 = .ok (.ireturn, 1) := by decide +kernel
theorem dL_law_525 : decode cL_law 525 = .ok (.aload_n 1, 1) := by decide +kernel
theorem dL_law_526 : decode cL_law 526 = .ok (.aload_n 0, 1) := by decide +kernel
theorem dL_law_527 : decode cL_law 527 = .ok (.iload_n 3, 1) := by decide +kernel
theorem dL_law_528 : decode cL_law 528 = .ok (.iconst 1, 1) := by decide +kernel
theorem dL_law_529 : decode cL_law 529 = .ok (.iadd, 1) := by decide +kernel
theorem dL_law_530 : decode cL_law 530 = .ok (.iaload, 1) := by decide +kernel
theorem dL_law_531 : decode cL_law 531 = .ok (.aload_n 0, 1) := by decide +kernel
theorem dL_law_532 : decode cL_law 532 = .ok (.iload_n 3, 1) := by decide +kernel
theorem dL_law_533 : decode cL_law 533 = .ok (.iconst 2, 1) := by decide +kernel
theorem dL_law_534 : decode cL_law 534 = .ok (.iadd, 1) := by decide +kernel
theorem dL_law_535 : decode cL_law 535 = .ok (.iaload, 1) := by decide +kernel
theorem dL_law_536 : decode cL_law 536 = .ok (.aload_n 0, 1) := by decide +kernel
theorem dL_law_537 : decode cL_law 537 = .ok (.iload_n 3, 1) := by decide +kernel
theorem dL_law_538 : decode cL_law 538 = .ok (.iconst 3, 1) := by decide +kernel
theorem dL_law_539 : decode cL_law 539 = .ok (.iadd, 1) := by decide +kernel
theorem dL_law_540 : decode cL_law 540 = .ok (.iaload, 1) := by decide +kernel
theorem dL_law_541 : decode cL_law 541 = .ok (.aload_n 0, 1) := by decide +kernel
theorem dL_law_542 : decode cL_law 542 = .ok (.iload_n 3, 1) := by decide +kernel
theorem dL_law_543 : decode cL_law 543 = .ok (.iconst 4, 1) := by decide +kernel
theorem dL_law_544 : decode cL_law 544 = .ok (.iadd, 1) := by decide +kernel
theorem dL_law_545 : decode cL_law 545 = .ok (.iaload, 1) := by decide +kernel
theorem dL_law_546 : decode cL_law 546 = .ok (.invokevirtual 54, 3) := by decide +kernel
theorem dL_law_549 : decode cL_law 549 = .ok (.aload_n 2, 1) := by decide +kernel
theorem dL_law_550 : decode cL_law 550 = .ok (.aload_n 0, 1) := by decide +kernel
theorem dL_law_551 : decode cL_law 551 = .ok (.iload_n 3, 1) := by decide +kernel
theorem dL_law_552 : decode cL_law 552 = .ok (.iconst 1, 1) := by decide +kernel
theorem dL_law_553 : decode cL_law 553 = .ok (.iadd, 1) := by decide +kernel
theorem dL_law_554 : decode cL_law 554 = .ok (.iaload, 1) := by decide +kernel
theorem dL_law_555 : decode cL_law 555 = .ok (.aload_n 0, 1) := by decide +kernel
theorem dL_law_556 : decode cL_law 556 = .ok (.iload_n 3, 1) := by decide +kernel
theorem dL_law_557 : decode cL_law 557 = .ok (.iconst 2, 1) := by decide +kernel
theorem dL_law_558 : decode cL_law 558 = .ok (.iadd, 1) := by decide +kernel
theorem dL_law_559 : decode cL_law 559 = .ok (.iaload, 1) := by decide +kernel
theorem dL_law_560 : decode cL_law 560 = .ok (.aload_n 0, 1) := by decide +kernel
theorem dL_law_561 : decode cL_law 561 = .ok (.iload_n 3, 1) := by decide +kernel
theorem dL_law_562 : decode cL_law 562 = .ok (.iconst 3, 1) := by decide +kernel
theorem dL_law_563 : decode cL_law 563 = .ok (.iadd, 1) := by decide +kernel
theorem dL_law_564 : decode cL_law 564 = .ok (.iaload, 1) := by decide +kernel
theorem dL_law_565 : decode cL_law 565 = .ok (.aload_n 0, 1) := by decide +kernel
theorem dL_law_566 : decode cL_law 566 = .ok (.iload_n 3, 1) := by decide +kernel
theorem dL_law_567 : decode cL_law 567 = .ok (.iconst 4, 1) := by decide +kernel
theorem dL_law_568 : decode cL_law 568 = .ok (.iadd, 1) := by decide +kernel
theorem dL_law_569 : decode cL_law 569 = .ok (.iaload, 1) := by decide +kernel
theorem dL_law_570 : decode cL_law 570 = .ok (.invokevirtual 57, 3) := by decide +kernel
theorem dL_law_573 : decode cL_law 573 = .ok (.lcmp, 1) := by decide +kernel
theorem dL_law_574 : decode cL_law 574 = .ok (.ifCond .eq 341, 3) := by decide +kernel
theorem dL_law_577 : decode cL_law 577 = .ok (.iconst 0, 1) := by decide +kernel
theorem dL_law_578 : decode cL_law 578 = .ok (.ireturn, 1) := by decide +kernel
theorem dL_law_579 : decode cL_law 579 = .ok (.aload_n 1, 1) := by decide +kernel
theorem dL_law_580 : decode cL_law 580 = .ok (.aload_n 0, 1) := by decide +kernel
theorem dL_law_581 : decode cL_law 581 = .ok (.iload_n 3, 1) := by decide +kernel
theorem dL_law_582 : decode cL_law 582 = .ok (.iconst 1, 1) := by decide +kernel
theorem dL_law_583 : decode cL_law 583 = .ok (.iadd, 1) := by decide +kernel
theorem dL_law_584 : decode cL_law 584 = .ok (.iaload, 1) := by decide +kernel
theorem dL_law_585 : decode cL_law 585 = .ok (.aload_n 0, 1) := by decide +kernel
theorem dL_law_586 : decode cL_law 586 = .ok (.iload_n 3, 1) := by decide +kernel
theorem dL_law_587 : decode cL_law 587 = .ok (.iconst 2, 1) := by decide +kernel
theorem dL_law_588 : decode cL_law 588 = .ok (.iadd, 1) := by decide +kernel
theorem dL_law_589 : decode cL_law 589 = .ok (.iaload, 1) := by decide +kernel
theorem dL_law_590 : decode cL_law 590 = .ok (.aload_n 0, 1) := by decide +kernel
theorem dL_law_591 : decode cL_law 591 = .ok (.iload_n 3, 1) := by decide +kernel
theorem dL_law_592 : decode cL_law 592 = .ok (.iconst 3, 1) := by decide +kernel
theorem dL_law_593 : decode cL_law 593 = .ok (.iadd, 1) := by decide +kernel
theorem dL_law_594 : decode cL_law 594 = .ok (.iaload, 1) := by decide +kernel
theorem dL_law_595 : decode cL_law 595 = .ok (.invokevirtual 58, 3) := by decide +kernel
theorem dL_law_598 : decode cL_law 598 = .ok (.aload_n 2, 1) := by decide +kernel
theorem dL_law_599 : decode cL_law 599 = .ok (.aload_n 0, 1) := by decide +kernel
theorem dL_law_600 : decode cL_law 600 = .ok (.iload_n 3, 1) := by decide +kernel
theorem dL_law_601 : decode cL_law 601 = .ok (.iconst 1, 1) := by decide +kernel
theorem dL_law_602 : decode cL_law 602 = .ok (.iadd, 1) := by decide +kernel
theorem dL_law_603 : decode cL_law 603 = .ok (.iaload, 1) := by decide +kernel
theorem dL_law_604 : decode cL_law 604 = .ok (.aload_n 0, 1) := by decide +kernel
theorem dL_law_605 : decode cL_law 605 = .ok (.iload_n 3, 1) := by decide +kernel
theorem dL_law_606 : decode cL_law 606 = .ok (.iconst 2, 1) := by decide +kernel
theorem dL_law_607 : decode cL_law 607 = .ok (.iadd, 1) := by decide +kernel
theorem dL_law_608 : decode cL_law 608 = .ok (.iaload, 1) := by decide +kernel
theorem dL_law_609 : decode cL_law 609 = .ok (.aload_n 0, 1) := by decide +kernel
theorem dL_law_610 : decode cL_law 610 = .ok (.iload_n 3, 1) := by decide +kernel
theorem dL_law_611 : decode cL_law 611 = .ok (.iconst 3, 1) := by decide +kernel
theorem dL_law_612 : decode cL_law 612 = .ok (.iadd, 1) := by decide +kernel
theorem dL_law_613 : decode cL_law 613 = .ok (.iaload, 1) := by decide +kernel
theorem dL_law_614 : decode cL_law 614 = .ok (.invokevirtual 61, 3) := by decide +kernel
theorem dL_law_617 : decode cL_law 617 = .ok (.if_icmp .eq 298, 3) := by decide +kernel
theorem dL_law_620 : decode cL_law 620 = .ok (.iconst 0, 1) := by decide +kernel
theorem dL_law_621 : decode cL_law 621 = .ok (.ireturn, 1) := by decide +kernel
theorem dL_law_622 : decode cL_law 622 = .ok (.aload_n 1, 1) := by decide +kernel
theorem dL_law_623 : decode cL_law 623 = .ok (.aload_n 0, 1) := by decide +kernel
theorem dL_law_624 : decode cL_law 624 = .ok (.iload_n 3, 1) := by decide +kernel
theorem dL_law_625 : decode cL_law 625 = .ok (.iconst 1, 1) := by decide +kernel
theorem dL_law_626 : decode cL_law 626 = .ok (.iadd, 1) := by decide +kernel
theorem dL_law_627 : decode cL_law 627 = .ok (.iaload, 1) := by decide +kernel
theorem dL_law_628 : decode cL_law 628 = .ok (.aload_n 0, 1) := by decide +kernel
theorem dL_law_629 : decode cL_law 629 = .ok (.iload_n 3, 1) := by decide +kernel
theorem dL_law_630 : decode cL_law 630 = .ok (.iconst 2, 1) := by decide +kernel
theorem dL_law_631 : decode cL_law 631 = .ok (.iadd, 1) := by decide +kernel
theorem dL_law_632 : decode cL_law 632 = .ok (.iaload, 1) := by decide +kernel
theorem dL_law_633 : decode cL_law 633 = .ok (.aload_n 0, 1) := by decide +kernel
theorem dL_law_634 : decode cL_law 634 = .ok (.iload_n 3, 1) := by decide +kernel
theorem dL_law_635 : decode cL_law 635 = .ok (.iconst 3, 1) := by decide +kernel
theorem dL_law_636 : decode cL_law 636 = .ok (.iadd, 1) := by decide +kernel
theorem dL_law_637 : decode cL_law 637 = .ok (.iaload, 1) := by decide +kernel
theorem dL_law_638 : decode cL_law 638 = .ok (.invokevirtual 62, 3) := by decide +kernel
theorem dL_law_641 : decode cL_law 641 = .ok (.aload_n 2, 1) := by decide +kernel
theorem dL_law_642 : decode cL_law 642 = .ok (.aload_n 0, 1) := by decide +kernel
theorem dL_law_643 : decode cL_law 643 = .ok (.iload_n 3, 1) := by decide +kernel
theorem dL_law_644 : decode cL_law 644 = .ok (.iconst 1, 1) := by decide +kernel
theorem dL_law_645 : decode cL_law 645 = .ok (.iadd, 1) := by decide +kernel
theorem dL_law_646 : decode cL_law 646 = .ok (.iaload, 1) := by decide +kernel
theorem dL_law_647 : decode cL_law 647 = .ok (.aload_n 0, 1) := by decide +kernel
theorem dL_law_648 : decode cL_law 648 = .ok (.iload_n 3, 1) := by decide +kernel
theorem dL_law_649 : decode cL_law 649 = .ok (.iconst 2, 1) := by decide +kernel
theorem dL_law_650 : decode cL_law 650 = .ok (.iadd, 1) := by decide +kernel
theorem dL_law_651 : decode cL_law 651 = .ok (.iaload, 1) := by decide +kernel
theorem dL_law_652 : decode cL_law 652 = .ok (.aload_n 0, 1) := by decide +kernel
theorem dL_law_653 : decode cL_law 653 = .ok (.iload_n 3, 1) := by decide +kernel
theorem dL_law_654 : decode cL_law 654 = .ok (.iconst 3, 1) := by decide +kernel
theorem dL_law_655 : decode cL_law 655 = .ok (.iadd, 1) := by decide +kernel
theorem dL_law_656 : decode cL_law 656 = .ok (.iaload, 1) := by decide +kernel
theorem dL_law_657 : decode cL_law 657 = .ok (.invokevirtual 65, 3) := by decide +kernel
theorem dL_law_660 : decode cL_law 660 = .ok (.if_icmp .eq 255, 3) := by decide +kernel
theorem dL_law_663 : decode cL_law 663 = .ok (.iconst 0, 1) := by decide +kernel
theorem dL_law_664 : decode cL_law 664 = .ok (.ireturn, 1) := by decide +kernel
theorem dL_law_665 : decode cL_law 665 = .ok (.aload_n 1, 1) := by decide +kernel
theorem dL_law_666 : decode cL_law 666 = .ok (.aload_n 0, 1) := by decide +kernel
theorem dL_law_667 : decode cL_law 667 = .ok (.iload_n 3, 1) := by decide +kernel
theorem dL_law_668 : decode cL_law 668 = .ok (.iconst 1, 1) := by decide +kernel
theorem dL_law_669 : decode cL_law 669 = .ok (.iadd, 1) := by decide +kernel
theorem dL_law_670 : decode cL_law 670 = .ok (.iaload, 1) := by decide +kernel
theorem dL_law_671 : decode cL_law 671 = .ok (.aload_n 0, 1) := by decide +kernel
theorem dL_law_672 : decode cL_law 672 = .ok (.iload_n 3, 1) := by decide +kernel
theorem dL_law_673 : decode cL_law 673 = .ok (.iconst 2, 1) := by decide +kernel
theorem dL_law_674 : decode cL_law 674 = .ok (.iadd, 1) := by decide +kernel
theorem dL_law_675 : decode cL_law 675 = .ok (.iaload, 1) := by decide +kernel
theorem dL_law_676 : decode cL_law 676 = .ok (.aload_n 0, 1) := by decide +kernel
theorem dL_law_677 : decode cL_law 677 = .ok (.iload_n 3, 1) := by decide +kernel
theorem dL_law_678 : decode cL_law 678 = .ok (.iconst 3, 1) := by decide +kernel
theorem dL_law_679 : decode cL_law 679 = .ok (.iadd, 1) := by decide +kernel
theorem dL_law_680 : decode cL_law 680 = .ok (.iaload, 1) := by decide +kernel
theorem dL_law_681 : decode cL_law 681 = .ok (.invokevirtual 66, 3) := by decide +kernel
theorem dL_law_684 : decode cL_law 684 = .ok (.aload_n 2, 1) := by decide +kernel
theorem dL_law_685 : decode cL_law 685 = .ok (.aload_n 0, 1) := by decide +kernel
theorem dL_law_686 : decode cL_law 686 = .ok (.iload_n 3, 1) := by decide +kernel
theorem dL_law_687 : decode cL_law 687 = .ok (.iconst 1, 1) := by decide +kernel
theorem dL_law_688 : decode cL_law 688 = .ok (.iadd, 1) := by decide +kernel
theorem dL_law_689 : decode cL_law 689 = .ok (.iaload, 1) := by decide +kernel
theorem dL_law_690 : decode cL_law 690 = .ok (.aload_n 0, 1) := by decide +kernel
theorem dL_law_691 : decode cL_law 691 = .ok (.iload_n 3, 1) := by decide +kernel
theorem dL_law_692 : decode cL_law 692 = .ok (.iconst 2, 1) := by decide +kernel
theorem dL_law_693 : decode cL_law 693 = .ok (.iadd, 1) := by decide +kernel
theorem dL_law_694 : decode cL_law 694 = .ok (.iaload, 1) := by decide +kernel
theorem dL_law_695 : decode cL_law 695 = .ok (.aload_n 0, 1) := by decide +kernel
theorem dL_law_696 : decode cL_law 696 = .ok (.iload_n 3, 1) := by decide +kernel
theorem dL_law_697 : decode cL_law 697 = .ok (.iconst 3, 1) := by decide +kernel
theorem dL_law_698 : decode cL_law 698 = .ok (.iadd, 1) := by decide +kernel
theorem dL_law_699 : decode cL_law 699 = .ok (.iaload, 1) := by decide +kernel
theorem dL_law_700 : decode cL_law 700 = .ok (.invokevirtual 69, 3) := by decide +kernel
theorem dL_law_703 : decode cL_law 703 = .ok (.if_icmp .eq 212, 3) := by decide +kernel
theorem dL_law_706 : decode cL_law 706 = .ok (.iconst 0, 1) := by decide +kernel
theorem dL_law_707 : decode cL_law 707 = .ok (.ireturn, 1) := by decide +kernel
theorem dL_law_708 : decode cL_law 708 = .ok (.aload_n 1, 1) := by decide +kernel
theorem dL_law_709 : decode cL_law 709 = .ok (.aload_n 0, 1) := by decide +kernel
theorem dL_law_710 : decode cL_law 710 = .ok (.iload_n 3, 1) := by decide +kernel
theorem dL_law_711 : decode cL_law 711 = .ok (.iconst 1, 1) := by decide +kernel
theorem dL_law_712 : decode cL_law 712 = .ok (.iadd, 1) := by decide +kernel
theorem dL_law_713 : decode cL_law 713 = .ok (.iaload, 1) := by decide +kernel
theorem dL_law_714 : decode cL_law 714 = .ok (.invokevirtual 70, 3) := by decide +kernel
theorem dL_law_717 : decode cL_law 717 = .ok (.aload_n 2, 1) := by decide +kernel
theorem dL_law_718 : decode cL_law 718 = .ok (.aload_n 0, 1) := by decide +kernel
theorem dL_law_719 : decode cL_law 719 = .ok (.iload_n 3, 1) := by decide +kernel
theorem dL_law_720 : decode cL_law 720 = .ok (.iconst 1, 1) := by decide +kernel
theorem dL_law_721 : decode cL_law 721 = .ok (.iadd, 1) := by decide +kernel
theorem dL_law_722 : decode cL_law 722 = .ok (.iaload, 1) := by decide +kernel
theorem dL_law_723 : decode cL_law 723 = .ok (.invokevirtual 73, 3) := by decide +kernel
theorem dL_law_726 : decode cL_law 726 = .ok (.if_icmp .eq 189, 3) := by decide +kernel
theorem dL_law_729 : decode cL_law 729 = .ok (.iconst 0, 1) := by decide +kernel
theorem dL_law_730 : decode cL_law 730 = .ok (.ireturn, 1) := by decide +kernel
theorem dL_law_731 : decode cL_law 731 = .ok (.aload_n 1, 1) := by decide +kernel
theorem dL_law_732 : decode cL_law 732 = .ok (.aload_n 0, 1) := by decide +kernel
theorem dL_law_733 : decode cL_law 733 = .ok (.iload_n 3, 1) := by decide +kernel
theorem dL_law_734 : decode cL_law 734 = .ok (.iconst 1, 1) := by decide +kernel
theorem dL_law_735 : decode cL_law 735 = .ok (.iadd, 1) := by decide +kernel
theorem dL_law_736 : decode cL_law 736 = .ok (.iaload, 1) := by decide +kernel
theorem dL_law_737 : decode cL_law 737 = .ok (.aload_n 0, 1) := by decide +kernel
theorem dL_law_738 : decode cL_law 738 = .ok (.iload_n 3, 1) := by decide +kernel
theorem dL_law_739 : decode cL_law 739 = .ok (.iconst 2, 1) := by decide +kernel
theorem dL_law_740 : decode cL_law 740 = .ok (.iadd, 1) := by decide +kernel
theorem dL_law_741 : decode cL_law 741 = .ok (.iaload, 1) := by decide +kernel
theorem dL_law_742 : decode cL_law 742 = .ok (.aload_n 0, 1) := by decide +kernel
theorem dL_law_743 : decode cL_law 743 = .ok (.iload_n 3, 1) := by decide +kernel
theorem dL_law_744 : decode cL_law 744 = .ok (.iconst 3, 1) := by decide +kernel
theorem dL_law_745 : decode cL_law 745 = .ok (.iadd, 1) := by decide +kernel
theorem dL_law_746 : decode cL_law 746 = .ok (.iaload, 1) := by decide +kernel
theorem dL_law_747 : decode cL_law 747 = .ok (.invokevirtual 74, 3) := by decide +kernel
theorem dL_law_750 : decode cL_law 750 = .ok (.aload_n 2, 1) := by decide +kernel
theorem dL_law_751 : decode cL_law 751 = .ok (.aload_n 0, 1) := by decide +kernel
theorem dL_law_752 : decode cL_law 752 = .ok (.iload_n 3, 1) := by decide +kernel
theorem dL_law_753 : decode cL_law 753 = .ok (.iconst 1, 1) := by decide +kernel
theorem dL_law_754 : decode cL_law 754 = .ok (.iadd, 1) := by decide +kernel
theorem dL_law_755 : decode cL_law 755 = .ok (.iaload, 1) := by decide +kernel
theorem dL_law_756 : decode cL_law 756 = .ok (.aload_n 0, 1) := by decide +kernel
theorem dL_law_757 : decode cL_law 757 = .ok (.iload_n 3, 1) := by decide +kernel
theorem dL_law_758 : decode cL_law 758 = .ok (.iconst 2, 1) := by decide +kernel
theorem dL_law_759 : decode cL_law 759 = .ok (.iadd, 1) := by decide +kernel
theorem dL_law_760 : decode cL_law 760 = .ok (.iaload, 1) := by decide +kernel
theorem dL_law_761 : decode cL_law 761 = .ok (.aload_n 0, 1) := by decide +kernel
theorem dL_law_762 : decode cL_law 762 = .ok (.iload_n 3, 1) := by decide +kernel
theorem dL_law_763 : decode cL_law 763 = .ok (.iconst 3, 1) := by decide +kernel
theorem dL_law_764 : decode cL_law 764 = .ok (.iadd, 1) := by decide +kernel
theorem dL_law_765 : decode cL_law 765 = .ok (.iaload, 1) := by decide +kernel
theorem dL_law_766 : decode cL_law 766 = .ok (.invokevirtual 77, 3) := by decide +kernel
theorem dL_law_769 : decode cL_law 769 = .ok (.if_icmp .eq 146, 3) := by decide +kernel
theorem dL_law_772 : decode cL_law 772 = .ok (.iconst 0, 1) := by decide +kernel
theorem dL_law_773 : decode cL_law 773 = .ok (.ireturn, 1) := by decide +kernel
theorem dL_law_774 : decode cL_law 774 = .ok (.aload_n 1, 1) := by decide +kernel
theorem dL_law_775 : decode cL_law 775 = .ok (.aload_n 0, 1) := by decide +kernel
theorem dL_law_776 : decode cL_law 776 = .ok (.iload_n 3, 1) := by decide +kernel
theorem dL_law_777 : decode cL_law 777 = .ok (.iconst 1, 1) := by decide +kernel
theorem dL_law_778 : decode cL_law 778 = .ok (.iadd, 1) := by decide +kernel
theorem dL_law_779 : decode cL_law 779 = .ok (.iaload, 1) := by decide +kernel
theorem dL_law_780 : decode cL_law 780 = .ok (.invokevirtual 78, 3) := by decide +kernel
theorem dL_law_783 : decode cL_law 783 = .ok (.aload_n 2, 1) := by decide +kernel
theorem dL_law_784 : decode cL_law 784 = .ok (.aload_n 0, 1) := by decide +kernel
theorem dL_law_785 : decode cL_law 785 = .ok (.iload_n 3, 1) := by decide +kernel
theorem dL_law_786 : decode cL_law 786 = .ok (.iconst 1, 1) := by decide +kernel
theorem dL_law_787 : decode cL_law 787 = .ok (.iadd, 1) := by decide +kernel
theorem dL_law_788 : decode cL_law 788 = .ok (.iaload, 1) := by decide +kernel
theorem dL_law_789 : decode cL_law 789 = .ok (.invokevirtual 81, 3) := by decide +kernel
theorem dL_law_792 : decode cL_law 792 = .ok (.if_icmp .eq 123, 3) := by decide +kernel
theorem dL_law_795 : decode cL_law 795 = .ok (.iconst 0, 1) := by decide +kernel
theorem dL_law_796 : decode cL_law 796 = .ok (.ireturn, 1) := by decide +kernel
theorem dL_law_797 : decode cL_law 797 = .ok (.aload_n 1, 1) := by decide +kernel
theorem dL_law_798 : decode cL_law 798 = .ok (.invokevirtual 82, 3) := by decide +kernel
theorem dL_law_801 : decode cL_law 801 = .ok (.aload_n 2, 1) := by decide +kernel
theorem dL_law_802 : decode cL_law 802 = .ok (.invokevirtual 86, 3) := by decide +kernel
theorem dL_law_805 : decode cL_law 805 = .ok (.if_icmp .eq 110, 3) := by decide +kernel
theorem dL_law_808 : decode cL_law 808 = .ok (.iconst 0, 1) := by decide +kernel
theorem dL_law_809 : decode cL_law 809 = .ok (.ireturn, 1) := by decide +kernel
theorem dL_law_810 : decode cL_law 810 = .ok (.aload_n 1, 1) := by decide +kernel
theorem dL_law_811 : decode cL_law 811 = .ok (.aload_n 0, 1) := by decide +kernel
theorem dL_law_812 : decode cL_law 812 = .ok (.iload_n 3, 1) := by decide +kernel
theorem dL_law_813 : decode cL_law 813 = .ok (.iconst 1, 1) := by decide +kernel
theorem dL_law_814 : decode cL_law 814 = .ok (.iadd, 1) := by decide +kernel
theorem dL_law_815 : decode cL_law 815 = .ok (.iaload, 1) := by decide +kernel
theorem dL_law_816 : decode cL_law 816 = .ok (.aload_n 0, 1) := by decide +kernel
theorem dL_law_817 : decode cL_law 817 = .ok (.iload_n 3, 1) := by decide +kernel
theorem dL_law_818 : decode cL_law 818 = .ok (.iconst 2, 1) := by decide +kernel
theorem dL_law_819 : decode cL_law 819 = .ok (.iadd, 1) := by decide +kernel
theorem dL_law_820 : decode cL_law 820 = .ok (.iaload, 1) := by decide +kernel
theorem dL_law_821 : decode cL_law 821 = .ok (.invokevirtual 87, 3) := by decide +kernel
theorem dL_law_824 : decode cL_law 824 = .ok (.aload_n 2, 1) := by decide +kernel
theorem dL_law_825 : decode cL_law 825 = .ok (.aload_n 0, 1) := by decide +kernel
theorem dL_law_826 : decode cL_law 826 = .ok (.iload_n 3, 1) := by decide +kernel
theorem dL_law_827 : decode cL_law 827 = .ok (.iconst 1, 1) := by decide +kernel
theorem dL_law_828 : decode cL_law 828 = .ok (.iadd, 1) := by decide +kernel
theorem dL_law_829 : decode cL_law 829 = .ok (.iaload, 1) := by decide +kernel
theorem dL_law_830 : decode cL_law 830 = .ok (.aload_n 0, 1) := by decide +kernel
theorem dL_law_831 : decode cL_law 831 = .ok (.iload_n 3, 1) := by decide +kernel
theorem dL_law_832 : decode cL_law 832 = .ok (.iconst 2, 1) := by decide +kernel
theorem dL_law_833 : decode cL_law 833 = .ok (.iadd, 1) := by decide +kernel
theorem dL_law_834 : decode cL_law 834 = .ok (.iaload, 1) := by decide +kernel
theorem dL_law_835 : decode cL_law 835 = .ok (.invokevirtual 91, 3) := by decide +kernel
theorem dL_law_838 : decode cL_law 838 = .ok (.if_icmp .eq 77, 3) := by decide +kernel
theorem dL_law_841 : decode cL_law 841 = .ok (.iconst 0, 1) := by decide +kernel
theorem dL_law_842 : decode cL_law 842 = .ok (.ireturn, 1) := by decide +kernel
theorem dL_law_843 : decode cL_law 843 = .ok (.aload_n 1, 1) := by decide +kernel
theorem dL_law_844 : decode cL_law 844 = .ok (.aload_n 0, 1) := by decide +kernel
theorem dL_law_845 : decode cL_law 845 = .ok (.iload_n 3, 1) := by decide +kernel
theorem dL_law_846 : decode cL_law 846 = .ok (.iconst 1, 1) := by decide +kernel
theorem dL_law_847 : decode cL_law 847 = .ok (.iadd, 1) := by decide +kernel
theorem dL_law_848 : decode cL_law 848 = .ok (.iaload, 1) := by decide +kernel
theorem dL_law_849 : decode cL_law 849 = .ok (.invokevirtual 92, 3) := by decide +kernel
theorem dL_law_852 : decode cL_law 852 = .ok (.aload_n 2, 1) := by decide +kernel
theorem dL_law_853 : decode cL_law 853 = .ok (.aload_n 0, 1) := by decide +kernel
theorem dL_law_854 : decode cL_law 854 = .ok (.iload_n 3, 1) := by decide +kernel
theorem dL_law_855 : decode cL_law 855 = .ok (.iconst 1, 1) := by decide +kernel
theorem dL_law_856 : decode cL_law 856 = .ok (.iadd, 1) := by decide +kernel
theorem dL_law_857 : decode cL_law 857 = .ok (.iaload, 1) := by decide +kernel
theorem dL_law_858 : decode cL_law 858 = .ok (.invokevirtual 95, 3) := by decide +kernel
theorem dL_law_861 : decode cL_law 861 = .ok (.if_icmp .eq 54, 3) := by decide +kernel
theorem dL_law_864 : decode cL_law 864 = .ok (.iconst 0, 1) := by decide +kernel
theorem dL_law_865 : decode cL_law 865 = .ok (.ireturn, 1) := by decide +kernel
theorem dL_law_866 : decode cL_law 866 = .ok (.aload_n 1, 1) := by decide +kernel
theorem dL_law_867 : decode cL_law 867 = .ok (.invokevirtual 96, 3) := by decide +kernel
theorem dL_law_870 : decode cL_law 870 = .ok (.aload_n 2, 1) := by decide +kernel
theorem dL_law_871 : decode cL_law 871 = .ok (.invokevirtual 99, 3) := by decide +kernel
theorem dL_law_874 : decode cL_law 874 = .ok (.if_icmp .eq 41, 3) := by decide +kernel
theorem dL_law_877 : decode cL_law 877 = .ok (.iconst 0, 1) := by decide +kernel
theorem dL_law_878 : decode cL_law 878 = .ok (.ireturn, 1) := by decide +kernel
theorem dL_law_879 : decode cL_law 879 = .ok (.aload_n 1, 1) := by decide +kernel
theorem dL_law_880 : decode cL_law 880 = .ok (.aload_n 0, 1) := by decide +kernel
theorem dL_law_881 : decode cL_law 881 = .ok (.iload_n 3, 1) := by decide +kernel
theorem dL_law_882 : decode cL_law 882 = .ok (.iconst 1, 1) := by decide +kernel
theorem dL_law_883 : decode cL_law 883 = .ok (.iadd, 1) := by decide +kernel
theorem dL_law_884 : decode cL_law 884 = .ok (.iaload, 1) := by decide +kernel
theorem dL_law_885 : decode cL_law 885 = .ok (.invokevirtual 100, 3) := by decide +kernel
theorem dL_law_888 : decode cL_law 888 = .ok (.aload_n 2, 1) := by decide +kernel
theorem dL_law_889 : decode cL_law 889 = .ok (.aload_n 0, 1) := by decide +kernel
theorem dL_law_890 : decode cL_law 890 = .ok (.iload_n 3, 1) := by decide +kernel
theorem dL_law_891 : decode cL_law 891 = .ok (.iconst 1, 1) := by decide +kernel
theorem dL_law_892 : decode cL_law 892 = .ok (.iadd, 1) := by decide +kernel
theorem dL_law_893 : decode cL_law 893 = .ok (.iaload, 1) := by decide +kernel
theorem dL_law_894 : decode cL_law 894 = .ok (.invokevirtual 103, 3) := by decide +kernel
theorem dL_law_897 : decode cL_law 897 = .ok (.if_icmp .eq 18, 3) := by decide +kernel
theorem dL_law_900 : decode cL_law 900 = .ok (.iconst 0, 1) := by decide +kernel
theorem dL_law_901 : decode cL_law 901 = .ok (.ireturn, 1) := by decide +kernel
theorem dL_law_902 : decode cL_law 902 = .ok (.aload_n 1, 1) := by decide +kernel
theorem dL_law_903 : decode cL_law 903 = .ok (.invokevirtual 104, 3) := by decide +kernel
theorem dL_law_906 : decode cL_law 906 = .ok (.aload_n 2, 1) := by decide +kernel
theorem dL_law_907 : decode cL_law 907 = .ok (.invokevirtual 107, 3) := by decide +kernel
theorem dL_law_910 : decode cL_law 910 = .ok (.if_icmp .eq 5, 3) := by decide +kernel
theorem dL_law_913 : decode cL_law 913 = .ok (.iconst 0, 1) := by decide +kernel
theorem dL_law_914 : decode cL_law 914 = .ok (.ireturn, 1) := by decide +kernel
theorem dL_law_915 : decode cL_law 915 = .ok (.iinc 3 6, 3) := by decide +kernel
theorem dL_law_918 : decode cL_law 918 = .ok (.goto (-900), 3) := by decide +kernel
theorem dL_law_921 : decode cL_law 921 = .ok (.iconst 1, 1) := by decide +kernel
theorem dL_law_922 : decode cL_law 922 = .ok (.ireturn, 1) := by decide +kernel
end
section
-- ===== the state: int cells, long cells, references, by tag and place =====
abbrev St : Type := (Nat → Nat → Int32) × (Nat → Nat → Int64) × (Nat → Nat → Option Nat)
def wI (σ : St) (t k : Nat) (v : Int32) : St := (fun a => if a = t then upd (σ.1 t) k v else σ.1 a, σ.2)
def wL (σ : St) (t k : Nat) (v : Int64) : St := (σ.1, fun a => if a = t then vp_updL (σ.2.1 t) k v else σ.2.1 a, σ.2.2)
def wR (σ : St) (t k : Nat) (v : Option Nat) : St := (σ.1, σ.2.1, fun a => if a = t then va_up (σ.2.2 t) k v else σ.2.2 a)
def wC (σ : St) (t u sp dp n : Nat) : St := (fun a => if a = u then va_cpy (σ.1 t) (σ.1 u) sp dp n else σ.1 a, σ.2)
abbrev ix (i : Int32) : Nat := i.toNatClampNeg
/-- an index that must be in range -/
def grd {α : Type} (i : Int32) (n : Nat) (k : Option α) : Option α := if 0 ≤ i.toInt ∧ i.toInt < n then k else none
theorem grd_some {α : Type} {i : Int32} {n : Nat} {k : Option α} {z : α} (h : grd i n k = some z) : vp_in i n ∧ k = some z := by
  unfold grd at h
  split at h
  · rename_i q
    exact ⟨vp_in_iff.mpr q, h⟩
  · cases h
/-- a divisor that must not be 0 -/
def dvI {α : Type} (i : Int32) (k : Option α) : Option α := if i = 0 then none else k
def dvL {α : Type} (i : Int64) (k : Option α) : Option α := if i = 0 then none else k
theorem dvI_some {α : Type} {i : Int32} {k : Option α} {z : α} (h : dvI i k = some z) : ¬ i = 0 ∧ k = some z := by
  unfold dvI at h
  split at h
  · cases h
  · rename_i q
    exact ⟨q, h⟩
theorem dvL_some {α : Type} {i : Int64} {k : Option α} {z : α} (h : dvL i k = some z) : ¬ i = 0 ∧ k = some z := by
  unfold dvL at h
  split at h
  · cases h
  · rename_i q
    exact ⟨q, h⟩
/-- a copy whose bounds must hold -/
def cpyG {α : Type} (sp dp n : Int32) (a b : Nat) (k : Option α) : Option α := if 0 ≤ sp.toInt ∧ 0 ≤ dp.toInt ∧ 0 ≤ n.toInt ∧ sp.toInt + n.toInt ≤ a ∧ dp.toInt + n.toInt ≤ b then k else none
theorem ite_t {α : Type} {c : Prop} [Decidable c] {a b z : α} (h : c) (hf : (if c then a else b) = z) : a = z := by rw [if_pos h] at hf; exact hf
theorem ite_f {α : Type} {c : Prop} [Decidable c] {a b z : α} (h : ¬ c) (hf : (if c then a else b) = z) : b = z := by rw [if_neg h] at hf; exact hf
theorem bind_s {α β : Type} {o : Option α} {f : α → Option β} {z : β} (h : o.bind f = some z) : ∃ a, o = some a ∧ f a = some z := by
  cases o with
  | none => cases h
  | some a => exact ⟨a, rfl, h⟩
theorem bind_p {α α' β : Type} {o : Option (α × α')} {f : α × α' → Option β} {z : β} (h : o.bind f = some z) : ∃ a b, o = some (a, b) ∧ f (a, b) = some z := by
  cases o with
  | none => cases h
  | some a => exact ⟨a.1, a.2, rfl, h⟩
def FU : Nat := 10000
-- ===== the world =====
abbrev Wp : Type := (Nat → Prop) × (Nat → Nat) × (Nat → Nat) × (Nat → Nat) × va_G × ClassId × ClassId × ClassId × ClassId
abbrev wA (w : Wp) : Nat → Prop := w.1
abbrev wa (w : Wp) : Nat → Nat := w.2.1
abbrev wK (w : Wp) : Nat → Nat := w.2.2.1
abbrev wl (w : Wp) : Nat → Nat := w.2.2.2.1
abbrev wD (w : Wp) : va_G := w.2.2.2.2.1
abbrev wcI (w : Wp) : ClassId := w.2.2.2.2.2.1
abbrev wcJ (w : Wp) : ClassId := w.2.2.2.2.2.2.1
abbrev wcF (w : Wp) : ClassId := w.2.2.2.2.2.2.2.1
abbrev wcM (w : Wp) : ClassId := w.2.2.2.2.2.2.2.2
def rv (w : Wp) (o : Option Nat) : Value := va_rf (o.map (wa w))
abbrev rf (w : Wp) (t : Nat) : Value := .ref (wa w t)
/-- the fields of each class, the refs by their tags -/
def fs0 (w : Wp) (t : Nat) (i : Nat → Int32) (_ : Nat → Int64) : List Value := [.int (i 0), .int (i 1), .int (i 2), .int (i 3), rf w (t+1), rf w (t+2), rf w (t+3), .int (i 7)]
def fs1 (_ : Wp) (_ : Nat) (i : Nat → Int32) (_ : Nat → Int64) : List Value := [.int (i 0), .int (i 1), .int (i 2), .int (i 3), .int (i 4), .int (i 5), .int (i 6), .int (i 7)]
def fs2 (w : Wp) (t : Nat) (i : Nat → Int32) (_ : Nat → Int64) : List Value := [rf w (t+1), rf w (t+2), rf w (t+3), rf w (t+4), .int (i 4), .int (i 5), .int (i 6), .int (i 7), .int (i 8)]
def fs3 (w : Wp) (t : Nat) (i : Nat → Int32) (_ : Nat → Int64) : List Value := [rf w (t+1), .int (i 1), rf w (t+2)]
def fs4 (w : Wp) (t : Nat) (i : Nat → Int32) (_ : Nat → Int64) : List Value := [rf w (t+1), .int (i 1)]
def fs5 (_ : Wp) (_ : Nat) (_ : Nat → Int32) (l : Nat → Int64) : List Value := [.long (l 0), .long (l 1), .long (l 2), .long (l 3)]
def fs6 (w : Wp) (t : Nat) (i : Nat → Int32) (_ : Nat → Int64) : List Value := [.int (i 0), .int (i 1), rf w (t+1), rf w (t+2), rf w (t+4), rf w (t+7), rf w (t+12), rf w (t+17), rf w (t+18)]
def fs7 (w : Wp) (t : Nat) (i : Nat → Int32) (_ : Nat → Int64) : List Value := [.int (i 0), .int (i 1), rf w (t+1), rf w (t+2), rf w (t+3), rf w (t+4), rf w (t+5), rf w (t+6), rf w (t+7), .int (i 9), rf w (t+8), rf w (t+9), rf w (t+10), rf w (t+11), rf w (t+12), rf w (t+13), rf w (t+14), rf w (t+15), rf w (t+16), rf w (t+17), rf w (t+18), rf w (t+19), rf w (t+20), .int (i 23), rf w (t+21), rf w (t+22), rf w (t+23)]
/-- a cell by its kind: 1..8 the classes 0..7, 9 int[], 10 long[], 11 Figure[], 12 Move[] -/
def ce (w : Wp) (t : Nat) (i : Nat → Int32) (l : Nat → Int64) (r : Nat → Option Nat) : va_E := match wK w t with
  | 1 => .inr (0, fs0 w t i l)
  | 2 => .inr (1, fs1 w t i l)
  | 3 => .inr (2, fs2 w t i l)
  | 4 => .inr (3, fs3 w t i l)
  | 5 => .inr (4, fs4 w t i l)
  | 6 => .inr (5, fs5 w t i l)
  | 7 => .inr (6, fs6 w t i l)
  | 8 => .inr (7, fs7 w t i l)
  | 9 => .inl (wcI w, wl w t, .inl i)
  | 10 => .inl (wcJ w, wl w t, .inr (.inl l))
  | 11 => .inl (wcF w, wl w t, .inr (.inr (.inr (.inr (fun j => (r j).map (wa w))))))
  | 13 => .inr (0, [.int 0, .int 0, .int 0, .int 0, .null, .null, .null, .int 0])
  | 14 => .inr (1, [.int 0, .int 0, .int 0, .int 0, .int 0, .int 0, .int 0, .int 0])
  | 12 => .inl (wcM w, wl w t, .inr (.inr (.inr (.inr (fun j => (r j).map (wa w))))))
  | _ => .inr (1, [])
abbrev ceS (w : Wp) (t : Nat) (σ : St) : va_E := ce w t (σ.1 t) (σ.2.1 t) (σ.2.2 t)
section CE
variable {w : Wp} {t : Nat} {i : Nat → Int32} {l : Nat → Int64} {r : Nat → Option Nat}
theorem ce1 (h : wK w t = 1) : ce w t i l r = .inr (0, fs0 w t i l) := by simp only [ce, h]
theorem ce2 (h : wK w t = 2) : ce w t i l r = .inr (1, fs1 w t i l) := by simp only [ce, h]
theorem ce3 (h : wK w t = 3) : ce w t i l r = .inr (2, fs2 w t i l) := by simp only [ce, h]
theorem ce4 (h : wK w t = 4) : ce w t i l r = .inr (3, fs3 w t i l) := by simp only [ce, h]
theorem ce5 (h : wK w t = 5) : ce w t i l r = .inr (4, fs4 w t i l) := by simp only [ce, h]
theorem ce6 (h : wK w t = 6) : ce w t i l r = .inr (5, fs5 w t i l) := by simp only [ce, h]
theorem ce7 (h : wK w t = 7) : ce w t i l r = .inr (6, fs6 w t i l) := by simp only [ce, h]
theorem ce8 (h : wK w t = 8) : ce w t i l r = .inr (7, fs7 w t i l) := by simp only [ce, h]
theorem ce9 (h : wK w t = 9) : ce w t i l r = .inl (wcI w, wl w t, .inl i) := by simp only [ce, h]
theorem ce10 (h : wK w t = 10) : ce w t i l r = .inl (wcJ w, wl w t, .inr (.inl l)) := by simp only [ce, h]
theorem ce11 (h : wK w t = 11) : ce w t i l r = .inl (wcF w, wl w t, .inr (.inr (.inr (.inr (fun j => (r j).map (wa w)))))) := by simp only [ce, h]
theorem ce12 (h : wK w t = 12) : ce w t i l r = .inl (wcM w, wl w t, .inr (.inr (.inr (.inr (fun j => (r j).map (wa w)))))) := by simp only [ce, h]
theorem ce13 (h : wK w t = 13) : ce w t i l r = .inr (0, [.int 0, .int 0, .int 0, .int 0, .null, .null, .null, .int 0]) := by simp only [ce, h]
theorem ce14 (h : wK w t = 14) : ce w t i l r = .inr (1, [.int 0, .int 0, .int 0, .int 0, .int 0, .int 0, .int 0, .int 0]) := by simp only [ce, h]
end CE
/-- what refs lead to -/
def WT (w : Wp) (σ : St) : Prop := (∀ t j t', wK w t = 11 → σ.2.2 t j = some t' → wK w t' = 1) ∧ (∀ t j t', wK w t = 12 → σ.2.2 t j = some t' → wK w t' = 2) ∧ ∀ t t', wK w t ≠ 0 → wK w t' ≠ 0 → wa w t = wa w t' → t = t'
def Wd (w : Wp) (σ : St) (H : Heap) : Prop := (∀ t, wK w t ≠ 0 → va_at (wD w) vwCl (wa w t, ceS w t σ) H ∧ wA w (wa w t)) ∧ WT w σ
/-- the tables' words that a call doesn't keep by itself -/
def NZ (U : State) : Prop := va_Nw (.methodLinkNest "JointedShadows$Figure" 37 yX6_inRange "JointedShadows") U ∧ va_Nw (.fieldLinkNest "JointedShadows$Pose" 124 "JointedShadows" "STEP_X" "[I" "JointedShadows") U ∧ va_Nw (.fieldLinkNest "JointedShadows$Pose" 127 "JointedShadows" "STEP_Y" "[I" "JointedShadows") U
theorem NZ.warm {s U : State} (hW : s.WarmedH U.vm) (h : NZ s) : NZ U := ⟨va_Nw.warmM hW h.1, va_Nw.warmF hW h.2.1, va_Nw.warmF hW h.2.2⟩
theorem NZ.same {s U : State} (hv : s.vm = U.vm) (h : NZ s) : NZ U := ⟨va_Nw.same rfl hv h.1, va_Nw.same rfl hv h.2.1, va_Nw.same rfl hv h.2.2⟩
def stX : Nat → Int32 := fun j => [1, 1, 0, -1, -1, -1, 0, 1].getD j 0
def stY : Nat → Int32 := fun j => [0, 1, 1, 1, 0, -1, -1, -1].getD j 0
abbrev TYS (w : Wp) : List (ClassId × FieldType) := [(wcI w, .int), (wcJ w, .long), (wcF w, .object "JointedShadows$Figure"), (wcM w, .object "JointedShadows$Move")]
def SX (w : Wp) (U : State) (H : Heap) : Prop := ∃ a b : Nat, va_Z "JointedShadows" "STEP_X" "[I" (.ref a) (wA w) U H ∧ va_T .int a 8 (fun j => .int (stX j)) (wA w) U H ∧ va_Z "JointedShadows" "STEP_Y" "[I" (.ref b) (wA w) U H ∧ va_T .int b 8 (fun j => .int (stY j)) (wA w) U H
def Kx (w : Wp) (U : State) : Prop := va_K (wD w) vwCl (TYS w) U ∧ NZ U ∧ SX w U U.heap ∧ ∀ q, U.heap.size ≤ q → wA w q
/-- a contract's start and ends -/
def Pre (w : Wp) (σ : St) (av : List Value) : Array Value → State → Prop := va_Pc av (fun U => Wd w σ U.heap ∧ Kx w U)
abbrev QI := Array Value → State → Outcome → State → Prop
def Qi (w : Wp) (σ : St) (r : Int32) : QI := va_Qi (fun r' (_ : Unit) => r' = r) (fun _ t => Wd w σ t.heap) (wA w)
def Bz (r : Int32) : Prop := narrow .boolean (.int r) = .int r
def Qz (w : Wp) (σ : St) (r : Int32) : QI := va_Qi (fun r' (_ : Unit) => r' = r ∧ Bz r) (fun _ t => Wd w σ t.heap) (wA w)
def Ql (w : Wp) (σ : St) (r : Int64) : QI := va_Ql (fun r' (_ : Unit) => r' = r) (fun _ t => Wd w σ t.heap) (wA w)
def Qv (w : Wp) (σ : St) : QI := va_Qv (fun (_ : Unit) => True) (fun _ t => Wd w σ t.heap) (wA w)
/-- a reference or null: its tag, and the kind that it has -/
def Qq (w : Wp) (σ : St) (kd : Nat) (r : Option Nat) : QI := va_Qq (fun r' (_ : Unit) => r' = r.map (wa w) ∧ ∀ t, r = some t → wK w t = kd) (fun _ t => Wd w σ t.heap) (wA w)
abbrev CM (l : Launch) (w : Wp) (y : MethodName) (b : ByteArray) (n : Nat) (ret : Option FieldType) (rm : Room) (av : List Value) (σ : St) (Q : QI) : Prop := Met l y (.code y b n ret :: GT) rm (Pre w σ av) Q rm.cells rm.slots (wA w)
abbrev rmz (f n : Nat) : Room := { frames := f, cells := 0, slots := 0, locals := n }
-- ===== the judgement =====
abbrev Cx : Type := Program × Launch × Env × Room × State × MethodId × Array Value × List Frame × Method × Code × (State → Prop) × Nat × Nat
abbrev xp (X : Cx) : Program := X.1
abbrev xl (X : Cx) : Launch := X.2.1
abbrev xe (X : Cx) : Env := X.2.2.1
abbrev xR (X : Cx) : Room := X.2.2.2.1
abbrev xs (X : Cx) : State := X.2.2.2.2.1
abbrev xm (X : Cx) : MethodId := X.2.2.2.2.2.1
abbrev xa (X : Cx) : Array Value := X.2.2.2.2.2.2.1
abbrev xb (X : Cx) : List Frame := X.2.2.2.2.2.2.2.1
abbrev xM (X : Cx) : Method := X.2.2.2.2.2.2.2.2.1
abbrev xc (X : Cx) : Code := X.2.2.2.2.2.2.2.2.2.1
abbrev xQ (X : Cx) : State → Prop := X.2.2.2.2.2.2.2.2.2.2.1
abbrev xcl (X : Cx) : Nat := X.2.2.2.2.2.2.2.2.2.2.2.1
abbrev xsl (X : Cx) : Nat := X.2.2.2.2.2.2.2.2.2.2.2.2
def J (X : Cx) (w : Wp) (nL : Nat) (σ : St) (pc : Nat) (lv : List (Nat × Value)) (st : List Value) : Prop :=
  ∀ (H : Heap) (locs : List Loc) (ls : Array Slot), Wd w σ H → va_S (wA w) (xs X).heap H locs → lv_has ls nL lv → W (xp X) (xl X) (xe X) (xR X) (xs X) (xm X) (xa X) (xb X) (xM X) (xc X) H locs (xcl X) (xsl X) (xQ X) (F0 (xm X) pc ls st)
/-- what a method's body knows -/
def OK (X : Cx) (w : Wp) (cc : ByteArray) (nL : Nat) (own : String) (ret : Option FieldType) (rm : Room) (Q : QI) : Prop :=
  (xp X).tables.exec = Jvm.exec ∧ (xc X).code = cc ∧ (xc X).maxLocals = nL ∧ (xs X).vm.findClass own = some (xm X).cls ∧ (∀ w ∈ GT, w.before (xa X) (xs X) = true) ∧ Kx w (xs X) ∧ (xM X).sig.returnType = ret ∧ (xM X).locks = false ∧ xR X = rm ∧ xQ X = MQ (xb X) Q (xa X) (xs X) rm.cells rm.slots (wA w) ∧ xcl X ≤ rm.cells ∧ xsl X ≤ rm.slots
theorem CM.of {l : Launch} {w : Wp} {y : MethodName} {b : ByteArray} {n : Nat} {ret : Option FieldType} {rm : Room} {av : List Value} {σ : St} {Q : QI} (hy : plainFor y = true) (hn : (lg_sl av).length ≤ n)
    (body : ∀ X : Cx, xcl X = 0 ∧ xsl X = 0 → OK X w b n y.cls ret rm Q → J X w n σ 0 (lv_args 0 av) []) : CM l w y b n ret rm av σ Q := by
  refine va_MetF (cc := b) (maxL := n) (ret := ret) hy rfl ?_
  intro p e s m args below meth c s₁ B hml hv
  obtain ⟨rfl, hWd, hK⟩ := hv
  have hts := atoms_spec (ws := .code y b n ret :: GT) B.pre
  have hown : s.vm.findClass y.cls = some m.cls := findClass_of_methodNamed B.named
  have hl := lv_entry av (n := n) hn
  rw [lg_entry_eq]
  exact body (p, l, e, rm, s, m, av.toArray, below, meth, c, MQ below Q av.toArray s rm.cells rm.slots (wA w), 0, 0) ⟨rfl, rfl⟩ ⟨B.exec, B.bytes, hml, hown, fun w hw => hts w (List.mem_cons_of_mem _ hw), hK, B.returns, B.notSynchronized, rfl, rfl, Nat.zero_le _, Nat.zero_le _⟩ s.heap [] _ hWd va_S.rf hl
section ROWS
variable {X : Cx} {w : Wp} {cc : ByteArray} {nL : Nat} {own : String} {ret : Option FieldType} {rm : Room} {Q : QI} {σ : St} {pc : Nat} {lv lv' : List (Nat × Value)} {rest : List Value}
theorem J.sub (ks : List Nat) (h : lv_pick lv ks = lv') (k : J X w nL σ pc lv' rest) : J X w nL σ pc lv rest := fun H locs ls a b c => k H locs ls a b (lv_sub c ks h)
theorem r_iconst (hX : OK X w cc nL own ret rm Q) {n : Int} {v : Int32} (hdg : decode cc pc = .ok (.iconst n, 1)) (hv : Int32.ofInt n = v) (k : J X w nL σ (pc + 1) lv (.int v :: rest)) : J X w nL σ pc lv rest := fun H locs ls a b c => lv_iconst hX.1 hX.2.1 hdg hv (k H locs ls a b c)
theorem r_bipush (hX : OK X w cc nL own ret rm Q) {n : Int} {v : Int32} (hdg : decode cc pc = .ok (.bipush n, 2)) (hv : (Int8.ofInt n).toInt32 = v) (k : J X w nL σ (pc + 2) lv (.int v :: rest)) : J X w nL σ pc lv rest := fun H locs ls a b c => lv_bipush hX.1 hX.2.1 hdg hv (k H locs ls a b c)
theorem r_sipush (hX : OK X w cc nL own ret rm Q) {n : Int} {v : Int32} (hdg : decode cc pc = .ok (.sipush n, 3)) (hv : (Int16.ofInt n).toInt32 = v) (k : J X w nL σ (pc + 3) lv (.int v :: rest)) : J X w nL σ pc lv rest := fun H locs ls a b c => lv_sipush hX.1 hX.2.1 hdg hv (k H locs ls a b c)
theorem r_lconst (hX : OK X w cc nL own ret rm Q) {n : Fin 2} {v : Int64} (hdg : decode cc pc = .ok (.lconst n, 1)) (hv : Int64.ofNat (n : Nat) = v) (k : J X w nL σ (pc + 1) lv (.long v :: rest)) : J X w nL σ pc lv rest := fun H locs ls a b c => lv_lconst hX.1 hX.2.1 hdg hv (k H locs ls a b c)
theorem r_iload_n (hX : OK X w cc nL own ret rm Q) {k : Fin 4} {i : Nat} {x : Int32} (hdg : decode cc pc = .ok (.iload_n k, 1)) (hi : (k : Nat) = i) (j : Nat) (hj : lv[j]? = some (i, .int x)) (kk : J X w nL σ (pc + 1) lv (.int x :: rest)) : J X w nL σ pc lv rest := fun H locs ls a b c => lv_iload_n hX.1 hX.2.1 hdg hi (lv_at c j hj) (kk H locs ls a b c)
theorem r_iload (hX : OK X w cc nL own ret rm Q) {i : Nat} {x : Int32} (hdg : decode cc pc = .ok (.iload i, 2)) (j : Nat) (hj : lv[j]? = some (i, .int x)) (kk : J X w nL σ (pc + 2) lv (.int x :: rest)) : J X w nL σ pc lv rest := fun H locs ls a b c => lv_iload hX.1 hX.2.1 hdg (lv_at c j hj) (kk H locs ls a b c)
theorem r_lload_n (hX : OK X w cc nL own ret rm Q) {k : Fin 4} {i : Nat} {x : Int64} (hdg : decode cc pc = .ok (.lload_n k, 1)) (hi : (k : Nat) = i) (j : Nat) (hj : lv[j]? = some (i, .long x)) (kk : J X w nL σ (pc + 1) lv (.long x :: rest)) : J X w nL σ pc lv rest := fun H locs ls a b c => lv_lload_n hX.1 hX.2.1 hdg hi (lv_at c j hj) (kk H locs ls a b c)
theorem r_lload (hX : OK X w cc nL own ret rm Q) {i : Nat} {x : Int64} (hdg : decode cc pc = .ok (.lload i, 2)) (j : Nat) (hj : lv[j]? = some (i, .long x)) (kk : J X w nL σ (pc + 2) lv (.long x :: rest)) : J X w nL σ pc lv rest := fun H locs ls a b c => lv_lload hX.1 hX.2.1 hdg (lv_at c j hj) (kk H locs ls a b c)
theorem r_aload_n (hX : OK X w cc nL own ret rm Q) {k : Fin 4} {i t : Nat} (hdg : decode cc pc = .ok (.aload_n k, 1)) (hi : (k : Nat) = i) (j : Nat) (hj : lv[j]? = some (i, rf w t)) (kk : J X w nL σ (pc + 1) lv (rf w t :: rest)) : J X w nL σ pc lv rest := fun H locs ls a b c => lv_aload_n hX.1 hX.2.1 hdg hi (lv_at c j hj) (kk H locs ls a b c)
theorem r_aload (hX : OK X w cc nL own ret rm Q) {i t : Nat} (hdg : decode cc pc = .ok (.aload i, 2)) (j : Nat) (hj : lv[j]? = some (i, rf w t)) (kk : J X w nL σ (pc + 2) lv (rf w t :: rest)) : J X w nL σ pc lv rest := fun H locs ls a b c => lv_aload hX.1 hX.2.1 hdg (lv_at c j hj) (kk H locs ls a b c)
theorem r_aload_nQ (hX : OK X w cc nL own ret rm Q) {k : Fin 4} {i : Nat} {o : Option Nat} (hdg : decode cc pc = .ok (.aload_n k, 1)) (hi : (k : Nat) = i) (j : Nat) (hj : lv[j]? = some (i, rv w o)) (kk : J X w nL σ (pc + 1) lv (rv w o :: rest)) : J X w nL σ pc lv rest := fun H locs ls a b c => by
  cases o with
  | none => exact lv_aload_nN hX.1 hX.2.1 hdg hi (lv_at c j hj) (kk H locs ls a b c)
  | some t => exact lv_aload_n hX.1 hX.2.1 hdg hi (lv_at c j hj) (kk H locs ls a b c)
theorem r_aloadQ (hX : OK X w cc nL own ret rm Q) {i : Nat} {o : Option Nat} (hdg : decode cc pc = .ok (.aload i, 2)) (j : Nat) (hj : lv[j]? = some (i, rv w o)) (kk : J X w nL σ (pc + 2) lv (rv w o :: rest)) : J X w nL σ pc lv rest := fun H locs ls a b c => by
  cases o with
  | none => exact lv_aloadN hX.1 hX.2.1 hdg (lv_at c j hj) (kk H locs ls a b c)
  | some t => exact lv_aload hX.1 hX.2.1 hdg (lv_at c j hj) (kk H locs ls a b c)
theorem r_istore_n (hX : OK X w cc nL own ret rm Q) {k : Fin 4} {i : Nat} {x : Int32} (hdg : decode cc pc = .ok (.istore_n k, 1)) (hi : (k : Nat) = i) (hn : i < nL) (hl : (i, Value.int x) :: lv.filter (fun q => !(q.1 == i) && !(q.1 + 1 == i && q.2.category == 2)) = lv') (kk : J X w nL σ (pc + 1) lv' rest) : J X w nL σ pc lv (.int x :: rest) := fun H locs _ a b c => lv_istore_n hX.1 hX.2.1 hdg hi c hn hl (fun ls' h' => kk H locs ls' a b h')
theorem r_istore (hX : OK X w cc nL own ret rm Q) {i : Nat} {x : Int32} (hdg : decode cc pc = .ok (.istore i, 2)) (hn : i < nL) (hl : (i, Value.int x) :: lv.filter (fun q => !(q.1 == i) && !(q.1 + 1 == i && q.2.category == 2)) = lv') (kk : J X w nL σ (pc + 2) lv' rest) : J X w nL σ pc lv (.int x :: rest) := fun H locs _ a b c => lv_istore hX.1 hX.2.1 hdg c hn hl (fun ls' h' => kk H locs ls' a b h')
theorem r_lstore_n (hX : OK X w cc nL own ret rm Q) {k : Fin 4} {i : Nat} {x : Int64} (hdg : decode cc pc = .ok (.lstore_n k, 1)) (hi : (k : Nat) = i) (hn : i + 1 < nL) (hl : (i, Value.long x) :: lv.filter (fun q => !(q.1 == i) && (!(q.1 == i + 1) && !(q.1 + 1 == i && q.2.category == 2))) = lv') (kk : J X w nL σ (pc + 1) lv' rest) : J X w nL σ pc lv (.long x :: rest) := fun H locs _ a b c => lv_lstore_n hX.1 hX.2.1 hdg hi c hn hl (fun ls' h' => kk H locs ls' a b h')
theorem r_lstore (hX : OK X w cc nL own ret rm Q) {i : Nat} {x : Int64} (hdg : decode cc pc = .ok (.lstore i, 2)) (hn : i + 1 < nL) (hl : (i, Value.long x) :: lv.filter (fun q => !(q.1 == i) && (!(q.1 == i + 1) && !(q.1 + 1 == i && q.2.category == 2))) = lv') (kk : J X w nL σ (pc + 2) lv' rest) : J X w nL σ pc lv (.long x :: rest) := fun H locs _ a b c => lv_lstore hX.1 hX.2.1 hdg c hn hl (fun ls' h' => kk H locs ls' a b h')
theorem r_astore_n (hX : OK X w cc nL own ret rm Q) {k : Fin 4} {i t : Nat} (hdg : decode cc pc = .ok (.astore_n k, 1)) (hi : (k : Nat) = i) (hn : i < nL) (hl : (i, rf w t) :: lv.filter (fun q => !(q.1 == i) && !(q.1 + 1 == i && q.2.category == 2)) = lv') (kk : J X w nL σ (pc + 1) lv' rest) : J X w nL σ pc lv (rf w t :: rest) := fun H locs _ a b c => lv_astore_n hX.1 hX.2.1 hdg hi c hn hl (fun ls' h' => kk H locs ls' a b h')
theorem r_astore (hX : OK X w cc nL own ret rm Q) {i t : Nat} (hdg : decode cc pc = .ok (.astore i, 2)) (hn : i < nL) (hl : (i, rf w t) :: lv.filter (fun q => !(q.1 == i) && !(q.1 + 1 == i && q.2.category == 2)) = lv') (kk : J X w nL σ (pc + 2) lv' rest) : J X w nL σ pc lv (rf w t :: rest) := fun H locs _ a b c => lv_astore hX.1 hX.2.1 hdg c hn hl (fun ls' h' => kk H locs ls' a b h')
theorem r_astore_nQ (hX : OK X w cc nL own ret rm Q) {k : Fin 4} {i : Nat} {o : Option Nat} (hdg : decode cc pc = .ok (.astore_n k, 1)) (hi : (k : Nat) = i) (hn : i < nL) (hl : (i, rv w o) :: lv.filter (fun q => !(q.1 == i) && !(q.1 + 1 == i && q.2.category == 2)) = lv') (kk : J X w nL σ (pc + 1) lv' rest) : J X w nL σ pc lv (rv w o :: rest) := fun H locs _ a b c => by
  cases o with
  | none => exact lv_astore_nN hX.1 hX.2.1 hdg hi c hn hl (fun ls' h' => kk H locs ls' a b h')
  | some t => exact lv_astore_n hX.1 hX.2.1 hdg hi c hn hl (fun ls' h' => kk H locs ls' a b h')
theorem r_astoreQ (hX : OK X w cc nL own ret rm Q) {i : Nat} {o : Option Nat} (hdg : decode cc pc = .ok (.astore i, 2)) (hn : i < nL) (hl : (i, rv w o) :: lv.filter (fun q => !(q.1 == i) && !(q.1 + 1 == i && q.2.category == 2)) = lv') (kk : J X w nL σ (pc + 2) lv' rest) : J X w nL σ pc lv (rv w o :: rest) := fun H locs _ a b c => by
  cases o with
  | none => exact lv_astoreN hX.1 hX.2.1 hdg c hn hl (fun ls' h' => kk H locs ls' a b h')
  | some t => exact lv_astore hX.1 hX.2.1 hdg c hn hl (fun ls' h' => kk H locs ls' a b h')
theorem r_iinc (hX : OK X w cc nL own ret rm Q) {i : Nat} {n : Int} {x v : Int32} (hdg : decode cc pc = .ok (.iinc i n, 3)) (j : Nat) (hj : lv[j]? = some (i, .int x)) (hv : x + Int32.ofInt n = v) (hn : i < nL) (hl : (i, Value.int v) :: lv.filter (fun q => !(q.1 == i) && !(q.1 + 1 == i && q.2.category == 2)) = lv') (kk : J X w nL σ (pc + 3) lv' rest) : J X w nL σ pc lv rest := fun H locs _ a b c => lv_iinc hX.1 hX.2.1 hdg c hj hv hn hl (fun ls' h' => kk H locs ls' a b h')
theorem r_iadd (hX : OK X w cc nL own ret rm Q) {x y : Int32} (hdg : decode cc pc = .ok (.iadd, 1)) (k : J X w nL σ (pc + 1) lv (.int (x + y) :: rest)) : J X w nL σ pc lv (.int y :: .int x :: rest) := fun H locs ls a b c => lv_iadd hX.1 hX.2.1 hdg (k H locs ls a b c)
theorem r_isub (hX : OK X w cc nL own ret rm Q) {x y : Int32} (hdg : decode cc pc = .ok (.isub, 1)) (k : J X w nL σ (pc + 1) lv (.int (x - y) :: rest)) : J X w nL σ pc lv (.int y :: .int x :: rest) := fun H locs ls a b c => lv_isub hX.1 hX.2.1 hdg (k H locs ls a b c)
theorem r_imul (hX : OK X w cc nL own ret rm Q) {x y : Int32} (hdg : decode cc pc = .ok (.imul, 1)) (k : J X w nL σ (pc + 1) lv (.int (x * y) :: rest)) : J X w nL σ pc lv (.int y :: .int x :: rest) := fun H locs ls a b c => lv_imul hX.1 hX.2.1 hdg (k H locs ls a b c)
theorem r_iand (hX : OK X w cc nL own ret rm Q) {x y : Int32} (hdg : decode cc pc = .ok (.iand, 1)) (k : J X w nL σ (pc + 1) lv (.int (x &&& y) :: rest)) : J X w nL σ pc lv (.int y :: .int x :: rest) := fun H locs ls a b c => lv_iand hX.1 hX.2.1 hdg (k H locs ls a b c)
theorem r_ior (hX : OK X w cc nL own ret rm Q) {x y : Int32} (hdg : decode cc pc = .ok (.ior, 1)) (k : J X w nL σ (pc + 1) lv (.int (x ||| y) :: rest)) : J X w nL σ pc lv (.int y :: .int x :: rest) := fun H locs ls a b c => lv_ior hX.1 hX.2.1 hdg (k H locs ls a b c)
theorem r_ixor (hX : OK X w cc nL own ret rm Q) {x y : Int32} (hdg : decode cc pc = .ok (.ixor, 1)) (k : J X w nL σ (pc + 1) lv (.int (x ^^^ y) :: rest)) : J X w nL σ pc lv (.int y :: .int x :: rest) := fun H locs ls a b c => lv_ixor hX.1 hX.2.1 hdg (k H locs ls a b c)
theorem r_idiv (hX : OK X w cc nL own ret rm Q) {x y : Int32} (hdg : decode cc pc = .ok (.idiv, 1)) (hne : ¬ y = 0) (k : J X w nL σ (pc + 1) lv (.int (x / y) :: rest)) : J X w nL σ pc lv (.int y :: .int x :: rest) := fun H locs ls a b c => lv_idiv hX.1 hX.2.1 hdg hne (k H locs ls a b c)
theorem r_irem (hX : OK X w cc nL own ret rm Q) {x y : Int32} (hdg : decode cc pc = .ok (.irem, 1)) (hne : ¬ y = 0) (k : J X w nL σ (pc + 1) lv (.int (x - x / y * y) :: rest)) : J X w nL σ pc lv (.int y :: .int x :: rest) := fun H locs ls a b c => lv_irem hX.1 hX.2.1 hdg hne (k H locs ls a b c)
theorem r_ineg (hX : OK X w cc nL own ret rm Q) {x : Int32} (hdg : decode cc pc = .ok (.ineg, 1)) (k : J X w nL σ (pc + 1) lv (.int (-x) :: rest)) : J X w nL σ pc lv (.int x :: rest) := fun H locs ls a b c => lv_ineg hX.1 hX.2.1 hdg (k H locs ls a b c)
theorem r_ladd (hX : OK X w cc nL own ret rm Q) {x y : Int64} (hdg : decode cc pc = .ok (.ladd, 1)) (k : J X w nL σ (pc + 1) lv (.long (x + y) :: rest)) : J X w nL σ pc lv (.long y :: .long x :: rest) := fun H locs ls a b c => lv_ladd hX.1 hX.2.1 hdg (k H locs ls a b c)
theorem r_lsub (hX : OK X w cc nL own ret rm Q) {x y : Int64} (hdg : decode cc pc = .ok (.lsub, 1)) (k : J X w nL σ (pc + 1) lv (.long (x - y) :: rest)) : J X w nL σ pc lv (.long y :: .long x :: rest) := fun H locs ls a b c => lv_lsub hX.1 hX.2.1 hdg (k H locs ls a b c)
theorem r_lmul (hX : OK X w cc nL own ret rm Q) {x y : Int64} (hdg : decode cc pc = .ok (.lmul, 1)) (k : J X w nL σ (pc + 1) lv (.long (x * y) :: rest)) : J X w nL σ pc lv (.long y :: .long x :: rest) := fun H locs ls a b c => lv_lmul hX.1 hX.2.1 hdg (k H locs ls a b c)
theorem r_land (hX : OK X w cc nL own ret rm Q) {x y : Int64} (hdg : decode cc pc = .ok (.land, 1)) (k : J X w nL σ (pc + 1) lv (.long (x &&& y) :: rest)) : J X w nL σ pc lv (.long y :: .long x :: rest) := fun H locs ls a b c => lv_land hX.1 hX.2.1 hdg (k H locs ls a b c)
theorem r_lor (hX : OK X w cc nL own ret rm Q) {x y : Int64} (hdg : decode cc pc = .ok (.lor, 1)) (k : J X w nL σ (pc + 1) lv (.long (x ||| y) :: rest)) : J X w nL σ pc lv (.long y :: .long x :: rest) := fun H locs ls a b c => lv_lor hX.1 hX.2.1 hdg (k H locs ls a b c)
theorem r_lxor (hX : OK X w cc nL own ret rm Q) {x y : Int64} (hdg : decode cc pc = .ok (.lxor, 1)) (k : J X w nL σ (pc + 1) lv (.long (x ^^^ y) :: rest)) : J X w nL σ pc lv (.long y :: .long x :: rest) := fun H locs ls a b c => lv_lxor hX.1 hX.2.1 hdg (k H locs ls a b c)
theorem r_ldiv (hX : OK X w cc nL own ret rm Q) {x y : Int64} (hdg : decode cc pc = .ok (.ldiv, 1)) (hne : ¬ y = 0) (k : J X w nL σ (pc + 1) lv (.long (x / y) :: rest)) : J X w nL σ pc lv (.long y :: .long x :: rest) := fun H locs ls a b c => lv_ldiv hX.1 hX.2.1 hdg hne (k H locs ls a b c)
theorem r_lrem (hX : OK X w cc nL own ret rm Q) {x y : Int64} (hdg : decode cc pc = .ok (.lrem, 1)) (hne : ¬ y = 0) (k : J X w nL σ (pc + 1) lv (.long (x - x / y * y) :: rest)) : J X w nL σ pc lv (.long y :: .long x :: rest) := fun H locs ls a b c => lv_lrem hX.1 hX.2.1 hdg hne (k H locs ls a b c)
theorem r_lneg (hX : OK X w cc nL own ret rm Q) {x : Int64} (hdg : decode cc pc = .ok (.lneg, 1)) (k : J X w nL σ (pc + 1) lv (.long (-x) :: rest)) : J X w nL σ pc lv (.long x :: rest) := fun H locs ls a b c => lv_lneg hX.1 hX.2.1 hdg (k H locs ls a b c)
theorem r_ishl (hX : OK X w cc nL own ret rm Q) {x y : Int32} (hdg : decode cc pc = .ok (.ishl, 1)) (k : J X w nL σ (pc + 1) lv (.int (x <<< (y &&& 31)) :: rest)) : J X w nL σ pc lv (.int y :: .int x :: rest) := fun H locs ls a b c => lv_ishl hX.1 hX.2.1 hdg (k H locs ls a b c)
theorem r_ishr (hX : OK X w cc nL own ret rm Q) {x y : Int32} (hdg : decode cc pc = .ok (.ishr, 1)) (k : J X w nL σ (pc + 1) lv (.int (x >>> (y &&& 31)) :: rest)) : J X w nL σ pc lv (.int y :: .int x :: rest) := fun H locs ls a b c => lv_ishr hX.1 hX.2.1 hdg (k H locs ls a b c)
def ush (x y : Int32) : Int32 := (x.toUInt32 >>> (y.toUInt32 &&& Int32.toUInt32 31)).toInt32
theorem r_iushr (hX : OK X w cc nL own ret rm Q) {x y : Int32} (hdg : decode cc pc = .ok (.iushr, 1)) (k : J X w nL σ (pc + 1) lv (.int (ush x y) :: rest)) : J X w nL σ pc lv (.int y :: .int x :: rest) := fun H locs ls a b c => lv_iushr hX.1 hX.2.1 hdg rfl (k H locs ls a b c)
theorem r_i2l (hX : OK X w cc nL own ret rm Q) {x : Int32} (hdg : decode cc pc = .ok (.i2l, 1)) (k : J X w nL σ (pc + 1) lv (.long x.toInt64 :: rest)) : J X w nL σ pc lv (.int x :: rest) := fun H locs ls a b c => lv_i2l hX.1 hX.2.1 hdg rfl (k H locs ls a b c)
theorem r_dup (hX : OK X w cc nL own ret rm Q) {va : Value} (hdg : decode cc pc = .ok (.dup, 1)) (h : va.category = 1) (k : J X w nL σ (pc + 1) lv (va :: va :: rest)) : J X w nL σ pc lv (va :: rest) := fun H locs ls a b c => lv_dup hX.1 hX.2.1 hdg h (k H locs ls a b c)
theorem r_pop (hX : OK X w cc nL own ret rm Q) {va : Value} (hdg : decode cc pc = .ok (.pop, 1)) (h : va.category = 1) (k : J X w nL σ (pc + 1) lv rest) : J X w nL σ pc lv (va :: rest) := fun H locs ls a b c => lv_pop hX.1 hX.2.1 hdg h (k H locs ls a b c)
theorem r_dup2 (hX : OK X w cc nL own ret rm Q) {va vb : Value} (hdg : decode cc pc = .ok (.dup2, 1)) (h : va.category = 1) (h2 : vb.category = 1) (k : J X w nL σ (pc + 1) lv (va :: vb :: va :: vb :: rest)) : J X w nL σ pc lv (va :: vb :: rest) := fun H locs ls a b c => lv_dup2_11 hX.1 hX.2.1 hdg h h2 (k H locs ls a b c)
theorem r_goto (hX : OK X w cc nL own ret rm Q) {off : Int} {tgt : Nat} (hdg : decode cc pc = .ok (.goto off, 3)) (ht : (pc : Int) + off = (tgt : Int)) (k : J X w nL σ tgt lv rest) : J X w nL σ pc lv rest := fun H locs ls a b c => lv_goto hX.1 hX.2.1 hdg ht (k H locs ls a b c)
theorem r_if_eq (hX : OK X w cc nL own ret rm Q) {x : Int32} {off : Int} {tgt : Nat} (hdg : decode cc pc = .ok (.ifCond .eq off, 3)) (ht : (pc : Int) + off = (tgt : Int)) (kt : x = 0 → J X w nL σ tgt lv rest) (kf : ¬ x = 0 → J X w nL σ (pc + 3) lv rest) : J X w nL σ pc lv (.int x :: rest) := fun H locs ls a b c => lv_if_eq hX.1 hX.2.1 hdg ht (fun h => kt h H locs ls a b c) (fun h => kf h H locs ls a b c)
theorem r_if_ne (hX : OK X w cc nL own ret rm Q) {x : Int32} {off : Int} {tgt : Nat} (hdg : decode cc pc = .ok (.ifCond .ne off, 3)) (ht : (pc : Int) + off = (tgt : Int)) (kt : ¬ x = 0 → J X w nL σ tgt lv rest) (kf : x = 0 → J X w nL σ (pc + 3) lv rest) : J X w nL σ pc lv (.int x :: rest) := fun H locs ls a b c => lv_if_ne hX.1 hX.2.1 hdg ht (fun h => kt h H locs ls a b c) (fun h => kf h H locs ls a b c)
theorem r_if_lt (hX : OK X w cc nL own ret rm Q) {x : Int32} {off : Int} {tgt : Nat} (hdg : decode cc pc = .ok (.ifCond .lt off, 3)) (ht : (pc : Int) + off = (tgt : Int)) (kt : x < 0 → J X w nL σ tgt lv rest) (kf : ¬ x < 0 → J X w nL σ (pc + 3) lv rest) : J X w nL σ pc lv (.int x :: rest) := fun H locs ls a b c => lv_if_lt hX.1 hX.2.1 hdg ht (fun h => kt h H locs ls a b c) (fun h => kf h H locs ls a b c)
theorem r_if_ge (hX : OK X w cc nL own ret rm Q) {x : Int32} {off : Int} {tgt : Nat} (hdg : decode cc pc = .ok (.ifCond .ge off, 3)) (ht : (pc : Int) + off = (tgt : Int)) (kt : 0 ≤ x → J X w nL σ tgt lv rest) (kf : ¬ 0 ≤ x → J X w nL σ (pc + 3) lv rest) : J X w nL σ pc lv (.int x :: rest) := fun H locs ls a b c => lv_if_ge hX.1 hX.2.1 hdg ht (fun h => kt h H locs ls a b c) (fun h => kf h H locs ls a b c)
theorem r_if_gt (hX : OK X w cc nL own ret rm Q) {x : Int32} {off : Int} {tgt : Nat} (hdg : decode cc pc = .ok (.ifCond .gt off, 3)) (ht : (pc : Int) + off = (tgt : Int)) (kt : 0 < x → J X w nL σ tgt lv rest) (kf : ¬ 0 < x → J X w nL σ (pc + 3) lv rest) : J X w nL σ pc lv (.int x :: rest) := fun H locs ls a b c => lv_if_gt hX.1 hX.2.1 hdg ht (fun h => kt h H locs ls a b c) (fun h => kf h H locs ls a b c)
theorem r_if_le (hX : OK X w cc nL own ret rm Q) {x : Int32} {off : Int} {tgt : Nat} (hdg : decode cc pc = .ok (.ifCond .le off, 3)) (ht : (pc : Int) + off = (tgt : Int)) (kt : x ≤ 0 → J X w nL σ tgt lv rest) (kf : ¬ x ≤ 0 → J X w nL σ (pc + 3) lv rest) : J X w nL σ pc lv (.int x :: rest) := fun H locs ls a b c => lv_if_le hX.1 hX.2.1 hdg ht (fun h => kt h H locs ls a b c) (fun h => kf h H locs ls a b c)
theorem r_icmp_eq (hX : OK X w cc nL own ret rm Q) {x y : Int32} {off : Int} {tgt : Nat} (hdg : decode cc pc = .ok (.if_icmp .eq off, 3)) (ht : (pc : Int) + off = (tgt : Int)) (kt : x = y → J X w nL σ tgt lv rest) (kf : ¬ x = y → J X w nL σ (pc + 3) lv rest) : J X w nL σ pc lv (.int y :: .int x :: rest) := fun H locs ls a b c => lv_icmp_eq hX.1 hX.2.1 hdg ht (fun h => kt h H locs ls a b c) (fun h => kf h H locs ls a b c)
theorem r_icmp_ne (hX : OK X w cc nL own ret rm Q) {x y : Int32} {off : Int} {tgt : Nat} (hdg : decode cc pc = .ok (.if_icmp .ne off, 3)) (ht : (pc : Int) + off = (tgt : Int)) (kt : ¬ x = y → J X w nL σ tgt lv rest) (kf : x = y → J X w nL σ (pc + 3) lv rest) : J X w nL σ pc lv (.int y :: .int x :: rest) := fun H locs ls a b c => lv_icmp_ne hX.1 hX.2.1 hdg ht (fun h => kt h H locs ls a b c) (fun h => kf h H locs ls a b c)
theorem r_icmp_lt (hX : OK X w cc nL own ret rm Q) {x y : Int32} {off : Int} {tgt : Nat} (hdg : decode cc pc = .ok (.if_icmp .lt off, 3)) (ht : (pc : Int) + off = (tgt : Int)) (kt : x < y → J X w nL σ tgt lv rest) (kf : ¬ x < y → J X w nL σ (pc + 3) lv rest) : J X w nL σ pc lv (.int y :: .int x :: rest) := fun H locs ls a b c => lv_icmp_lt hX.1 hX.2.1 hdg ht (fun h => kt h H locs ls a b c) (fun h => kf h H locs ls a b c)
theorem r_icmp_ge (hX : OK X w cc nL own ret rm Q) {x y : Int32} {off : Int} {tgt : Nat} (hdg : decode cc pc = .ok (.if_icmp .ge off, 3)) (ht : (pc : Int) + off = (tgt : Int)) (kt : y ≤ x → J X w nL σ tgt lv rest) (kf : ¬ y ≤ x → J X w nL σ (pc + 3) lv rest) : J X w nL σ pc lv (.int y :: .int x :: rest) := fun H locs ls a b c => lv_icmp_ge hX.1 hX.2.1 hdg ht (fun h => kt h H locs ls a b c) (fun h => kf h H locs ls a b c)
theorem r_icmp_gt (hX : OK X w cc nL own ret rm Q) {x y : Int32} {off : Int} {tgt : Nat} (hdg : decode cc pc = .ok (.if_icmp .gt off, 3)) (ht : (pc : Int) + off = (tgt : Int)) (kt : y < x → J X w nL σ tgt lv rest) (kf : ¬ y < x → J X w nL σ (pc + 3) lv rest) : J X w nL σ pc lv (.int y :: .int x :: rest) := fun H locs ls a b c => lv_icmp_gt hX.1 hX.2.1 hdg ht (fun h => kt h H locs ls a b c) (fun h => kf h H locs ls a b c)
theorem r_icmp_le (hX : OK X w cc nL own ret rm Q) {x y : Int32} {off : Int} {tgt : Nat} (hdg : decode cc pc = .ok (.if_icmp .le off, 3)) (ht : (pc : Int) + off = (tgt : Int)) (kt : x ≤ y → J X w nL σ tgt lv rest) (kf : ¬ x ≤ y → J X w nL σ (pc + 3) lv rest) : J X w nL σ pc lv (.int y :: .int x :: rest) := fun H locs ls a b c => lv_icmp_le hX.1 hX.2.1 hdg ht (fun h => kt h H locs ls a b c) (fun h => kf h H locs ls a b c)
theorem r_lcmp_eq (hX : OK X w cc nL own ret rm Q) {x y : Int64} {off : Int} {tgt : Nat} (hd0 : decode cc pc = .ok (.lcmp, 1)) (hdg : decode cc (pc + 1) = .ok (.ifCond .eq off, 3)) (ht : ((pc + 1 : Nat) : Int) + off = (tgt : Int)) (kt : x = y → J X w nL σ tgt lv rest) (kf : ¬ x = y → J X w nL σ (pc + 1 + 3) lv rest) : J X w nL σ pc lv (.long y :: .long x :: rest) := fun H locs ls a b c => W.lcmp hX.1 hX.2.1 hd0 (lv_if_eq hX.1 hX.2.1 hdg ht (fun h => kt ((lg_cmp_eq x y).mp h) H locs ls a b c) (fun h => kf (fun q => h ((lg_cmp_eq x y).mpr q)) H locs ls a b c))
theorem r_lcmp_ne (hX : OK X w cc nL own ret rm Q) {x y : Int64} {off : Int} {tgt : Nat} (hd0 : decode cc pc = .ok (.lcmp, 1)) (hdg : decode cc (pc + 1) = .ok (.ifCond .ne off, 3)) (ht : ((pc + 1 : Nat) : Int) + off = (tgt : Int)) (kt : ¬ x = y → J X w nL σ tgt lv rest) (kf : x = y → J X w nL σ (pc + 1 + 3) lv rest) : J X w nL σ pc lv (.long y :: .long x :: rest) := fun H locs ls a b c => W.lcmp hX.1 hX.2.1 hd0 (lv_if_ne hX.1 hX.2.1 hdg ht (fun h => kt (fun q => h ((lg_cmp_eq x y).mpr q)) H locs ls a b c) (fun h => kf ((lg_cmp_eq x y).mp h) H locs ls a b c))
theorem r_lcmp_lt (hX : OK X w cc nL own ret rm Q) {x y : Int64} {off : Int} {tgt : Nat} (hd0 : decode cc pc = .ok (.lcmp, 1)) (hdg : decode cc (pc + 1) = .ok (.ifCond .lt off, 3)) (ht : ((pc + 1 : Nat) : Int) + off = (tgt : Int)) (kt : x < y → J X w nL σ tgt lv rest) (kf : ¬ x < y → J X w nL σ (pc + 1 + 3) lv rest) : J X w nL σ pc lv (.long y :: .long x :: rest) := fun H locs ls a b c => W.lcmp hX.1 hX.2.1 hd0 (lv_if_lt hX.1 hX.2.1 hdg ht (fun h => kt ((lg_cmp_lt x y).mp h) H locs ls a b c) (fun h => kf (fun q => h ((lg_cmp_lt x y).mpr q)) H locs ls a b c))
theorem r_lcmp_ge (hX : OK X w cc nL own ret rm Q) {x y : Int64} {off : Int} {tgt : Nat} (hd0 : decode cc pc = .ok (.lcmp, 1)) (hdg : decode cc (pc + 1) = .ok (.ifCond .ge off, 3)) (ht : ((pc + 1 : Nat) : Int) + off = (tgt : Int)) (kt : y ≤ x → J X w nL σ tgt lv rest) (kf : ¬ y ≤ x → J X w nL σ (pc + 1 + 3) lv rest) : J X w nL σ pc lv (.long y :: .long x :: rest) := fun H locs ls a b c => W.lcmp hX.1 hX.2.1 hd0 (lv_if_ge hX.1 hX.2.1 hdg ht (fun h => kt ((lg_cmp_ge x y).mp h) H locs ls a b c) (fun h => kf (fun q => h ((lg_cmp_ge x y).mpr q)) H locs ls a b c))
theorem r_lcmp_gt (hX : OK X w cc nL own ret rm Q) {x y : Int64} {off : Int} {tgt : Nat} (hd0 : decode cc pc = .ok (.lcmp, 1)) (hdg : decode cc (pc + 1) = .ok (.ifCond .gt off, 3)) (ht : ((pc + 1 : Nat) : Int) + off = (tgt : Int)) (kt : y < x → J X w nL σ tgt lv rest) (kf : ¬ y < x → J X w nL σ (pc + 1 + 3) lv rest) : J X w nL σ pc lv (.long y :: .long x :: rest) := fun H locs ls a b c => W.lcmp hX.1 hX.2.1 hd0 (lv_if_gt hX.1 hX.2.1 hdg ht (fun h => kt ((lg_cmp_gt x y).mp h) H locs ls a b c) (fun h => kf (fun q => h ((lg_cmp_gt x y).mpr q)) H locs ls a b c))
theorem r_lcmp_le (hX : OK X w cc nL own ret rm Q) {x y : Int64} {off : Int} {tgt : Nat} (hd0 : decode cc pc = .ok (.lcmp, 1)) (hdg : decode cc (pc + 1) = .ok (.ifCond .le off, 3)) (ht : ((pc + 1 : Nat) : Int) + off = (tgt : Int)) (kt : x ≤ y → J X w nL σ tgt lv rest) (kf : ¬ x ≤ y → J X w nL σ (pc + 1 + 3) lv rest) : J X w nL σ pc lv (.long y :: .long x :: rest) := fun H locs ls a b c => W.lcmp hX.1 hX.2.1 hd0 (lv_if_le hX.1 hX.2.1 hdg ht (fun h => kt ((lg_cmp_le x y).mp h) H locs ls a b c) (fun h => kf (fun q => h ((lg_cmp_le x y).mpr q)) H locs ls a b c))
theorem r_ifnull (hX : OK X w cc nL own ret rm Q) {o : Option Nat} {off : Int} {tgt : Nat} (hdg : decode cc pc = .ok (.ifnull off, 3)) (ht : (pc : Int) + off = (tgt : Int)) (kt : o = none → J X w nL σ tgt lv rest) (kf : ∀ t, o = some t → J X w nL σ (pc + 3) lv rest) : J X w nL σ pc lv (rv w o :: rest) := fun H locs ls a b c => by
  cases o with
  | none => exact lv_ifnullN hX.1 hX.2.1 hdg ht (kt rfl H locs ls a b c)
  | some t => exact lv_ifnull hX.1 hX.2.1 hdg (kf t rfl H locs ls a b c)
theorem r_ifnonnull (hX : OK X w cc nL own ret rm Q) {o : Option Nat} {off : Int} {tgt : Nat} (hdg : decode cc pc = .ok (.ifnonnull off, 3)) (ht : (pc : Int) + off = (tgt : Int)) (kt : ∀ t, o = some t → J X w nL σ tgt lv rest) (kf : o = none → J X w nL σ (pc + 3) lv rest) : J X w nL σ pc lv (rv w o :: rest) := fun H locs ls a b c => by
  cases o with
  | none => exact lv_ifnonnullN hX.1 hX.2.1 hdg (kf rfl H locs ls a b c)
  | some t => exact lv_ifnonnull hX.1 hX.2.1 hdg ht (kt t rfl H locs ls a b c)
theorem r_null (hX : OK X w cc nL own ret rm Q) (hdg : decode cc pc = .ok (.aconst_null, 1)) (k : J X w nL σ (pc + 1) lv (rv w none :: rest)) : J X w nL σ pc lv rest := fun H locs ls a b c => lv_null hX.1 hX.2.1 hdg (k H locs ls a b c)
theorem r_ldc (hX : OK X w cc nL own ret rm Q) {i : Nat} {v : Int32} (hw : Cond.constant own i v ∈ GT) (hdg : decode cc pc = .ok (.ldc i, 2)) (k : J X w nL σ (pc + 2) lv (.int v :: rest)) : J X w nL σ pc lv rest := fun H locs ls a b c => lv_ldc hX.1 hX.2.1 hX.2.2.2.1 (hX.2.2.2.2.1 _ hw) hdg (k H locs ls a b c)
theorem r_ldcw (hX : OK X w cc nL own ret rm Q) {i : Nat} {v : Int32} (hw : Cond.constant own i v ∈ GT) (hdg : decode cc pc = .ok (.ldc_w i, 3)) (k : J X w nL σ (pc + 3) lv (.int v :: rest)) : J X w nL σ pc lv rest := fun H locs ls a b c => lv_ldcw hX.1 hX.2.1 hX.2.2.2.1 (hX.2.2.2.2.1 _ hw) hdg (k H locs ls a b c)
theorem r_ldc2 (hX : OK X w cc nL own ret rm Q) {i : Nat} {v : Int64} (hw : Cond.constantLong own i v ∈ GT) (hdg : decode cc pc = .ok (.ldc2_w i, 3)) (k : J X w nL σ (pc + 3) lv (.long v :: rest)) : J X w nL σ pc lv rest := fun H locs ls a b c => lv_ldc2 hX.1 hX.2.1 hX.2.2.2.1 (hX.2.2.2.2.1 _ hw) hdg (k H locs ls a b c)
theorem r_tabOut (hX : OK X w cc nL own ret rm Q) {dflt lo hi : Int} {offs : Array Int} {len : Nat} {x : Int32} {tgt : Nat} (hdg : decode cc pc = .ok (.tableswitch dflt lo hi offs, len)) (h : x.toInt < lo ∨ hi < x.toInt) (ht : (pc : Int) + dflt = (tgt : Int)) (k : J X w nL σ tgt lv rest) : J X w nL σ pc lv (.int x :: rest) := fun H locs ls a b c => lv_tableOut hX.1 hX.2.1 hdg h ht (k H locs ls a b c)
theorem r_tabIn (hX : OK X w cc nL own ret rm Q) {dflt lo hi : Int} {offs : Array Int} {len : Nat} {x : Int32} {off : Int} {tgt : Nat} (hdg : decode cc pc = .ok (.tableswitch dflt lo hi offs, len)) (h1 : ¬ x.toInt < lo) (h2 : ¬ hi < x.toInt) (ho : offs[(x.toInt - lo).toNat]? = some off) (ht : (pc : Int) + off = (tgt : Int)) (k : J X w nL σ tgt lv rest) : J X w nL σ pc lv (.int x :: rest) := fun H locs ls a b c => lv_tableIn hX.1 hX.2.1 hdg h1 h2 ho ht (k H locs ls a b c)
end ROWS
end
section
-- ===== fields, arrays, calls, returns =====
/-- what the tables say of a class -/
def CI (ci : Nat) (C : String) (T : u_T) (N : Nat) : Prop := (∀ wd ∈ u_ws C T N, wd ∈ GT) ∧ vwCl[ci]? = some (C, T, N) ∧ (∃ ty : Nat → FieldType, ∀ k, k < N → parseFieldDescriptor (T k).2.2.1 = some (ty k)) ∧ ∀ a, a < N → ∀ b, b < N → a ≠ b → (T a).2.1 ≠ (T b).2.1
section WORLD
variable {w : Wp} {σ : St} {H H1 : Heap} {t : Nat}
theorem Wd.at (h : Wd w σ H) (hk : wK w t ≠ 0) : va_P (wD w) vwCl [(wa w t, ceS w t σ)] H := fun k q hq => by
  cases k with
  | zero => cases hq; exact (h.1 t hk).1
  | succ k => cases hq
theorem Wd.dis (h : Wd w σ H) (hk : wK w t ≠ 0) (e : va_E) : va_D (wA w) [(wa w t, e)] := by
  refine ⟨fun i j p q hp hq _ => ?_, fun k q hq => ?_⟩
  · have a : i < 1 := (List.getElem?_eq_some_iff.mp hp).1
    have b : j < 1 := (List.getElem?_eq_some_iff.mp hq).1
    omega
  · cases k with
    | zero => cases hq; exact (h.1 t hk).2
    | succ k => cases hq
/-- one cell is written, the others stay -/
theorem Wd.put (h : Wd w σ H) (ht : wK w t ≠ 0) {σ' : St} (hT : WT w σ') (hs : ∀ a, a ≠ t → ceS w a σ' = ceS w a σ) (he : va_at (wD w) vwCl (wa w t, ceS w t σ') H1) (oq : ∀ q : Nat, q ≠ wa w t → H1[q]? = H[q]?) : Wd w σ' H1 := by
  refine ⟨fun a ha => ⟨?_, (h.1 a ha).2⟩, hT⟩
  by_cases e : a = t
  · subst e; exact he
  · rw [hs a e]
    exact ((h.1 a ha).1).kept (oq _ (fun q => e (h.2.2.2 a t ha ht q)))
theorem wI_ne {k : Nat} {v : Int32} {a : Nat} (h : a ≠ t) : ceS w a (wI σ t k v) = ceS w a σ := by
  show ce w a ((wI σ t k v).1 a) _ _ = _
  rw [show (wI σ t k v).1 a = σ.1 a from if_neg h]; rfl
theorem wL_ne {k : Nat} {v : Int64} {a : Nat} (h : a ≠ t) : ceS w a (wL σ t k v) = ceS w a σ := by
  show ce w a _ ((wL σ t k v).2.1 a) _ = _
  rw [show (wL σ t k v).2.1 a = σ.2.1 a from if_neg h]; rfl
theorem wR_ne {k : Nat} {v : Option Nat} {a : Nat} (h : a ≠ t) : ceS w a (wR σ t k v) = ceS w a σ := by
  show ce w a _ _ ((wR σ t k v).2.2 a) = _
  rw [show (wR σ t k v).2.2 a = σ.2.2 a from if_neg h]; rfl
theorem wI_eq {k : Nat} {v : Int32} : (wI σ t k v).1 t = upd (σ.1 t) k v := if_pos rfl
theorem wL_eq {k : Nat} {v : Int64} : (wL σ t k v).2.1 t = vp_updL (σ.2.1 t) k v := if_pos rfl
theorem wR_eq {k : Nat} {v : Option Nat} : (wR σ t k v).2.2 t = va_up (σ.2.2 t) k v := if_pos rfl
theorem wR_WT {k : Nat} {v : Option Nat} (h : WT w σ) (hv : ∀ t', v = some t' → (wK w t = 11 → wK w t' = 1) ∧ (wK w t = 12 → wK w t' = 2)) : WT w (wR σ t k v) := by
  have key : ∀ a j t', (wR σ t k v).2.2 a j = some t' → σ.2.2 a j = some t' ∨ (a = t ∧ v = some t') := by
    intro a j t' h1
    by_cases e : a = t
    · subst e
      rw [wR_eq] at h1
      unfold va_up at h1
      split at h1
      · exact Or.inr ⟨rfl, h1⟩
      · exact Or.inl h1
    · rw [show (wR σ t k v).2.2 a = σ.2.2 a from if_neg e] at h1
      exact Or.inl h1
  refine ⟨fun a j t' h1 h2 => ?_, fun a j t' h1 h2 => ?_, h.2.2⟩
  · rcases key a j t' h2 with q | ⟨rfl, q⟩
    · exact h.1 a j t' h1 q
    · exact (hv t' q).1 h1
  · rcases key a j t' h2 with q | ⟨rfl, q⟩
    · exact h.2.1 a j t' h1 q
    · exact (hv t' q).2 h1
end WORLD
section ROWS2
variable {X : Cx} {w : Wp} {cc : ByteArray} {nL : Nat} {own : String} {ret : Option FieldType} {rm : Room} {Q : QI} {σ : St} {pc : Nat} {lv lv' : List (Nat × Value)} {rest : List Value}
/-- getfield -/
theorem r_get (hX : OK X w cc nL own ret rm Q) {t kd ci N index : Nat} {C ref : String} {T : u_T} {fs : List Value} (hC : CI ci C T N) (hk : wK w t = kd) (h0 : kd ≠ 0) (hce : ceS w t σ = .inr (ci, fs)) (k : Nat) (hkN : k < N) (hl : Cond.fieldLink own index ref (T k).2.1 (T k).2.2.1 ∈ GT) (hr : (T k).1 = ref) (hdg : decode cc pc = .ok (.getfield index, 3)) (v : Value) (hv : fs[k]? = some v) (kk : J X w nL σ (pc + 3) lv (v :: rest)) : J X w nL σ pc lv (rf w t :: rest) := fun H locs ls a b c => by
  have hP := a.at (t := t) (by rw [hk]; exact h0)
  rw [hce] at hP
  exact va_get hX.1 hX.2.1 hX.2.2.2.2.1 hC.1 hX.2.2.2.1 hX.2.2.2.2.2.1.1 hP 0 rfl hC.2.1 k hkN (hX.2.2.2.2.1 _ hl) (fun x h => by rw [hr] at h; exact h) hv hdg (kk H locs ls a b c)
/-- putfield, from the world's cell to the world's cell -/
theorem r_putG (hX : OK X w cc nL own ret rm Q) {t kd ci N index : Nat} {C ref : String} {T : u_T} {fs : List Value} {σ' : St} (hC : CI ci C T N) (hk : wK w t = kd) (h0 : kd ≠ 0) (hce : ceS w t σ = .inr (ci, fs)) (k : Nat) (hkN : k < N) (hl : Cond.fieldLink own index ref (T k).2.1 (T k).2.2.1 ∈ GT) (hr : (T k).1 = ref) (hfin : (T k).2.2.2 = false) {ty : FieldType} {v : Value} (hd : parseFieldDescriptor (T k).2.2.1 = some ty) (hn : narrow ty v = v) (hfit : fits ty v = true) (hlen : k < fs.length) (hdg : decode cc pc = .ok (.putfield index, 3))
    (hce' : ceS w t σ' = .inr (ci, fs.set k v)) (hT : WT w σ → WT w σ') (hs : ∀ a, a ≠ t → ceS w a σ' = ceS w a σ) (kk : J X w nL σ' (pc + 3) lv rest) : J X w nL σ pc lv (v :: rf w t :: rest) := fun H locs ls a b c => by
  have hk0 : wK w t ≠ 0 := by rw [hk]; exact h0
  have hP := a.at (t := t) hk0
  rw [hce] at hP
  obtain ⟨ty0, hty⟩ := hC.2.2.1
  have hap := va_apart (own := own) hX.2.2.2.2.1 hC.1 ty0 hty hC.2.2.2 hX.2.2.2.2.2.1.1 hC.2.1
  obtain ⟨r, h1, cell, q1, q2, q3, q4⟩ := hP 0 _ rfl
  have hr1 : r = (C, T, N) := Option.some.inj (h1.symm.trans hC.2.1)
  subst hr1
  obtain ⟨hS, hfc, kC, hkC, hkind⟩ := hX.2.2.2.2.2.1.1.1 ci _ hC.2.1
  obtain ⟨cf, kf, fi, f, hi, hsl⟩ := hS k hkN
  have hlay := hX.2.2.2.2.1 _ (hC.1 _ (u_in_lay hkN))
  unfold u_lay at hlay
  rw [if_neg (by rw [hfin]; decide)] at hlay
  have hst := (u_facts hfc hkC (u_lays hX.2.2.2.2.1 hC.1 hkN) hi).1
  have h6 := u_store hfc hkC hkind hlay hi hd hn hfit
  refine W.putK hX.1 hX.2.1 (f := f) ⟨hX.2.2.2.1, hX.2.2.2.2.1 _ hl, ⟨_, _, _, by rw [hr] at hi; exact hi⟩, hst⟩ (by rw [q2]; exact h6) q1 q3 (by rw [hsl]; exact k2_hasslot (q4 k hkN)) rfl rfl hdg fun H' e1 e2 e3 => ?_
  rw [hsl] at e1 ⊢
  refine kk H' _ ls (a.put (t := t) hk0 (hT a.2) hs ?_ e3) (b.put e2 e3 (a.1 t hk0).2) c
  rw [hce']
  exact ⟨_, hC.2.1, t_OB.to (V := updV (vp_V fs) k v) ⟨_, e1, q2, q3, t_set q4 hap hkN v⟩ (fun j _ => vp_updV_set hlen v j)⟩
theorem r_putI (hX : OK X w cc nL own ret rm Q) {t kd ci N index : Nat} {C ref : String} {T : u_T} {fs : Wp → Nat → (Nat → Int32) → (Nat → Int64) → List Value} (hC : CI ci C T N) (hk : wK w t = kd) (h0 : kd ≠ 0) (hce : ∀ i l r, ce w t i l r = .inr (ci, fs w t i l)) (k : Nat) (hkN : k < N) (hl : Cond.fieldLink own index ref (T k).2.1 (T k).2.2.1 ∈ GT) (hr : (T k).1 = ref) (hfin : (T k).2.2.2 = false) {v : Int32} (hd : parseFieldDescriptor (T k).2.2.1 = some .int) (hlen : ∀ i l, k < (fs w t i l).length) (hdg : decode cc pc = .ok (.putfield index, 3))
    (hs : ∀ i l, fs w t (upd i k v) l = (fs w t i l).set k (.int v)) (kk : J X w nL (wI σ t k v) (pc + 3) lv rest) : J X w nL σ pc lv (.int v :: rf w t :: rest) :=
  r_putG (σ' := wI σ t k v) hX hC hk h0 (hce _ _ _) k hkN hl hr hfin hd rfl rfl (hlen _ _) hdg (by show ce w t ((wI σ t k v).1 t) _ _ = _; rw [hce, wI_eq, hs]; rfl) (fun h => h) (fun a h => wI_ne h) kk
theorem r_putL (hX : OK X w cc nL own ret rm Q) {t kd ci N index : Nat} {C ref : String} {T : u_T} {fs : Wp → Nat → (Nat → Int32) → (Nat → Int64) → List Value} (hC : CI ci C T N) (hk : wK w t = kd) (h0 : kd ≠ 0) (hce : ∀ i l r, ce w t i l r = .inr (ci, fs w t i l)) (k : Nat) (hkN : k < N) (hl : Cond.fieldLink own index ref (T k).2.1 (T k).2.2.1 ∈ GT) (hr : (T k).1 = ref) (hfin : (T k).2.2.2 = false) {v : Int64} (hd : parseFieldDescriptor (T k).2.2.1 = some .long) (hlen : ∀ i l, k < (fs w t i l).length) (hdg : decode cc pc = .ok (.putfield index, 3))
    (hs : ∀ i l, fs w t i (vp_updL l k v) = (fs w t i l).set k (.long v)) (kk : J X w nL (wL σ t k v) (pc + 3) lv rest) : J X w nL σ pc lv (.long v :: rf w t :: rest) :=
  r_putG (σ' := wL σ t k v) hX hC hk h0 (hce _ _ _) k hkN hl hr hfin hd rfl rfl (hlen _ _) hdg (by show ce w t _ ((wL σ t k v).2.1 t) _ = _; rw [hce, wL_eq, hs]; rfl) (fun h => h) (fun a h => wL_ne h) kk
/-- int arrays -/
theorem r_iald (hX : OK X w cc nL own ret rm Q) {t n : Nat} {i : Int32} (hk : wK w t = 9) (hn : wl w t = n) (hin : vp_in i n) (hdg : decode cc pc = .ok (.iaload, 1)) (kk : J X w nL σ (pc + 1) lv (.int (σ.1 t (ix i)) :: rest)) : J X w nL σ pc lv (.int i :: rf w t :: rest) := fun H locs ls a b c => by
  have hP := a.at (t := t) (by rw [hk]; decide)
  rw [show ceS w t σ = _ from ce9 hk, hn] at hP
  exact va_iald hX.1 hX.2.1 hX.2.2.2.2.2.1.1 hP 0 0 rfl rfl hin hdg (kk H locs ls a b c)
theorem r_lald (hX : OK X w cc nL own ret rm Q) {t n : Nat} {i : Int32} (hk : wK w t = 10) (hn : wl w t = n) (hin : vp_in i n) (hdg : decode cc pc = .ok (.laload, 1)) (kk : J X w nL σ (pc + 1) lv (.long (σ.2.1 t (ix i)) :: rest)) : J X w nL σ pc lv (.int i :: rf w t :: rest) := fun H locs ls a b c => by
  have hP := a.at (t := t) (by rw [hk]; decide)
  rw [show ceS w t σ = _ from ce10 hk, hn] at hP
  exact va_lald hX.1 hX.2.1 hX.2.2.2.2.2.1.1 hP 0 1 rfl rfl hin hdg (kk H locs ls a b c)
theorem r_iast (hX : OK X w cc nL own ret rm Q) {t n : Nat} {i x : Int32} (hk : wK w t = 9) (hn : wl w t = n) (hin : vp_in i n) (hdg : decode cc pc = .ok (.iastore, 1)) (kk : J X w nL (wI σ t (ix i) x) (pc + 1) lv rest) : J X w nL σ pc lv (.int x :: .int i :: rf w t :: rest) := fun H locs ls a b c => by
  have hk0 : wK w t ≠ 0 := by rw [hk]; decide
  have hP := (a.1 t hk0).1
  rw [show ceS w t σ = _ from ce9 hk, hn] at hP
  refine W.iast hX.1 hX.2.1 hP ((hX.2.2.2.2.2.1.1.2 0 _ rfl).1 n (fun j => .int (σ.1 t j))) (fun q => by cases q) (by show ¬ (i < 0 ∨ (arrV _ _ _).slots.size ≤ _); rw [arrV_size]; exact hin) rfl rfl hdg fun H1 e z oq => ?_
  refine kk H1 _ ls (a.put (t := t) hk0 a.2 (fun a h => wI_ne h) ?_ oq) (b.put z oq (a.1 t hk0).2) c
  rw [show ceS w t (wI σ t (ix i) x) = _ from ce9 hk, hn, wI_eq]
  show H1[wa w t]? = some (vp_cell _ _)
  rw [e, vp_cell_i, vp_cell_i, arrV_store]
  congr 2
  funext q
  by_cases hq : q = i.toNatClampNeg
  · subst hq
    simp [updV, upd]
  · simp [updV, upd, hq]
theorem r_last (hX : OK X w cc nL own ret rm Q) {t n : Nat} {i : Int32} {x : Int64} (hk : wK w t = 10) (hn : wl w t = n) (hin : vp_in i n) (hdg : decode cc pc = .ok (.lastore, 1)) (kk : J X w nL (wL σ t (ix i) x) (pc + 1) lv rest) : J X w nL σ pc lv (.long x :: .int i :: rf w t :: rest) := fun H locs ls a b c => by
  have hk0 : wK w t ≠ 0 := by rw [hk]; decide
  have hP := (a.1 t hk0).1
  rw [show ceS w t σ = _ from ce10 hk, hn] at hP
  refine W.last hX.1 hX.2.1 hP ((hX.2.2.2.2.2.1.1.2 1 _ rfl).1 n (fun j => .long (σ.2.1 t j))) (fun q => by cases q) (by show ¬ (i < 0 ∨ (arrV _ _ _).slots.size ≤ _); rw [arrV_size]; exact hin) rfl rfl hdg fun H1 e z oq => ?_
  refine kk H1 _ ls (a.put (t := t) hk0 a.2 (fun a h => wL_ne h) ?_ oq) (b.put z oq (a.1 t hk0).2) c
  rw [show ceS w t (wL σ t (ix i) x) = _ from ce10 hk, hn, wL_eq]
  show H1[wa w t]? = some (vp_cell _ _)
  rw [e, vp_cell_l, vp_cell_l, arrV_store]
  congr 2
  funext q
  by_cases hq : q = i.toNatClampNeg
  · subst hq
    simp [updV, vp_updL]
  · simp [updV, vp_updL, hq]
/-- arrays of references -/
theorem r_aldF (hX : OK X w cc nL own ret rm Q) {t n : Nat} {i : Int32} (hk : wK w t = 11) (hn : wl w t = n) (hin : vp_in i n) (hdg : decode cc pc = .ok (.aaload, 1)) (kk : ∀ o, o = σ.2.2 t (ix i) → (∀ t', o = some t' → wK w t' = 1) → J X w nL σ (pc + 1) lv (rv w o :: rest)) : J X w nL σ pc lv (.int i :: rf w t :: rest) := fun H locs ls a b c => by
  have hP := a.at (t := t) (by rw [hk]; decide)
  rw [show ceS w t σ = _ from ce11 hk, hn] at hP
  exact va_aldq hX.1 hX.2.1 hX.2.2.2.2.2.1.1 hP 0 2 rfl rfl hin hdg (kk _ rfl (fun t' h => a.2.1 t _ t' hk h) H locs ls a b c)
theorem r_aldM (hX : OK X w cc nL own ret rm Q) {t n : Nat} {i : Int32} (hk : wK w t = 12) (hn : wl w t = n) (hin : vp_in i n) (hdg : decode cc pc = .ok (.aaload, 1)) (kk : ∀ o, o = σ.2.2 t (ix i) → (∀ t', o = some t' → wK w t' = 2) → J X w nL σ (pc + 1) lv (rv w o :: rest)) : J X w nL σ pc lv (.int i :: rf w t :: rest) := fun H locs ls a b c => by
  have hP := a.at (t := t) (by rw [hk]; decide)
  rw [show ceS w t σ = _ from ce12 hk, hn] at hP
  exact va_aldq hX.1 hX.2.1 hX.2.2.2.2.2.1.1 hP 0 3 rfl rfl hin hdg (kk _ rfl (fun t' h => a.2.2.1 t _ t' hk h) H locs ls a b c)
theorem cellq (w : Wp) (f : Nat → Option Nat) (cA : ClassId) (n j : Nat) (o : Option Nat) : (arrV cA n (fun q => va_rf ((f q).map (wa w)))).setSlot j (va_rf (o.map (wa w))) = arrV cA n (fun q => va_rf ((va_up f j o q).map (wa w))) := by
  rw [arrV_store]
  congr 1
  funext q
  by_cases hq : q = j
  · subst hq
    simp [updV, va_up]
  · simp [updV, va_up, hq]
theorem r_astM (hX : OK X w cc nL own ret rm Q) {t n : Nat} {i : Int32} {o : Option Nat} (hk : wK w t = 12) (hn : wl w t = n) (hin : vp_in i n) (ho : ∀ t', o = some t' → wK w t' = 2) (hdg : decode cc pc = .ok (.aastore, 1)) (kk : J X w nL (wR σ t (ix i) o) (pc + 1) lv rest) : J X w nL σ pc lv (rv w o :: .int i :: rf w t :: rest) := fun H locs ls a b c => by
  have hk0 : wK w t ≠ 0 := by rw [hk]; decide
  have hK := hX.2.2.2.2.2.1.1
  have hP := (a.1 t hk0).1
  rw [show ceS w t σ = _ from ce12 hk, hn] at hP
  have hlt : i.toNatClampNeg < n := Nat.not_le.mp fun q => hin (Or.inr q)
  have h0 : ¬ i < 0 := fun q => hin (Or.inl q)
  have hWT : WT w (wR σ t (ix i) o) := wR_WT a.2 (fun t' h => ⟨fun q => absurd (hk.symm.trans q) (by decide), fun _ => ho t' h⟩)
  have fin : ∀ (H1 : Heap) (locs1 : List Loc), H1[wa w t]? = some ((vp_cell (wcM w) (n, .inr (.inr (.inr (.inr (fun j => (σ.2.2 t j).map (wa w))))))).setSlot (ix i) (rv w o)) → (∀ q : Nat, q ≠ wa w t → H1[q]? = H[q]?) → va_S (wA w) (xs X).heap H1 locs1 → W (xp X) (xl X) (xe X) (xR X) (xs X) (xm X) (xa X) (xb X) (xM X) (xc X) H1 locs1 (xcl X) (xsl X) (xQ X) (F0 (xm X) (pc + 1) ls rest) := by
    intro H1 locs1 e oq hS1
    refine kk H1 locs1 ls (a.put (t := t) hk0 hWT (fun a h => wR_ne h) ?_ oq) hS1 c
    rw [show ceS w t (wR σ t (ix i) o) = _ from ce12 hk, hn, wR_eq]
    show H1[wa w t]? = some (vp_cell _ _)
    rw [e, vp_cell_q, vp_cell_q]
    exact congrArg some (cellq w _ _ n _ o)
  cases o with
  | none =>
    exact va_WaastN (C := "JointedShadows$Move") hX.1 hX.2.1 hP ((hK.2 3 _ rfl).1 n (fun j => va_rf ((σ.2.2 t j).map (wa w)))) (fun h => by cases h) (by show ¬ (i < 0 ∨ (arrV _ _ _).slots.size ≤ _); rw [arrV_size]; exact hin) rfl rfl hdg fun H1 e z oq => fin H1 _ e oq (b.put z oq (a.1 t hk0).2)
  | some v =>
    have hkv := ho v rfl
    have hPv := (a.1 v (by rw [hkv]; decide)).1
    rw [show ceS w v σ = _ from ce2 hkv] at hPv
    obtain ⟨r', hr', cellV, g1, g2, g3, -⟩ := hPv
    have hcls := (hK.1 1 _ rfl).2
    obtain ⟨kA, comp, k1, k2, k3, -⟩ := (hK.2 3 _ rfl).2
    have hcomp : comp = (wD w).1 1 := Option.some.inj (k3.symm.trans hcls.1)
    subst hcomp
    obtain ⟨kC, hkC, hkk⟩ := hcls.2
    refine W.aast hX.1 hX.2.1 hP (fun q h => by cases h) (fun h => by cases h) k1 k2 rfl hkC ⟨h0, by show _ < (arrV _ _ _).slots.size; rw [arrV_size]; exact hlt⟩ g1 (fun q h => by rw [g3] at h; cases h) (by rw [g2]; exact hkC) (by rw [g2]; exact va_assign hcls) rfl rfl hdg fun H1 e z oq => ?_
    exact fin H1 _ e oq (b.put z oq (a.1 t hk0).2)
theorem r_astF (hX : OK X w cc nL own ret rm Q) {t n : Nat} {i : Int32} {o : Option Nat} (hk : wK w t = 11) (hn : wl w t = n) (hin : vp_in i n) (ho : ∀ t', o = some t' → wK w t' = 1) (hdg : decode cc pc = .ok (.aastore, 1)) (kk : J X w nL (wR σ t (ix i) o) (pc + 1) lv rest) : J X w nL σ pc lv (rv w o :: .int i :: rf w t :: rest) := fun H locs ls a b c => by
  have hk0 : wK w t ≠ 0 := by rw [hk]; decide
  have hK := hX.2.2.2.2.2.1.1
  have hP := (a.1 t hk0).1
  rw [show ceS w t σ = _ from ce11 hk, hn] at hP
  have hlt : i.toNatClampNeg < n := Nat.not_le.mp fun q => hin (Or.inr q)
  have h0 : ¬ i < 0 := fun q => hin (Or.inl q)
  have hWT : WT w (wR σ t (ix i) o) := wR_WT a.2 (fun t' h => ⟨fun _ => ho t' h, fun q => absurd (hk.symm.trans q) (by decide)⟩)
  have fin : ∀ (H1 : Heap) (locs1 : List Loc), H1[wa w t]? = some ((vp_cell (wcF w) (n, .inr (.inr (.inr (.inr (fun j => (σ.2.2 t j).map (wa w))))))).setSlot (ix i) (rv w o)) → (∀ q : Nat, q ≠ wa w t → H1[q]? = H[q]?) → va_S (wA w) (xs X).heap H1 locs1 → W (xp X) (xl X) (xe X) (xR X) (xs X) (xm X) (xa X) (xb X) (xM X) (xc X) H1 locs1 (xcl X) (xsl X) (xQ X) (F0 (xm X) (pc + 1) ls rest) := by
    intro H1 locs1 e oq hS1
    refine kk H1 locs1 ls (a.put (t := t) hk0 hWT (fun a h => wR_ne h) ?_ oq) hS1 c
    rw [show ceS w t (wR σ t (ix i) o) = _ from ce11 hk, hn, wR_eq]
    show H1[wa w t]? = some (vp_cell _ _)
    rw [e, vp_cell_q, vp_cell_q]
    exact congrArg some (cellq w _ _ n _ o)
  cases o with
  | none =>
    exact va_WaastN (C := "JointedShadows$Figure") hX.1 hX.2.1 hP ((hK.2 2 _ rfl).1 n (fun j => va_rf ((σ.2.2 t j).map (wa w)))) (fun h => by cases h) (by show ¬ (i < 0 ∨ (arrV _ _ _).slots.size ≤ _); rw [arrV_size]; exact hin) rfl rfl hdg fun H1 e z oq => fin H1 _ e oq (b.put z oq (a.1 t hk0).2)
  | some v =>
    have hkv := ho v rfl
    have hPv := (a.1 v (by rw [hkv]; decide)).1
    rw [show ceS w v σ = _ from ce1 hkv] at hPv
    obtain ⟨r', hr', cellV, g1, g2, g3, -⟩ := hPv
    have hcls := (hK.1 0 _ rfl).2
    obtain ⟨kA, comp, k1, k2, k3, -⟩ := (hK.2 2 _ rfl).2
    have hcomp : comp = (wD w).1 0 := Option.some.inj (k3.symm.trans hcls.1)
    subst hcomp
    obtain ⟨kC, hkC, hkk⟩ := hcls.2
    refine W.aast hX.1 hX.2.1 hP (fun q h => by cases h) (fun h => by cases h) k1 k2 rfl hkC ⟨h0, by show _ < (arrV _ _ _).slots.size; rw [arrV_size]; exact hlt⟩ g1 (fun q h => by rw [g3] at h; cases h) (by rw [g2]; exact hkC) (by rw [g2]; exact va_assign hcls) rfl rfl hdg fun H1 e z oq => ?_
    exact fin H1 _ e oq (b.put z oq (a.1 t hk0).2)
theorem r_alen (hX : OK X w cc nL own ret rm Q) {t n t0 : Nat} {cA : ClassId} {x : vp_A} {ty : FieldType} (hk : wK w t ≠ 0) (hce : ceS w t σ = .inl (cA, x)) (ht : (TYS w)[t0]? = some (cA, ty)) (hn : x.1 = n) {v : Int32} (hv : Int32.ofNat n = v) (hdg : decode cc pc = .ok (.arraylength, 1)) (kk : J X w nL σ (pc + 1) lv (.int v :: rest)) : J X w nL σ pc lv (rf w t :: rest) := fun H locs ls a b c => by
  have hP := a.at (t := t) hk
  rw [hce] at hP
  exact va_alen hX.1 hX.2.1 hX.2.2.2.2.2.1.1 hP 0 t0 rfl ht (by rw [hn]; exact hv) hdg (kk H locs ls a b c)
/-- the two static tables -/
theorem r_stepX (hX : OK X w cc nL "JointedShadows$Pose" ret rm Q) (hdg : decode cc pc = .ok (.getstatic 124, 3)) (kk : ∀ a, va_T .int a 8 (fun j => .int (stX j)) (wA w) (xs X) (xs X).heap → J X w nL σ (pc + 3) lv (.ref a :: rest)) : J X w nL σ pc lv rest := fun H locs ls a b c => by
  obtain ⟨x, y, h1, h2, -, -⟩ := hX.2.2.2.2.2.1.2.2.1
  exact va_getsN hX.1 hX.2.1 h1 b hX.2.2.2.1 (va_Nw.use rfl hX.2.2.2.2.2.1.2.1.2.1) (fun _ h => h) hdg (kk x h2 H locs ls a b c)
theorem r_stepY (hX : OK X w cc nL "JointedShadows$Pose" ret rm Q) (hdg : decode cc pc = .ok (.getstatic 127, 3)) (kk : ∀ a, va_T .int a 8 (fun j => .int (stY j)) (wA w) (xs X) (xs X).heap → J X w nL σ (pc + 3) lv (.ref a :: rest)) : J X w nL σ pc lv rest := fun H locs ls a b c => by
  obtain ⟨x, y, -, -, h1, h2⟩ := hX.2.2.2.2.2.1.2.2.1
  exact va_getsN hX.1 hX.2.1 h1 b hX.2.2.2.1 (va_Nw.use rfl hX.2.2.2.2.2.1.2.1.2.2) (fun _ h => h) hdg (kk y h2 H locs ls a b c)
theorem r_tald (hX : OK X w cc nL own ret rm Q) {q : Nat} {f : Nat → Int32} (hT : va_T .int q 8 (fun j => .int (f j)) (wA w) (xs X) (xs X).heap) {i : Int32} (hin : vp_in i 8) (hdg : decode cc pc = .ok (.iaload, 1)) (kk : J X w nL σ (pc + 1) lv (.int (f (ix i)) :: rest)) : J X w nL σ pc lv (.int i :: .ref q :: rest) := fun H locs ls a b c =>
  va_ti hX.1 hX.2.1 hT b hin rfl hdg (kk H locs ls a b c)
/-- returns -/
theorem r_iret {r : Int32} (hX : OK X w cc nL own (some .int) rm (Qi w σ r)) (hdg : decode cc pc = .ok (.ireturn, 1)) : J X w nL σ pc lv [.int r] := fun H locs ls a b c => by
  obtain ⟨h1, h2, -, -, -, -, h3, h4, -, h5, h6, h7⟩ := hX
  rw [h5]
  refine W.widen h6 h7 ?_
  exact W.iret h1 h2 h3 (fun t ht _ => ⟨⟨_, (), rfl, rfl, by show Wd w σ t.heap; rw [ht]; exact a⟩, b.F ht⟩) b.2.2 hdg h4
theorem r_zret {r : Int32} (hX : OK X w cc nL own (some .boolean) rm (Qz w σ r)) (hz : Bz r) (hdg : decode cc pc = .ok (.ireturn, 1)) : J X w nL σ pc lv [.int r] := fun H locs ls a b c => by
  obtain ⟨h1, h2, -, -, -, -, h3, h4, -, h5, h6, h7⟩ := hX
  rw [h5]
  refine W.widen h6 h7 ?_
  exact W.zret h1 h2 h3 hz (fun t ht _ => ⟨⟨_, (), rfl, ⟨rfl, hz⟩, by show Wd w σ t.heap; rw [ht]; exact a⟩, b.F ht⟩) b.2.2 hdg h4
theorem r_lret {r : Int64} (hX : OK X w cc nL own (some .long) rm (Ql w σ r)) (hdg : decode cc pc = .ok (.lreturn, 1)) : J X w nL σ pc lv [.long r] := fun H locs ls a b c => by
  obtain ⟨h1, h2, -, -, -, -, h3, h4, -, h5, h6, h7⟩ := hX
  rw [h5]
  refine W.widen h6 h7 ?_
  exact W.lret h1 h2 h3 (fun t ht _ => ⟨⟨_, (), rfl, rfl, by show Wd w σ t.heap; rw [ht]; exact a⟩, b.F ht⟩) b.2.2 hdg (hlocks := h4)
theorem r_vret (hX : OK X w cc nL own none rm (Qv w σ)) (hdg : decode cc pc = .ok (.return_, 1)) : J X w nL σ pc lv [] := fun H locs ls a b c => by
  obtain ⟨h1, h2, -, -, -, -, h3, h4, -, h5, h6, h7⟩ := hX
  rw [h5]
  refine W.widen h6 h7 ?_
  exact W.vret h1 h2 h3 (fun t ht _ => ⟨⟨(), rfl, trivial, by show Wd w σ t.heap; rw [ht]; exact a⟩, b.F ht⟩) b.2.2 hdg h4
theorem r_aret {r : Option Nat} {kd : Nat} {cn : String} (hX : OK X w cc nL own (some (.object cn)) rm (Qq w σ kd r)) (ht : ∀ t, r = some t → wK w t = kd) (hdg : decode cc pc = .ok (.areturn, 1)) : J X w nL σ pc lv [rv w r] := fun H locs ls a b c => by
  obtain ⟨h1, h2, -, -, -, -, h3, h4, -, h5, h6, h7⟩ := hX
  rw [h5]
  refine W.widen h6 h7 ?_
  exact W.aret h1 h2 h3 (Or.inl ⟨_, rfl⟩) (va_rf_or _) (fun t he _ => ⟨⟨_, (), rfl, ⟨rfl, ht⟩, by show Wd w σ t.heap; rw [he]; exact a⟩, b.F he⟩) b.2.2 hdg h4
end ROWS2
end
section
-- ===== calls =====
/-- what the tables say of a method -/
def MI (y : MethodName) (b : ByteArray) (n : Nat) (ret : Option FieldType) (np : Nat) : Prop := Cond.code y b n ret ∈ GT ∧ (y.cls ≠ "java/lang/invoke/MethodHandle" ∧ y.cls ≠ "java/lang/invoke/VarHandle" ∧ (parseMethodDescriptor y.desc).map (fun d => d.parameters.length) = some np) ∧ Cond.initialized y.cls ∈ GT ∧ plainFor y = true
theorem SX.kept {w : Wp} {s U : State} {H : Heap} {locs : List Loc} (h : SX w s s.heap) (hS : va_S (wA w) s.heap H locs) (hv : s.vm.Alike U.vm) : SX w U H := by
  obtain ⟨a, b, h1, h2, h3, h4⟩ := h
  exact ⟨a, b, (h1.moved hv).kept hS.2.1, (h2.moved hv).kept hS.2.1, (h3.moved hv).kept hS.2.1, (h4.moved hv).kept hS.2.1⟩
theorem Kx.at {w : Wp} {s U : State} {H : Heap} {locs : List Loc} (h : Kx w s) (hS : va_S (wA w) s.heap H locs) (hU : U.heap = H) (hW : s.WarmedH U.vm) : Kx w U :=
  ⟨va_K.moved hW.alike h.1, h.2.1.warm hW, by rw [hU]; exact h.2.2.1.kept hS hW.alike, fun q hq => h.2.2.2 q (Nat.le_trans hS.1 (by rw [← hU]; exact hq))⟩
theorem Kx.calling {w : Wp} {U : State} {g : JFrame} {mk : MethodId} {a : Array Value} (h : Kx w U) : Kx w (U.calling g mk a) :=
  ⟨va_K.moved (u := U) (U := U.calling g mk a) (Vm.Alike.refl U.vm) h.1, h.2.1.same rfl, by
    obtain ⟨x, y, h1, h2, h3, h4⟩ := h.2.2.1
    exact ⟨x, y, h1.moved (Vm.Alike.refl U.vm), h2.moved (Vm.Alike.refl U.vm), h3.moved (Vm.Alike.refl U.vm), h4.moved (Vm.Alike.refl U.vm)⟩, h.2.2.2⟩
theorem Pre.blind {w : Wp} {σ : St} {av : List Value} : FrameBlind (Pre w σ av) := fun a U g mk h => ⟨h.1, h.2.1, h.2.2.calling⟩
section CALLS
variable {X : Cx} {w : Wp} {cc : ByteArray} {nL : Nat} {own : String} {ret : Option FieldType} {rm : Room} {Q : QI} {σ σ' : St} {pc : Nat} {lv : List (Nat × Value)} {rest st As : List Value}
variable {y : MethodName} {b : ByteArray} {n np index : Nat} {rt : Option FieldType} {fr' lo' : Nat} {Qc : QI}
theorem cb_of (hX : OK X w cc nL own ret rm Q) (hm : MI y b n rt np) (hl : Cond.methodLink own index y ∈ GT) (hR : fr' + 1 ≤ rm.frames ∧ 8 + (n + 11) + lo' ≤ rm.locals) : CallB (xR X) (xs X) (xa X) own index y b n rt (.code y b n rt :: GT) (rmz fr' lo') 0 0 np := by
  refine callB_of (Ts := GT) np hX.2.2.2.2.1 (fun w hw => ?_) rfl rfl rfl (hX.2.2.2.2.1 _ hm.2.2.1) (hX.2.2.2.2.1 _ hl) hm.2.1 ?_
  · rcases List.mem_cons.mp hw with e | e
    · rw [e]; exact gt_in _ hm.1
    · exact gt_in _ e
  · rw [hX.2.2.2.2.2.2.2.2.1]; exact hR
theorem callfix (hX : OK X w cc nL own ret rm Q) : CallFix (xp X) (xm X) (xc X) cc nL (xs X) (xa X) GT own := ⟨hX.1, hX.2.1, hX.2.2.1, hX.2.2.2.1, hX.2.2.2.2.1⟩
theorem OK.cap (hX : OK X w cc nL own ret rm Q) : xcl X + 0 ≤ (xR X).cells ∧ xsl X + 0 ≤ (xR X).slots := by
  obtain ⟨-, -, -, -, -, -, -, -, h, -, h1, h2⟩ := hX
  rw [h]
  exact ⟨h1, h2⟩
/-- a static call -/
theorem runS (hX : OK X w cc nL own ret rm Q) (hm : MI y b n rt np) (hM : CM (xl X) w y b n rt (rmz fr' lo') As σ Qc) (hl : Cond.methodLink own index y ∈ GT) (hs : Cond.static y ∈ GT) (hR : fr' + 1 ≤ rm.frames ∧ 8 + (n + 11) + lo' ≤ rm.locals) (hdg : decode cc pc = .ok (.invokestatic index, 3)) (hn : As.length = np) (hst : st = As.reverse ++ rest) (hcat : (rest.map fun v => v.category).sum ≤ 8)
    {H : Heap} {locs : List Loc} {ls : Array Slot} (a : Wd w σ H) (bS : va_S (wA w) (xs X).heap H locs) (c : lv_has ls nL lv) : va_Run (xp X) (xl X) (xe X) (xR X) (xs X) (xm X) (xa X) (xb X) (xM X) (xc X) H locs (xcl X) (xsl X) 0 0 (F0 (xm X) pc ls st) rest (Qc As.toArray) (wA w) :=
  va_runS (callfix hX) hM ⟨cb_of hX hm hl hR, hX.2.2.2.2.1 _ hs⟩ ⟨Pre.blind, fun U hU hW => ⟨rfl, by rw [hU]; exact a, hX.2.2.2.2.2.1.at bS hU hW⟩⟩ rfl hn c.1 hst (lv_room hcat) hdg (hX.cap)
/-- a virtual call (private ones too) on an object of the class itself -/
theorem runV (hX : OK X w cc nL own ret rm Q) (hm : MI y b n rt np) {t kd ci N : Nat} {T : u_T} {fs : List Value} (hM : CM (xl X) w y b n rt (rmz fr' lo') (rf w t :: As) σ Qc) (hl : Cond.methodLink own index y ∈ GT) (hi : Cond.instanceMethod y ∈ GT) (hsel : Cond.selects y.cls y y ∈ GT) (hC : CI ci y.cls T N) (hk : wK w t = kd) (h0 : kd ≠ 0) (hce : ceS w t σ = .inr (ci, fs)) (hR : fr' + 1 ≤ rm.frames ∧ 8 + (n + 11) + lo' ≤ rm.locals) (hdg : decode cc pc = .ok (.invokevirtual index, 3)) (hn : As.length = np) (hst : st = As.reverse ++ rf w t :: rest) (hcat : (rest.map fun v => v.category).sum ≤ 8)
    {H : Heap} {locs : List Loc} {ls : Array Slot} (a : Wd w σ H) (bS : va_S (wA w) (xs X).heap H locs) (c : lv_has ls nL lv) : va_Run (xp X) (xl X) (xe X) (xR X) (xs X) (xm X) (xa X) (xb X) (xM X) (xc X) H locs (xcl X) (xsl X) 0 0 (F0 (xm X) pc ls st) rest (Qc (rf w t :: As).toArray) (wA w) := by
  have hP := a.at (t := t) (by rw [hk]; exact h0)
  rw [hce] at hP
  exact va_runV (callfix hX) hM ⟨cb_of hX hm hl hR, hX.2.2.2.2.1 _ hi, hX.2.2.2.2.1 _ hsel⟩ ⟨Pre.blind, va_recv (q0 := 0) hX.2.2.2.2.2.1.1 hP hC.2.1 rfl, fun U hU hW => ⟨rfl, by rw [hU]; exact a, hX.2.2.2.2.2.1.at bS hU hW⟩⟩ rfl hn c.1 hst (lv_room hcat) hdg (hX.cap)
/-- the one static call to a nest mate: Figure.hasLimb calls inRange -/
theorem runSN {host : String} (hX : OK X w cc nL own ret rm Q) (hm : MI y b n rt np) (hM : CM (xl X) w y b n rt (rmz fr' lo') As σ Qc) (hl : va_Nw (.methodLinkNest own index y host) (xs X)) (hs : Cond.static y ∈ GT) (hR : fr' + 1 ≤ rm.frames ∧ 8 + (n + 11) + lo' ≤ rm.locals) (hdg : decode cc pc = .ok (.invokestatic index, 3)) (hn : As.length = np) (hst : st = As.reverse ++ rest) (hcat : (rest.map fun v => v.category).sum ≤ 8)
    {H : Heap} {locs : List Loc} {ls : Array Slot} (a : Wd w σ H) (bS : va_S (wA w) (xs X).heap H locs) (c : lv_has ls nL lv) : va_Run (xp X) (xl X) (xe X) (xR X) (xs X) (xm X) (xa X) (xb X) (xM X) (xc X) H locs (xcl X) (xsl X) 0 0 (F0 (xm X) pc ls st) rest (Qc As.toArray) (wA w) := by
  refine va_runSN (callfix hX) hM ⟨va_cnB (Ts := GT) np hX.2.2.2.2.1 (fun w hw => ?_) rfl rfl rfl hl (hX.2.2.2.2.1 _ hm.2.2.1) hm.2.1 ?_, hX.2.2.2.2.1 _ hs, trivial⟩ ⟨Pre.blind, fun U hU hW => ⟨rfl, by rw [hU]; exact a, hX.2.2.2.2.2.1.at bS hU hW⟩⟩ rfl hn c.1 hst (lv_room hcat) hdg (hX.cap)
  · rcases List.mem_cons.mp hw with e | e
    · rw [e]; exact gt_in _ hm.1
    · exact gt_in _ e
  · rw [hX.2.2.2.2.2.2.2.2.1]; exact hR
-- what goes on behind a call
theorem J.calli {r : Int32} {av : Array Value} (hr : ∀ (H : Heap) (locs : List Loc) (ls : Array Slot), Wd w σ H → va_S (wA w) (xs X).heap H locs → lv_has ls nL lv → va_Run (xp X) (xl X) (xe X) (xR X) (xs X) (xm X) (xa X) (xb X) (xM X) (xc X) H locs (xcl X) (xsl X) 0 0 (F0 (xm X) pc ls st) rest (Qi w σ' r av) (wA w)) (kk : J X w nL σ' (pc + 3) lv (.int r :: rest)) : J X w nL σ pc lv st := fun H locs ls a b c =>
  va_calli (hr H locs ls a b c) b (fun _ _ h => h) (fun _ h => h) (fun r' u t H1 locs1 ht _ hp hB _ _ hS1 => by
    subst hp
    have hB : Wd w σ' t.heap := hB
    rw [ht] at hB
    exact kk H1 locs1 ls hB hS1 c)
theorem J.callz {r : Int32} {av : Array Value} (hr : ∀ (H : Heap) (locs : List Loc) (ls : Array Slot), Wd w σ H → va_S (wA w) (xs X).heap H locs → lv_has ls nL lv → va_Run (xp X) (xl X) (xe X) (xR X) (xs X) (xm X) (xa X) (xb X) (xM X) (xc X) H locs (xcl X) (xsl X) 0 0 (F0 (xm X) pc ls st) rest (Qz w σ' r av) (wA w)) (kk : Bz r → J X w nL σ' (pc + 3) lv (.int r :: rest)) : J X w nL σ pc lv st := fun H locs ls a b c =>
  va_calli (hr H locs ls a b c) b (fun _ _ h => h) (fun _ h => h) (fun r' u t H1 locs1 ht _ hp hB _ _ hS1 => by
    obtain ⟨hp, hz⟩ := hp
    subst hp
    have hB : Wd w σ' t.heap := hB
    rw [ht] at hB
    exact kk hz H1 locs1 ls hB hS1 c)
theorem J.calll {r : Int64} {av : Array Value} (hr : ∀ (H : Heap) (locs : List Loc) (ls : Array Slot), Wd w σ H → va_S (wA w) (xs X).heap H locs → lv_has ls nL lv → va_Run (xp X) (xl X) (xe X) (xR X) (xs X) (xm X) (xa X) (xb X) (xM X) (xc X) H locs (xcl X) (xsl X) 0 0 (F0 (xm X) pc ls st) rest (Ql w σ' r av) (wA w)) (kk : J X w nL σ' (pc + 3) lv (.long r :: rest)) : J X w nL σ pc lv st := fun H locs ls a b c =>
  va_calll (hr H locs ls a b c) b (fun _ _ h => h) (fun _ h => h) (fun r' u t H1 locs1 ht _ hp hB _ _ hS1 => by
    subst hp
    have hB : Wd w σ' t.heap := hB
    rw [ht] at hB
    exact kk H1 locs1 ls hB hS1 c)
theorem J.callv {av : Array Value} (hr : ∀ (H : Heap) (locs : List Loc) (ls : Array Slot), Wd w σ H → va_S (wA w) (xs X).heap H locs → lv_has ls nL lv → va_Run (xp X) (xl X) (xe X) (xR X) (xs X) (xm X) (xa X) (xb X) (xM X) (xc X) H locs (xcl X) (xsl X) 0 0 (F0 (xm X) pc ls st) rest (Qv w σ' av) (wA w)) (kk : J X w nL σ' (pc + 3) lv rest) : J X w nL σ pc lv st := fun H locs ls a b c =>
  va_callv (hr H locs ls a b c) b (fun _ _ h => h) (fun _ h => h) (fun u t H1 locs1 ht _ hp hB _ _ hS1 => by
    have hB : Wd w σ' t.heap := hB
    rw [ht] at hB
    exact kk H1 locs1 ls hB hS1 c)
theorem J.callq {kd : Nat} {r : Option Nat} {av : Array Value} (hr : ∀ (H : Heap) (locs : List Loc) (ls : Array Slot), Wd w σ H → va_S (wA w) (xs X).heap H locs → lv_has ls nL lv → va_Run (xp X) (xl X) (xe X) (xR X) (xs X) (xm X) (xa X) (xb X) (xM X) (xc X) H locs (xcl X) (xsl X) 0 0 (F0 (xm X) pc ls st) rest (Qq w σ' kd r av) (wA w)) (kk : (∀ t, r = some t → wK w t = kd) → J X w nL σ' (pc + 3) lv (rv w r :: rest)) : J X w nL σ pc lv st := fun H locs ls a b c =>
  va_callq (hr H locs ls a b c) b (fun _ _ h => h) (fun _ h => h) (fun r' u t H1 locs1 ht _ hp hB _ _ hS1 => by
    obtain ⟨hp, hz⟩ := hp
    subst hp
    have hB : Wd w σ' t.heap := hB
    rw [ht] at hB
    exact kk hz H1 locs1 ls hB hS1 c)
end CALLS
/-- System.arraycopy between two int arrays of the world -/
theorem r_copy {X : Cx} {w : Wp} {cc : ByteArray} {nL : Nat} {own : String} {ret : Option FieldType} {Q : QI} {σ : St} {pc : Nat} {lv : List (Nat × Value)} {rest : List Value} {rm : Room} {index t u n0 n1 : Nat} {sp dp n : Int32} (hX : OK X w cc nL own ret rm Q) (hl : Cond.methodLink own index arraycopyName ∈ GT) (hnat : Cond.native arraycopyName ∈ GT) (hsta : Cond.static arraycopyName ∈ GT) (hini : Cond.initialized "java/lang/System" ∈ GT)
    (hk0 : wK w t = 9) (hl0 : wl w t = n0) (hk1 : wK w u = 9) (hl1 : wl w u = n1) (hb : 0 ≤ sp.toInt ∧ 0 ≤ dp.toInt ∧ 0 ≤ n.toInt ∧ sp.toInt + n.toInt ≤ n0 ∧ dp.toInt + n.toInt ≤ n1) (hf : 1 ≤ rm.frames) (hlo : (rest.map fun v => v.category).sum + (nativeFrameWords "java/lang/System" "arraycopy" 5 + 11) ≤ rm.locals) (hdg : decode cc pc = .ok (.invokestatic index, 3))
    (kk : J X w nL (wC σ t u (ix sp) (ix dp) (ix n)) (pc + 3) lv rest) : J X w nL σ pc lv (.int n :: .int dp :: rf w u :: .int sp :: rf w t :: rest) := fun H locs ls a b c => by
  obtain ⟨b1, b2, b3, b4, b5⟩ := hb
  have neg : ∀ z : Int32, 0 ≤ z.toInt → ¬ z < 0 := fun z h q => by
    have := Int32.lt_iff_toInt_lt.mp q
    rw [Int32.toInt_zero] at this
    omega
  have nn : ∀ z : Int32, 0 ≤ z.toInt → z.toInt = (z.toNatClampNeg : Int) := fun z h => by
    show z.toInt = ((z.toInt.toNat : Nat) : Int)
    omega
  have e1 := nn sp b1
  have e2 := nn dp b2
  have e3 := nn n b3
  have hku : wK w u ≠ 0 := by rw [hk1]; decide
  have hc0 := (a.1 t (by rw [hk0]; decide)).1
  rw [show ceS w t σ = _ from ce9 hk0, hl0] at hc0
  have hc1 := (a.1 u hku).1
  rw [show ceS w u σ = _ from ce9 hk1, hl1] at hc1
  have hc0 : H[wa w t]? = some (vp_cell (wcI w) (n0, .inl (σ.1 t))) := hc0
  have hc1 : H[wa w u]? = some (vp_cell (wcI w) (n1, .inl (σ.1 u))) := hc1
  have hK := hX.2.2.2.2.2.1.1
  obtain ⟨-, k0, hq0, cm0, hkk0⟩ := (hK.2 0 _ rfl).1 n0 (fun j => .int (σ.1 t j))
  obtain ⟨-, k1, hq1, cm1, hkk1⟩ := (hK.2 0 _ rfl).1 n1 (fun j => .int (σ.1 u j))
  intro T hT S
  obtain ⟨vm', X', step⟩ := S.arraycopy hX.1 hX.2.2.2.1 (hX.2.2.2.2.1 _ hl) (hX.2.2.2.2.1 _ hnat) (hX.2.2.2.2.1 _ hsta) (hX.2.2.2.2.1 _ hini) (src := wa w t) (dst := wa w u) (cs := vp_cell (wcI w) (n0, .inl (σ.1 t))) (cd := vp_cell (wcI w) (n1, .inl (σ.1 u))) (srcPos := sp) (destPos := dp) (n := n) (by rw [hT]; exact hc0) (by rw [hT]; exact hc1)
    (fun _ h => by cases h) (fun _ h => by cases h) (fun h => by cases h) (fun h => by cases h) hq0 hq1 hkk0 hkk1 (by simp [refKind]) (neg sp b1) (neg dp b2) (neg n b3)
    (by show ¬ _ > ((arrV (wcI w) n0 (fun j => .int (σ.1 t j))).slots.size : Int); rw [arrV_size]; omega)
    (by show ¬ _ > ((arrV (wcI w) n1 (fun j => .int (σ.1 u j))).slots.size : Int); rw [arrV_size]; omega)
    (fun vm₁ _ i hi => by
      have e : (vp_cell (wcI w) (n0, .inl (σ.1 t))).slots.getD (sp.toNatClampNeg + i) .null = .int (σ.1 t (sp.toNatClampNeg + i)) := by
        show (arrV (wcI w) n0 (fun j => .int (σ.1 t j))).slots.getD _ _ = _
        rw [Array.getD_eq_getD_getElem?, arrV_read _ _ (by omega)]
        rfl
      refine ⟨?_, ?_⟩
      · rw [e]; rfl
      · rw [e]; exact trivial)
    (g := F0 (xm X) pc ls (.int n :: .int dp :: .ref (wa w u) :: .int sp :: .ref (wa w t) :: rest)) rfl (by show ls.size = (xc X).maxLocals; rw [c.1, hX.2.2.1]) (rest := rest) rfl (by rw [hX.2.1]; exact hdg) (by rw [hX.2.2.2.2.2.2.2.2.1]; exact hf) (by rw [hX.2.2.2.2.2.2.2.2.1]; show 2 * 0 + _ + _ ≤ rm.locals; omega)
  have e1 : copied (vp_cell (wcI w) (n0, .inl (σ.1 t))) (vp_cell (wcI w) (n1, .inl (σ.1 u))) sp dp n = vp_cell (wcI w) (n1, .inl (va_cpy (σ.1 t) (σ.1 u) sp.toNatClampNeg dp.toNatClampNeg n.toNatClampNeg)) := va_copied (fun z => .int z) (wcI w) (wcI w) (σ.1 t) (σ.1 u) (by omega)
  rw [e1] at X' step
  have hlt : wa w u < H.size := (Array.getElem?_eq_some_iff.mp hc1).1
  have hheap : ((T.setVm vm').setCell (wa w u) (vp_cell (wcI w) (n1, .inl (va_cpy (σ.1 t) (σ.1 u) sp.toNatClampNeg dp.toNatClampNeg n.toNatClampNeg)))).heap = H.setIfInBounds (wa w u) (vp_cell (wcI w) (n1, .inl (va_cpy (σ.1 t) (σ.1 u) sp.toNatClampNeg dp.toNatClampNeg n.toNatClampNeg))) := by rw [← hT]; rfl
  have oq : ∀ q : Nat, q ≠ wa w u → (H.setIfInBounds (wa w u) (vp_cell (wcI w) (n1, .inl (va_cpy (σ.1 t) (σ.1 u) sp.toNatClampNeg dp.toNatClampNeg n.toNatClampNeg))))[q]? = H[q]? := fun q hq => by simp [Array.getElem?_setIfInBounds, Ne.symm hq]
  obtain ⟨t2, a1, b1⟩ := kk _ _ ls (a.put (t := u) hku (σ' := wC σ t u (ix sp) (ix dp) (ix n)) a.2 (fun q h => by
      show ce w q ((wC σ t u (ix sp) (ix dp) (ix n)).1 q) _ _ = _
      rw [show (wC σ t u (ix sp) (ix dp) (ix n)).1 q = σ.1 q from if_neg h]; rfl) (by
      rw [show ceS w u (wC σ t u (ix sp) (ix dp) (ix n)) = _ from ce9 hk1, hl1, show (wC σ t u (ix sp) (ix dp) (ix n)).1 u = va_cpy (σ.1 t) (σ.1 u) (ix sp) (ix dp) (ix n) from if_pos rfl]
      show (H.setIfInBounds (wa w u) _)[wa w u]? = some _
      simp [Array.getElem?_setIfInBounds, hlt]) oq) ⟨by simp; exact b.1, fun q g1 g2 => by
      rw [oq q (fun e => g2 (by rw [e]; exact (a.1 u hku).2))]
      exact b.2.1 q g1 g2, fun q hq => by
      rcases List.mem_append.mp hq with h | h
      · exact b.2.2 q h
      · obtain ⟨z, -, hz⟩ := List.mem_map.mp h
        rw [← hz]
        exact (a.1 u hku).2⟩ c _ hheap X'
  exact ⟨t2, step t2 a1, b1⟩
end
section
-- ===== small rows for the printed walks, the two worlds, the classes =====
theorem elim_n {α β : Type} {a : β} {f : α → β} {z : β} (h : Option.elim none a f = z) : a = z := h
theorem elim_s {α β : Type} {t : α} {a : β} {f : α → β} {z : β} (h : Option.elim (some t) a f = z) : f t = z := h
def app1 {α β : Type} (o : α) (f : α → β) : β := f o
theorem app1_s {α β : Type} {o e : α} {f : α → β} {z : β} (he : o = e) (h : app1 e f = z) : f o = z := by rw [he]; exact h
def bd {α β : Type} (o : Option α) (f : α → Option β) : Option β := o.bind f
def bd2 {α γ β : Type} (o : Option (α × γ)) (f : α → γ → Option β) : Option β := o.bind (fun p => f p.1 p.2)
theorem bd_s {α β : Type} {o : Option α} {f : α → Option β} {z : β} (h : bd o f = some z) : ∃ a, o = some a ∧ f a = some z := bind_s h
theorem bd2_s {α γ β : Type} {o : Option (α × γ)} {f : α → γ → Option β} {z : β} (h : bd2 o f = some z) : ∃ a b, o = some (a, b) ∧ f a b = some z := by
  obtain ⟨a, b, h1, h2⟩ := bind_p h
  exact ⟨a, b, h1, h2⟩
theorem bd_some {α β : Type} {a : α} {f : α → Option β} : bd (some a) f = f a := rfl
theorem bd2_some {α γ β : Type} {a : α} {c : γ} {f : α → γ → Option β} : bd2 (some (a, c)) f = f a c := rfl
theorem vin {i : Int32} {n : Nat} (h : 0 ≤ i.toInt ∧ i.toInt < n) : vp_in i n := vp_in_iff.mpr h
theorem cpyG_some {α : Type} {sp dp n : Int32} {a b : Nat} {k : Option α} {z : α} (h : cpyG sp dp n a b k = some z) : (0 ≤ sp.toInt ∧ 0 ≤ dp.toInt ∧ 0 ≤ n.toInt ∧ sp.toInt + n.toInt ≤ a ∧ dp.toInt + n.toInt ≤ b) ∧ k = some z := by
  unfold cpyG at h
  split at h
  · rename_i q; exact ⟨q, h⟩
  · cases h
theorem rvcat (w : Wp) (o : Option Nat) : (rv w o).category = 1 := by cases o <;> rfl
theorem catI (x : Int32) : (Value.int x).category = 1 := rfl
theorem catL (x : Int64) : (Value.long x).category = 2 := rfl
theorem catR (x : Nat) : (Value.ref x).category = 1 := rfl
theorem bz0 : Bz 0 := by unfold Bz; decide +kernel
theorem bz1 : Bz 1 := by unfold Bz; decide +kernel
theorem sw_ne {x : Int32} {hi : Int} (h : x.toInt < 0 ∨ hi < x.toInt) (k : Int32) (h1 : 0 ≤ k.toInt) (h2 : k.toInt ≤ hi) : ¬ x = k := fun e => by subst e; omega
theorem sw_nk {x k j : Int32} (h : x = k) (hne : ¬ k = j) : ¬ x = j := by rw [h]; exact hne
theorem sw_all {P : Prop} {x : Int32} (n : Nat) (hn : n + 1 < 2 ^ 31) (ho : (x.toInt < 0 ∨ (n : Int) < x.toInt) → P) (hs : ∀ k : Nat, k ≤ n → x = nI k → P) : P := by
  by_cases h : x.toInt < 0 ∨ (n : Int) < x.toInt
  · exact ho h
  · obtain ⟨j, hj, e⟩ := vp_in_of (vp_in_iff.mpr (⟨by omega, by omega⟩ : 0 ≤ x.toInt ∧ x.toInt < ((n + 1 : Nat) : Int))) (by omega)
    exact hs j (by omega) e
theorem r_sw3 {P : Prop} {x : Int32} (ho : (x.toInt < 0 ∨ 2 < x.toInt) → P) (h0 : x = (0 : Int32) → P) (h1 : x = (1 : Int32) → P) (h2 : x = (2 : Int32) → P) : P := sw_all 2 (by decide) ho (fun k hk e => by
  rcases (show k = 0 ∨ k = 1 ∨ k = 2 by omega) with rfl | rfl | rfl
  · exact h0 e
  · exact h1 e
  · exact h2 e)
theorem r_sw4 {P : Prop} {x : Int32} (ho : (x.toInt < 0 ∨ 3 < x.toInt) → P) (h0 : x = (0 : Int32) → P) (h1 : x = (1 : Int32) → P) (h2 : x = (2 : Int32) → P) (h3 : x = (3 : Int32) → P) : P := sw_all 3 (by decide) ho (fun k hk e => by
  rcases (show k = 0 ∨ k = 1 ∨ k = 2 ∨ k = 3 by omega) with rfl | rfl | rfl | rfl
  · exact h0 e
  · exact h1 e
  · exact h2 e
  · exact h3 e)
theorem r_sw5 {P : Prop} {x : Int32} (ho : (x.toInt < 0 ∨ 4 < x.toInt) → P) (h0 : x = (0 : Int32) → P) (h1 : x = (1 : Int32) → P) (h2 : x = (2 : Int32) → P) (h3 : x = (3 : Int32) → P) (h4 : x = (4 : Int32) → P) : P := sw_all 4 (by decide) ho (fun k hk e => by
  rcases (show k = 0 ∨ k = 1 ∨ k = 2 ∨ k = 3 ∨ k = 4 by omega) with rfl | rfl | rfl | rfl | rfl
  · exact h0 e
  · exact h1 e
  · exact h2 e
  · exact h3 e
  · exact h4 e)
section PRE
variable {X : Cx} {w : Wp} {cc : ByteArray} {nL : Nat} {own : String} {ret : Option FieldType} {rm : Room} {Q : QI} {σ : St} {pc : Nat} {lv lv' : List (Nat × Value)} {rest : List Value}
theorem r_iincC (hX : OK X w cc nL own ret rm Q) {i : Nat} {n : Int} {x d : Int32} (hdg : decode cc pc = .ok (.iinc i n, 3)) (j : Nat) (hj : lv[j]? = some (i, .int x)) (hv : Int32.ofInt n = d) (hn : i < nL) (hl : (i, Value.int (x + d)) :: lv.filter (fun q => !(q.1 == i) && !(q.1 + 1 == i && q.2.category == 2)) = lv') (kk : J X w nL σ (pc + 3) lv' rest) : J X w nL σ pc lv rest := r_iinc hX hdg j hj (by rw [hv]) hn hl kk
theorem r_ifnullS (hX : OK X w cc nL own ret rm Q) {t : Nat} {off : Int} (hdg : decode cc pc = .ok (.ifnull off, 3)) (k : J X w nL σ (pc + 3) lv rest) : J X w nL σ pc lv (rf w t :: rest) := fun H locs ls a b c => lv_ifnull hX.1 hX.2.1 hdg (k H locs ls a b c)
theorem r_ifnonnullS (hX : OK X w cc nL own ret rm Q) {t : Nat} {off : Int} {tgt : Nat} (hdg : decode cc pc = .ok (.ifnonnull off, 3)) (ht : (pc : Int) + off = (tgt : Int)) (k : J X w nL σ tgt lv rest) : J X w nL σ pc lv (rf w t :: rest) := fun H locs ls a b c => lv_ifnonnull hX.1 hX.2.1 hdg ht (k H locs ls a b c)
end PRE
def CW (w : Wp) : Prop := (wK w 0 = 7) ∧ (wK w 1 = 11) ∧ (wl w 1 = 6) ∧ (wK w 2 = 5) ∧ (wK w 3 = 12) ∧ (wl w 3 = 60) ∧ (wK w 4 = 4) ∧ (wK w 5 = 9) ∧ (wl w 5 = 8) ∧ (wK w 6 = 9) ∧ (wl w 6 = 1024) ∧ (wK w 7 = 3) ∧ (wK w 8 = 9) ∧ (wl w 8 = 8) ∧ (wK w 9 = 9) ∧ (wl w 9 = 9) ∧ (wK w 10 = 9) ∧ (wl w 10 = 9) ∧ (wK w 11 = 9) ∧ (wl w 11 = 9) ∧ (wK w 12 = 3) ∧ (wK w 13 = 9) ∧ (wl w 13 = 8) ∧ (wK w 14 = 9) ∧ (wl w 14 = 9) ∧ (wK w 15 = 9) ∧ (wl w 15 = 9) ∧ (wK w 16 = 9) ∧ (wl w 16 = 9) ∧ (wK w 17 = 6) ∧ (wK w 18 = 6) ∧ (∀ t, wK w t = 1 → wK w (t + 1) = 9 ∧ wl w (t + 1) = 8 ∧ wK w (t + 2) = 9 ∧ wl w (t + 2) = 8 ∧ wK w (t + 3) = 9 ∧ wl w (t + 3) = 8) ∧ (∀ t, wK w t = 3 → wK w (t + 1) = 9 ∧ wl w (t + 1) = 8 ∧ wK w (t + 2) = 9 ∧ wl w (t + 2) = 9 ∧ wK w (t + 3) = 9 ∧ wl w (t + 3) = 9 ∧ wK w (t + 4) = 9 ∧ wl w (t + 4) = 9)
theorem CK0 {w : Wp} (h : CW w) : wK w 0 = 7 := h.1
theorem CK1 {w : Wp} (h : CW w) : wK w 1 = 11 := h.2.1
theorem CL1 {w : Wp} (h : CW w) : wl w 1 = 6 := h.2.2.1
theorem CK2 {w : Wp} (h : CW w) : wK w 2 = 5 := h.2.2.2.1
theorem CK3 {w : Wp} (h : CW w) : wK w 3 = 12 := h.2.2.2.2.1
theorem CL3 {w : Wp} (h : CW w) : wl w 3 = 60 := h.2.2.2.2.2.1
theorem CK4 {w : Wp} (h : CW w) : wK w 4 = 4 := h.2.2.2.2.2.2.1
theorem CK5 {w : Wp} (h : CW w) : wK w 5 = 9 := h.2.2.2.2.2.2.2.1
theorem CL5 {w : Wp} (h : CW w) : wl w 5 = 8 := h.2.2.2.2.2.2.2.2.1
theorem CK6 {w : Wp} (h : CW w) : wK w 6 = 9 := h.2.2.2.2.2.2.2.2.2.1
theorem CL6 {w : Wp} (h : CW w) : wl w 6 = 1024 := h.2.2.2.2.2.2.2.2.2.2.1
theorem CK7 {w : Wp} (h : CW w) : wK w 7 = 3 := h.2.2.2.2.2.2.2.2.2.2.2.1
theorem CK8 {w : Wp} (h : CW w) : wK w 8 = 9 := h.2.2.2.2.2.2.2.2.2.2.2.2.1
theorem CL8 {w : Wp} (h : CW w) : wl w 8 = 8 := h.2.2.2.2.2.2.2.2.2.2.2.2.2.1
theorem CK9 {w : Wp} (h : CW w) : wK w 9 = 9 := h.2.2.2.2.2.2.2.2.2.2.2.2.2.2.1
theorem CL9 {w : Wp} (h : CW w) : wl w 9 = 9 := h.2.2.2.2.2.2.2.2.2.2.2.2.2.2.2.1
theorem CK10 {w : Wp} (h : CW w) : wK w 10 = 9 := h.2.2.2.2.2.2.2.2.2.2.2.2.2.2.2.2.1
theorem CL10 {w : Wp} (h : CW w) : wl w 10 = 9 := h.2.2.2.2.2.2.2.2.2.2.2.2.2.2.2.2.2.1
theorem CK11 {w : Wp} (h : CW w) : wK w 11 = 9 := h.2.2.2.2.2.2.2.2.2.2.2.2.2.2.2.2.2.2.1
theorem CL11 {w : Wp} (h : CW w) : wl w 11 = 9 := h.2.2.2.2.2.2.2.2.2.2.2.2.2.2.2.2.2.2.2.1
theorem CK12 {w : Wp} (h : CW w) : wK w 12 = 3 := h.2.2.2.2.2.2.2.2.2.2.2.2.2.2.2.2.2.2.2.2.1
theorem CK13 {w : Wp} (h : CW w) : wK w 13 = 9 := h.2.2.2.2.2.2.2.2.2.2.2.2.2.2.2.2.2.2.2.2.2.1
theorem CL13 {w : Wp} (h : CW w) : wl w 13 = 8 := h.2.2.2.2.2.2.2.2.2.2.2.2.2.2.2.2.2.2.2.2.2.2.1
theorem CK14 {w : Wp} (h : CW w) : wK w 14 = 9 := h.2.2.2.2.2.2.2.2.2.2.2.2.2.2.2.2.2.2.2.2.2.2.2.1
theorem CL14 {w : Wp} (h : CW w) : wl w 14 = 9 := h.2.2.2.2.2.2.2.2.2.2.2.2.2.2.2.2.2.2.2.2.2.2.2.2.1
theorem CK15 {w : Wp} (h : CW w) : wK w 15 = 9 := h.2.2.2.2.2.2.2.2.2.2.2.2.2.2.2.2.2.2.2.2.2.2.2.2.2.1
theorem CL15 {w : Wp} (h : CW w) : wl w 15 = 9 := h.2.2.2.2.2.2.2.2.2.2.2.2.2.2.2.2.2.2.2.2.2.2.2.2.2.2.1
theorem CK16 {w : Wp} (h : CW w) : wK w 16 = 9 := h.2.2.2.2.2.2.2.2.2.2.2.2.2.2.2.2.2.2.2.2.2.2.2.2.2.2.2.1
theorem CL16 {w : Wp} (h : CW w) : wl w 16 = 9 := h.2.2.2.2.2.2.2.2.2.2.2.2.2.2.2.2.2.2.2.2.2.2.2.2.2.2.2.2.1
theorem CK17 {w : Wp} (h : CW w) : wK w 17 = 6 := h.2.2.2.2.2.2.2.2.2.2.2.2.2.2.2.2.2.2.2.2.2.2.2.2.2.2.2.2.2.1
theorem CK18 {w : Wp} (h : CW w) : wK w 18 = 6 := h.2.2.2.2.2.2.2.2.2.2.2.2.2.2.2.2.2.2.2.2.2.2.2.2.2.2.2.2.2.2.1
theorem CFk1 {w : Wp} {t : Nat} (h : CW w) (hk : wK w t = 1) : wK w (t + 1) = 9 := (h.2.2.2.2.2.2.2.2.2.2.2.2.2.2.2.2.2.2.2.2.2.2.2.2.2.2.2.2.2.2.2.1 t hk).1
theorem CFl1 {w : Wp} {t : Nat} (h : CW w) (hk : wK w t = 1) : wl w (t + 1) = 8 := (h.2.2.2.2.2.2.2.2.2.2.2.2.2.2.2.2.2.2.2.2.2.2.2.2.2.2.2.2.2.2.2.1 t hk).2.1
theorem CFk2 {w : Wp} {t : Nat} (h : CW w) (hk : wK w t = 1) : wK w (t + 2) = 9 := (h.2.2.2.2.2.2.2.2.2.2.2.2.2.2.2.2.2.2.2.2.2.2.2.2.2.2.2.2.2.2.2.1 t hk).2.2.1
theorem CFl2 {w : Wp} {t : Nat} (h : CW w) (hk : wK w t = 1) : wl w (t + 2) = 8 := (h.2.2.2.2.2.2.2.2.2.2.2.2.2.2.2.2.2.2.2.2.2.2.2.2.2.2.2.2.2.2.2.1 t hk).2.2.2.1
theorem CFk3 {w : Wp} {t : Nat} (h : CW w) (hk : wK w t = 1) : wK w (t + 3) = 9 := (h.2.2.2.2.2.2.2.2.2.2.2.2.2.2.2.2.2.2.2.2.2.2.2.2.2.2.2.2.2.2.2.1 t hk).2.2.2.2.1
theorem CFl3 {w : Wp} {t : Nat} (h : CW w) (hk : wK w t = 1) : wl w (t + 3) = 8 := (h.2.2.2.2.2.2.2.2.2.2.2.2.2.2.2.2.2.2.2.2.2.2.2.2.2.2.2.2.2.2.2.1 t hk).2.2.2.2.2
theorem CPk1 {w : Wp} {t : Nat} (h : CW w) (hk : wK w t = 3) : wK w (t + 1) = 9 := (h.2.2.2.2.2.2.2.2.2.2.2.2.2.2.2.2.2.2.2.2.2.2.2.2.2.2.2.2.2.2.2.2 t hk).1
theorem CPl1 {w : Wp} {t : Nat} (h : CW w) (hk : wK w t = 3) : wl w (t + 1) = 8 := (h.2.2.2.2.2.2.2.2.2.2.2.2.2.2.2.2.2.2.2.2.2.2.2.2.2.2.2.2.2.2.2.2 t hk).2.1
theorem CPk2 {w : Wp} {t : Nat} (h : CW w) (hk : wK w t = 3) : wK w (t + 2) = 9 := (h.2.2.2.2.2.2.2.2.2.2.2.2.2.2.2.2.2.2.2.2.2.2.2.2.2.2.2.2.2.2.2.2 t hk).2.2.1
theorem CPl2 {w : Wp} {t : Nat} (h : CW w) (hk : wK w t = 3) : wl w (t + 2) = 9 := (h.2.2.2.2.2.2.2.2.2.2.2.2.2.2.2.2.2.2.2.2.2.2.2.2.2.2.2.2.2.2.2.2 t hk).2.2.2.1
theorem CPk3 {w : Wp} {t : Nat} (h : CW w) (hk : wK w t = 3) : wK w (t + 3) = 9 := (h.2.2.2.2.2.2.2.2.2.2.2.2.2.2.2.2.2.2.2.2.2.2.2.2.2.2.2.2.2.2.2.2 t hk).2.2.2.2.1
theorem CPl3 {w : Wp} {t : Nat} (h : CW w) (hk : wK w t = 3) : wl w (t + 3) = 9 := (h.2.2.2.2.2.2.2.2.2.2.2.2.2.2.2.2.2.2.2.2.2.2.2.2.2.2.2.2.2.2.2.2 t hk).2.2.2.2.2.1
theorem CPk4 {w : Wp} {t : Nat} (h : CW w) (hk : wK w t = 3) : wK w (t + 4) = 9 := (h.2.2.2.2.2.2.2.2.2.2.2.2.2.2.2.2.2.2.2.2.2.2.2.2.2.2.2.2.2.2.2.2 t hk).2.2.2.2.2.2.1
theorem CPl4 {w : Wp} {t : Nat} (h : CW w) (hk : wK w t = 3) : wl w (t + 4) = 9 := (h.2.2.2.2.2.2.2.2.2.2.2.2.2.2.2.2.2.2.2.2.2.2.2.2.2.2.2.2.2.2.2.2 t hk).2.2.2.2.2.2.2
def MW (w : Wp) : Prop := (wK w 0 = 8) ∧ (wK w 1 = 9) ∧ (wl w 1 = 6) ∧ (wK w 2 = 9) ∧ (wl w 2 = 6) ∧ (wK w 3 = 9) ∧ (wl w 3 = 6) ∧ (wK w 4 = 9) ∧ (wl w 4 = 6) ∧ (wK w 5 = 9) ∧ (wl w 5 = 48) ∧ (wK w 6 = 9) ∧ (wl w 6 = 48) ∧ (wK w 7 = 9) ∧ (wl w 7 = 48) ∧ (wK w 8 = 9) ∧ (wl w 8 = 60) ∧ (wK w 9 = 9) ∧ (wl w 9 = 60) ∧ (wK w 10 = 9) ∧ (wl w 10 = 60) ∧ (wK w 11 = 9) ∧ (wl w 11 = 60) ∧ (wK w 12 = 9) ∧ (wl w 12 = 60) ∧ (wK w 13 = 9) ∧ (wl w 13 = 60) ∧ (wK w 14 = 9) ∧ (wl w 14 = 6) ∧ (wK w 15 = 9) ∧ (wl w 15 = 48) ∧ (wK w 16 = 10) ∧ (wl w 16 = 54) ∧ (wK w 17 = 10) ∧ (wl w 17 = 54) ∧ (wK w 18 = 9) ∧ (wl w 18 = 54) ∧ (wK w 19 = 10) ∧ (wl w 19 = 4) ∧ (wK w 20 = 10) ∧ (wl w 20 = 4) ∧ (wK w 21 = 9) ∧ (wl w 21 = 8) ∧ (wK w 22 = 9) ∧ (wl w 22 = 8) ∧ (wK w 23 = 9) ∧ (wl w 23 = 8)
theorem MK0 {w : Wp} (h : MW w) : wK w 0 = 8 := h.1
theorem MK1 {w : Wp} (h : MW w) : wK w 1 = 9 := h.2.1
theorem ML1 {w : Wp} (h : MW w) : wl w 1 = 6 := h.2.2.1
theorem MK2 {w : Wp} (h : MW w) : wK w 2 = 9 := h.2.2.2.1
theorem ML2 {w : Wp} (h : MW w) : wl w 2 = 6 := h.2.2.2.2.1
theorem MK3 {w : Wp} (h : MW w) : wK w 3 = 9 := h.2.2.2.2.2.1
theorem ML3 {w : Wp} (h : MW w) : wl w 3 = 6 := h.2.2.2.2.2.2.1
theorem MK4 {w : Wp} (h : MW w) : wK w 4 = 9 := h.2.2.2.2.2.2.2.1
theorem ML4 {w : Wp} (h : MW w) : wl w 4 = 6 := h.2.2.2.2.2.2.2.2.1
theorem MK5 {w : Wp} (h : MW w) : wK w 5 = 9 := h.2.2.2.2.2.2.2.2.2.1
theorem ML5 {w : Wp} (h : MW w) : wl w 5 = 48 := h.2.2.2.2.2.2.2.2.2.2.1
theorem MK6 {w : Wp} (h : MW w) : wK w 6 = 9 := h.2.2.2.2.2.2.2.2.2.2.2.1
theorem ML6 {w : Wp} (h : MW w) : wl w 6 = 48 := h.2.2.2.2.2.2.2.2.2.2.2.2.1
theorem MK7 {w : Wp} (h : MW w) : wK w 7 = 9 := h.2.2.2.2.2.2.2.2.2.2.2.2.2.1
theorem ML7 {w : Wp} (h : MW w) : wl w 7 = 48 := h.2.2.2.2.2.2.2.2.2.2.2.2.2.2.1
theorem MK8 {w : Wp} (h : MW w) : wK w 8 = 9 := h.2.2.2.2.2.2.2.2.2.2.2.2.2.2.2.1
theorem ML8 {w : Wp} (h : MW w) : wl w 8 = 60 := h.2.2.2.2.2.2.2.2.2.2.2.2.2.2.2.2.1
theorem MK9 {w : Wp} (h : MW w) : wK w 9 = 9 := h.2.2.2.2.2.2.2.2.2.2.2.2.2.2.2.2.2.1
theorem ML9 {w : Wp} (h : MW w) : wl w 9 = 60 := h.2.2.2.2.2.2.2.2.2.2.2.2.2.2.2.2.2.2.1
theorem MK10 {w : Wp} (h : MW w) : wK w 10 = 9 := h.2.2.2.2.2.2.2.2.2.2.2.2.2.2.2.2.2.2.2.1
theorem ML10 {w : Wp} (h : MW w) : wl w 10 = 60 := h.2.2.2.2.2.2.2.2.2.2.2.2.2.2.2.2.2.2.2.2.1
theorem MK11 {w : Wp} (h : MW w) : wK w 11 = 9 := h.2.2.2.2.2.2.2.2.2.2.2.2.2.2.2.2.2.2.2.2.2.1
theorem ML11 {w : Wp} (h : MW w) : wl w 11 = 60 := h.2.2.2.2.2.2.2.2.2.2.2.2.2.2.2.2.2.2.2.2.2.2.1
theorem MK12 {w : Wp} (h : MW w) : wK w 12 = 9 := h.2.2.2.2.2.2.2.2.2.2.2.2.2.2.2.2.2.2.2.2.2.2.2.1
theorem ML12 {w : Wp} (h : MW w) : wl w 12 = 60 := h.2.2.2.2.2.2.2.2.2.2.2.2.2.2.2.2.2.2.2.2.2.2.2.2.1
theorem MK13 {w : Wp} (h : MW w) : wK w 13 = 9 := h.2.2.2.2.2.2.2.2.2.2.2.2.2.2.2.2.2.2.2.2.2.2.2.2.2.1
theorem ML13 {w : Wp} (h : MW w) : wl w 13 = 60 := h.2.2.2.2.2.2.2.2.2.2.2.2.2.2.2.2.2.2.2.2.2.2.2.2.2.2.1
theorem MK14 {w : Wp} (h : MW w) : wK w 14 = 9 := h.2.2.2.2.2.2.2.2.2.2.2.2.2.2.2.2.2.2.2.2.2.2.2.2.2.2.2.1
theorem ML14 {w : Wp} (h : MW w) : wl w 14 = 6 := h.2.2.2.2.2.2.2.2.2.2.2.2.2.2.2.2.2.2.2.2.2.2.2.2.2.2.2.2.1
theorem MK15 {w : Wp} (h : MW w) : wK w 15 = 9 := h.2.2.2.2.2.2.2.2.2.2.2.2.2.2.2.2.2.2.2.2.2.2.2.2.2.2.2.2.2.1
theorem ML15 {w : Wp} (h : MW w) : wl w 15 = 48 := h.2.2.2.2.2.2.2.2.2.2.2.2.2.2.2.2.2.2.2.2.2.2.2.2.2.2.2.2.2.2.1
theorem MK16 {w : Wp} (h : MW w) : wK w 16 = 10 := h.2.2.2.2.2.2.2.2.2.2.2.2.2.2.2.2.2.2.2.2.2.2.2.2.2.2.2.2.2.2.2.1
theorem ML16 {w : Wp} (h : MW w) : wl w 16 = 54 := h.2.2.2.2.2.2.2.2.2.2.2.2.2.2.2.2.2.2.2.2.2.2.2.2.2.2.2.2.2.2.2.2.1
theorem MK17 {w : Wp} (h : MW w) : wK w 17 = 10 := h.2.2.2.2.2.2.2.2.2.2.2.2.2.2.2.2.2.2.2.2.2.2.2.2.2.2.2.2.2.2.2.2.2.1
theorem ML17 {w : Wp} (h : MW w) : wl w 17 = 54 := h.2.2.2.2.2.2.2.2.2.2.2.2.2.2.2.2.2.2.2.2.2.2.2.2.2.2.2.2.2.2.2.2.2.2.1
theorem MK18 {w : Wp} (h : MW w) : wK w 18 = 9 := h.2.2.2.2.2.2.2.2.2.2.2.2.2.2.2.2.2.2.2.2.2.2.2.2.2.2.2.2.2.2.2.2.2.2.2.1
theorem ML18 {w : Wp} (h : MW w) : wl w 18 = 54 := h.2.2.2.2.2.2.2.2.2.2.2.2.2.2.2.2.2.2.2.2.2.2.2.2.2.2.2.2.2.2.2.2.2.2.2.2.1
theorem MK19 {w : Wp} (h : MW w) : wK w 19 = 10 := h.2.2.2.2.2.2.2.2.2.2.2.2.2.2.2.2.2.2.2.2.2.2.2.2.2.2.2.2.2.2.2.2.2.2.2.2.2.1
theorem ML19 {w : Wp} (h : MW w) : wl w 19 = 4 := h.2.2.2.2.2.2.2.2.2.2.2.2.2.2.2.2.2.2.2.2.2.2.2.2.2.2.2.2.2.2.2.2.2.2.2.2.2.2.1
theorem MK20 {w : Wp} (h : MW w) : wK w 20 = 10 := h.2.2.2.2.2.2.2.2.2.2.2.2.2.2.2.2.2.2.2.2.2.2.2.2.2.2.2.2.2.2.2.2.2.2.2.2.2.2.2.1
theorem ML20 {w : Wp} (h : MW w) : wl w 20 = 4 := h.2.2.2.2.2.2.2.2.2.2.2.2.2.2.2.2.2.2.2.2.2.2.2.2.2.2.2.2.2.2.2.2.2.2.2.2.2.2.2.2.1
theorem MK21 {w : Wp} (h : MW w) : wK w 21 = 9 := h.2.2.2.2.2.2.2.2.2.2.2.2.2.2.2.2.2.2.2.2.2.2.2.2.2.2.2.2.2.2.2.2.2.2.2.2.2.2.2.2.2.1
theorem ML21 {w : Wp} (h : MW w) : wl w 21 = 8 := h.2.2.2.2.2.2.2.2.2.2.2.2.2.2.2.2.2.2.2.2.2.2.2.2.2.2.2.2.2.2.2.2.2.2.2.2.2.2.2.2.2.2.1
theorem MK22 {w : Wp} (h : MW w) : wK w 22 = 9 := h.2.2.2.2.2.2.2.2.2.2.2.2.2.2.2.2.2.2.2.2.2.2.2.2.2.2.2.2.2.2.2.2.2.2.2.2.2.2.2.2.2.2.2.1
theorem ML22 {w : Wp} (h : MW w) : wl w 22 = 8 := h.2.2.2.2.2.2.2.2.2.2.2.2.2.2.2.2.2.2.2.2.2.2.2.2.2.2.2.2.2.2.2.2.2.2.2.2.2.2.2.2.2.2.2.2.1
theorem MK23 {w : Wp} (h : MW w) : wK w 23 = 9 := h.2.2.2.2.2.2.2.2.2.2.2.2.2.2.2.2.2.2.2.2.2.2.2.2.2.2.2.2.2.2.2.2.2.2.2.2.2.2.2.2.2.2.2.2.2.1
theorem ML23 {w : Wp} (h : MW w) : wl w 23 = 8 := h.2.2.2.2.2.2.2.2.2.2.2.2.2.2.2.2.2.2.2.2.2.2.2.2.2.2.2.2.2.2.2.2.2.2.2.2.2.2.2.2.2.2.2.2.2.2
theorem ulX0 : ∀ k, k < 8 → u_lay RX0 TX0 k ∈ GT
  | 0, _ => g1_182
  | 1, _ => g1_184
  | 2, _ => g1_186
  | 3, _ => g1_188
  | 4, _ => g1_190
  | 5, _ => g1_192
  | 6, _ => g1_194
  | 7, _ => g1_196
  | n + 8, h => absurd h (by omega)
theorem cls0 : CI 0 RX0 TX0 8 := ⟨fun wd h => by
  obtain ⟨k, hk, e⟩ := List.mem_map.mp h
  rw [← e]
  exact ulX0 k (List.mem_range.mp hk), rfl, ⟨tyX0, tyX0_ok⟩, nmX0⟩
theorem ulX1 : ∀ k, k < 8 → u_lay RX1 TX1 k ∈ GT
  | 0, _ => g2_20
  | 1, _ => g2_22
  | 2, _ => g2_24
  | 3, _ => g2_26
  | 4, _ => g2_28
  | 5, _ => g2_30
  | 6, _ => g2_32
  | 7, _ => g2_34
  | n + 8, h => absurd h (by omega)
theorem cls1 : CI 1 RX1 TX1 8 := ⟨fun wd h => by
  obtain ⟨k, hk, e⟩ := List.mem_map.mp h
  rw [← e]
  exact ulX1 k (List.mem_range.mp hk), rfl, ⟨tyX1, tyX1_ok⟩, nmX1⟩
theorem ulX2 : ∀ k, k < 9 → u_lay RX2 TX2 k ∈ GT
  | 0, _ => g1_83
  | 1, _ => g1_85
  | 2, _ => g1_87
  | 3, _ => g1_89
  | 4, _ => g1_91
  | 5, _ => g1_93
  | 6, _ => g1_95
  | 7, _ => g1_97
  | 8, _ => g1_99
  | n + 9, h => absurd h (by omega)
theorem cls2 : CI 2 RX2 TX2 9 := ⟨fun wd h => by
  obtain ⟨k, hk, e⟩ := List.mem_map.mp h
  rw [← e]
  exact ulX2 k (List.mem_range.mp hk), rfl, ⟨tyX2, tyX2_ok⟩, nmX2⟩
theorem ulX3 : ∀ k, k < 3 → u_lay RX3 TX3 k ∈ GT
  | 0, _ => g1_50
  | 1, _ => g1_52
  | 2, _ => g1_54
  | n + 3, h => absurd h (by omega)
theorem cls3 : CI 3 RX3 TX3 3 := ⟨fun wd h => by
  obtain ⟨k, hk, e⟩ := List.mem_map.mp h
  rw [← e]
  exact ulX3 k (List.mem_range.mp hk), rfl, ⟨tyX3, tyX3_ok⟩, nmX3⟩
theorem ulX4 : ∀ k, k < 2 → u_lay RX4 TX4 k ∈ GT
  | 0, _ => g1_35
  | 1, _ => g1_37
  | n + 2, h => absurd h (by omega)
theorem cls4 : CI 4 RX4 TX4 2 := ⟨fun wd h => by
  obtain ⟨k, hk, e⟩ := List.mem_map.mp h
  rw [← e]
  exact ulX4 k (List.mem_range.mp hk), rfl, ⟨tyX4, tyX4_ok⟩, nmX4⟩
theorem ulX5 : ∀ k, k < 4 → u_lay RX5 TX5 k ∈ GT
  | 0, _ => g1_112
  | 1, _ => g1_114
  | 2, _ => g1_116
  | 3, _ => g1_118
  | n + 4, h => absurd h (by omega)
theorem cls5 : CI 5 RX5 TX5 4 := ⟨fun wd h => by
  obtain ⟨k, hk, e⟩ := List.mem_map.mp h
  rw [← e]
  exact ulX5 k (List.mem_range.mp hk), rfl, ⟨tyX5, tyX5_ok⟩, nmX5⟩
theorem ulX6 : ∀ k, k < 9 → u_lay RX6 TX6 k ∈ GT
  | 0, _ => g1_130
  | 1, _ => g1_132
  | 2, _ => g1_134
  | 3, _ => g1_136
  | 4, _ => g1_138
  | 5, _ => g1_140
  | 6, _ => g1_142
  | 7, _ => g1_144
  | 8, _ => g1_146
  | n + 9, h => absurd h (by omega)
theorem cls6 : CI 6 RX6 TX6 9 := ⟨fun wd h => by
  obtain ⟨k, hk, e⟩ := List.mem_map.mp h
  rw [← e]
  exact ulX6 k (List.mem_range.mp hk), rfl, ⟨tyX6, tyX6_ok⟩, nmX6⟩
theorem ulX7 : ∀ k, k < 27 → u_lay RX7 TX7 k ∈ GT
  | 0, _ => g3_88
  | 1, _ => g3_90
  | 2, _ => g3_92
  | 3, _ => g3_94
  | 4, _ => g3_96
  | 5, _ => g3_98
  | 6, _ => g3_100
  | 7, _ => g3_102
  | 8, _ => g3_104
  | 9, _ => g3_106
  | 10, _ => g3_108
  | 11, _ => g3_110
  | 12, _ => g3_112
  | 13, _ => g3_114
  | 14, _ => g3_116
  | 15, _ => g3_118
  | 16, _ => g3_120
  | 17, _ => g3_122
  | 18, _ => g3_124
  | 19, _ => g3_126
  | 20, _ => g3_128
  | 21, _ => g3_130
  | 22, _ => g3_132
  | 23, _ => g3_134
  | 24, _ => g3_136
  | 25, _ => g3_138
  | 26, _ => g3_140
  | n + 27, h => absurd h (by omega)
theorem cls7 : CI 7 RX7 TX7 27 := ⟨fun wd h => by
  obtain ⟨k, hk, e⟩ := List.mem_map.mp h
  rw [← e]
  exact ulX7 k (List.mem_range.mp hk), rfl, ⟨tyX7, tyX7_ok⟩, nmX7⟩
end
section
-- ===== constructors =====
abbrev TYL (cI cJ cF cM : ClassId) : List (ClassId × FieldType) := [(cI, .int), (cJ, .long), (cF, .object "JointedShadows$Figure"), (cM, .object "JointedShadows$Move")]
def KC (D : va_G) (cI cJ cF cM : ClassId) (U : State) : Prop := va_K D vwCl (TYL cI cJ cF cM) U ∧ va_AO "JointedShadows$Figure" U ∧ va_AO "JointedShadows$Move" U ∧ va_Nw (.methodLinkNest "JointedShadows" 26 yX4_init "JointedShadows") U ∧ va_Nw (.methodLinkNest "JointedShadows" 33 yX3_init "JointedShadows") U ∧ va_Nw (.methodLinkNest "JointedShadows" 40 yX2_init "JointedShadows") U ∧ va_Nw (.methodLinkNest "JointedShadows" 50 yX5_init "JointedShadows") U
theorem KC.at {D : va_G} {cI cJ cF cM : ClassId} {s U : State} (h : KC D cI cJ cF cM s) (hW : s.WarmedH U.vm) : KC D cI cJ cF cM U := ⟨va_K.moved hW.alike h.1, va_AO.moved hW.alike h.2.1, va_AO.moved hW.alike h.2.2.1, va_Nw.warmM hW h.2.2.2.1, va_Nw.warmM hW h.2.2.2.2.1, va_Nw.warmM hW h.2.2.2.2.2.1, va_Nw.warmM hW h.2.2.2.2.2.2⟩
theorem KC.calling {D : va_G} {cI cJ cF cM : ClassId} {U : State} {g : JFrame} {mk : MethodId} {a : Array Value} (h : KC D cI cJ cF cM U) : KC D cI cJ cF cM (U.calling g mk a) := ⟨va_K.moved (u := U) (U := U.calling g mk a) (Vm.Alike.refl U.vm) h.1, va_AO.moved (u := U) (U := U.calling g mk a) (Vm.Alike.refl U.vm) h.2.1, va_AO.moved (u := U) (U := U.calling g mk a) (Vm.Alike.refl U.vm) h.2.2.1, va_Nw.same rfl rfl h.2.2.2.1, va_Nw.same rfl rfl h.2.2.2.2.1, va_Nw.same rfl rfl h.2.2.2.2.2.1, va_Nw.same rfl rfl h.2.2.2.2.2.2⟩
theorem ra_int {D : va_G} {cl : List vw_C} {cI cJ cF cM cA : ClassId} {s : State} (h : va_K D cl (TYL cI cJ cF cM) s) (h1 : va_K D cl (TYL cI cJ cF cM ++ [(cA, .int)]) s) : cI = cA := by
  have a : s.vm.findClass _ = some cI := (h.2 0 _ rfl).2
  have b : s.vm.findClass _ = some cA := (h1.2 4 _ rfl).2
  exact Option.some.inj (a.symm.trans b)
theorem ra_long {D : va_G} {cl : List vw_C} {cI cJ cF cM cA : ClassId} {s : State} (h : va_K D cl (TYL cI cJ cF cM) s) (h1 : va_K D cl (TYL cI cJ cF cM ++ [(cA, .long)]) s) : cJ = cA := by
  have a : s.vm.findClass _ = some cJ := (h.2 1 _ rfl).2
  have b : s.vm.findClass _ = some cA := (h1.2 4 _ rfl).2
  exact Option.some.inj (a.symm.trans b)
theorem ra_fig {D : va_G} {cl : List vw_C} {cI cJ cF cM cA : ClassId} {s : State} (h : va_K D cl (TYL cI cJ cF cM) s) (h1 : va_K D cl (TYL cI cJ cF cM ++ [(cA, .object "JointedShadows$Figure")]) s) : cF = cA := by
  obtain ⟨_, _, _, _, _, a⟩ := (h.2 2 _ rfl).2
  obtain ⟨_, _, _, _, _, b⟩ := (h1.2 4 _ rfl).2
  exact Option.some.inj (a.symm.trans b)
theorem ra_mov {D : va_G} {cl : List vw_C} {cI cJ cF cM cA : ClassId} {s : State} (h : va_K D cl (TYL cI cJ cF cM) s) (h1 : va_K D cl (TYL cI cJ cF cM ++ [(cA, .object "JointedShadows$Move")]) s) : cM = cA := by
  obtain ⟨_, _, _, _, _, a⟩ := (h.2 3 _ rfl).2
  obtain ⟨_, _, _, _, _, b⟩ := (h1.2 4 _ rfl).2
  exact Option.some.inj (a.symm.trans b)
theorem good_code {y : MethodName} {b : ByteArray} {n : Nat} {rt : Option FieldType} (h : Cond.code y b n rt ∈ GT) : GoodIn GT (.code y b n rt :: GT) := fun w hw => by
  rcases List.mem_cons.mp hw with e | e
  · rw [e]; exact gt_in _ h
  · exact gt_in _ e
abbrev lsX0_init (cI cJ cF cM : ClassId) (u : Nat → Nat) (p1 : Int32) (p2 : Int32) (p3 : Int32) (p4 : Int32) : va_W := [((u 0), .inr (0, [.int p1, .int p2, .int p3, .int p4, .ref (u 1), .ref (u 2), .ref (u 3), .int (0 : Int32)])), ((u 1), .inl (cI, 8, .inl (fun _ => 0))), ((u 2), .inl (cI, 8, .inl (fun _ => 0))), ((u 3), .inl (cI, 8, .inl (fun _ => 0)))]
set_option maxHeartbeats 4000000 in
set_option maxRecDepth 100000 in
theorem kX0_init (l : Launch) (D : va_G) (cI cJ cF cM : ClassId) (h0 sz : Nat) (p1 : Int32) (p2 : Int32) (p3 : Int32) (p4 : Int32) : Met l yX0_init (.code yX0_init cX0_init 5 none :: GT) { frames := 1, cells := 3, slots := 24, locals := 12 } (va_Pc [.ref h0, .int p1, .int p2, .int p3, .int p4] (fun U => U.heap.size = sz ∧ va_P D vwCl [(h0, .inr (0, [.int 0, .int 0, .int 0, .int 0, .null, .null, .null, .int 0]))] U.heap ∧ KC D cI cJ cF cM U ∧ va_D (fun _ => True) [(h0, .inr (0, [.int 0, .int 0, .int 0, .int 0, .null, .null, .null, .int 0]))])) (va_Qv (fun (u : Nat → Nat) => u 0 = h0) (fun u t => va_P D vwCl (lsX0_init cI cJ cF cM u p1 p2 p3 p4) t.heap ∧ va_D (va_A [(h0, .inr (0, [.int 0, .int 0, .int 0, .int 0, .null, .null, .null, .int 0]))] sz) (lsX0_init cI cJ cF cM u p1 p2 p3 p4)) (va_A [(h0, .inr (0, [.int 0, .int 0, .int 0, .int 0, .null, .null, .null, .int 0]))] sz)) 3 24 (va_A [(h0, .inr (0, [.int 0, .int 0, .int 0, .int 0, .null, .null, .null, .int 0]))] sz) := by
  refine Met.ofW (cc := cX0_init) (maxL := 5) (ret := none) (by decide) rfl ?_
  intro p e s m args below meth c s₁ B hml hv
  obtain ⟨rfl, hsz, hP, hKC, hD0⟩ := hv
  have hK := hKC.1
  have hx := B.exec
  have hb := B.bytes
  have hr := B.returns
  have hts : ∀ w ∈ GT, w.before [.ref h0, .int p1, .int p2, .int p3, .int p4].toArray s = true := fun w hw => atoms_spec (ws := .code yX0_init cX0_init 5 none :: GT) B.pre w (List.mem_cons_of_mem _ hw)
  have hown : s.vm.findClass RX0 = some m.cls := findClass_of_methodNamed B.named
  have hlocks := B.notSynchronized
  have hin : meth.name = "<init>" := (name_of_methodNamed B.named B.method).1
  subst hsz
  have hD := hD0.self (sz := s.heap.size)
  generalize hAe : va_A [(h0, .inr (0, [.int 0, .int 0, .int 0, .int 0, .null, .null, .null, .int 0]))] s.heap.size = A at hD ⊢
  have hA : ∀ q : Nat, s.heap.size ≤ q → A q := fun q h => by rw [← hAe]; exact Or.inr h
  have hS : va_S A s.heap s.heap [] := va_S.rf
  have hl := lv_entry ([.ref h0, .int p1, .int p2, .int p3, .int p4]) (n := 5) (Nat.le_of_ble_eq_true rfl)
  rw [lg_entry_eq]
  generalize (lg_sl ([.ref h0, .int p1, .int p2, .int p3, .int p4]) ++ List.replicate (5 - (lg_sl ([.ref h0, .int p1, .int p2, .int p3, .int p4])).length) Slot.unset).toArray = ls at hl ⊢
  have hl : lv_has ls 5 [(0, .ref h0), (1, .int p1), (2, .int p2), (3, .int p3), (4, .int p4)] := hl
  refine lv_aload_n hx hb dX0_init_0 rfl (lv_at hl 0 rfl) ?_
  refine W.objInit hx hb hown (hts _ g1_164) (hts _ g1_19) (hts _ g1_20) rfl (by rw [hml]; exact hl.1) rfl dX0_init_1 (Nat.le_of_ble_eq_true rfl) (Nat.le_of_ble_eq_true rfl) ?_
  refine W.eq (g2 := F0 m 4 ls []) rfl ?_
  refine lv_aload_n hx hb dX0_init_4 rfl (lv_at hl 0 rfl) ?_
  refine lv_bipush (v := (8 : Int32)) hx hb dX0_init_5 (by decide) ?_
  refine va_newa (atype := .int) (ty := .int) (N' := 8) (a0 := (8, .inl (fun _ => 0))) hx hb (hts _ g1_57) rfl hK hP hD hS hA (fun _ => rfl) (by decide) (by decide +kernel) (by decide) (Nat.le_of_ble_eq_true rfl) (Nat.le_of_ble_eq_true rfl) dX0_init_7 (fun q1 cA H hK1 hP hD hS => ?_)
  obtain rfl : cI = cA := ra_int hK hK1
  have hP : va_P D vwCl [(h0, .inr (0, [.int 0, .int 0, .int 0, .int 0, .null, .null, .null, .int 0])), (q1, .inl (cI, 8, .inl (fun _ => 0)))] H := hP
  have hD : va_D A [(h0, .inr (0, [.int 0, .int 0, .int 0, .int 0, .null, .null, .null, .int 0])), (q1, .inl (cI, 8, .inl (fun _ => 0)))] := hD
  refine W.widen (k := 1) (n := 8) (Nat.le_of_ble_eq_true rfl) (Nat.le_of_ble_eq_true rfl) ?_
  refine va_putF (D := D) (ci := 0) (v := .ref q1) (ty := (.array .int)) (C := RX0) (T := TX0) (N := 8) hx hb hts cls0.1 tyX0 tyX0_ok nmX0 hown hK hP hD hS 0 rfl rfl 4 (by decide) (hts _ g1_174) (fun _ h9 => h9) rfl hin rfl (tyX0_ok 4 (by decide)) rfl rfl (Nat.le_of_ble_eq_true rfl) dX0_init_9 (fun H locs hP hD hS => ?_)
  have hP : va_P D vwCl [(h0, .inr (0, [.int 0, .int 0, .int 0, .int 0, .ref q1, .null, .null, .int 0])), (q1, .inl (cI, 8, .inl (fun _ => 0)))] H := hP
  have hD : va_D A [(h0, .inr (0, [.int 0, .int 0, .int 0, .int 0, .ref q1, .null, .null, .int 0])), (q1, .inl (cI, 8, .inl (fun _ => 0)))] := hD
  refine lv_aload_n hx hb dX0_init_12 rfl (lv_at hl 0 rfl) ?_
  refine lv_bipush (v := (8 : Int32)) hx hb dX0_init_13 (by decide) ?_
  refine va_newa (atype := .int) (ty := .int) (N' := 8) (a0 := (8, .inl (fun _ => 0))) hx hb (hts _ g1_57) rfl hK hP hD hS hA (fun _ => rfl) (by decide) (by decide +kernel) (by decide) (Nat.le_of_ble_eq_true rfl) (Nat.le_of_ble_eq_true rfl) dX0_init_15 (fun q2 cA H hK1 hP hD hS => ?_)
  obtain rfl : cI = cA := ra_int hK hK1
  have hP : va_P D vwCl [(h0, .inr (0, [.int 0, .int 0, .int 0, .int 0, .ref q1, .null, .null, .int 0])), (q1, .inl (cI, 8, .inl (fun _ => 0))), (q2, .inl (cI, 8, .inl (fun _ => 0)))] H := hP
  have hD : va_D A [(h0, .inr (0, [.int 0, .int 0, .int 0, .int 0, .ref q1, .null, .null, .int 0])), (q1, .inl (cI, 8, .inl (fun _ => 0))), (q2, .inl (cI, 8, .inl (fun _ => 0)))] := hD
  refine W.widen (k := 2) (n := 16) (Nat.le_of_ble_eq_true rfl) (Nat.le_of_ble_eq_true rfl) ?_
  refine va_putF (D := D) (ci := 0) (v := .ref q2) (ty := (.array .int)) (C := RX0) (T := TX0) (N := 8) hx hb hts cls0.1 tyX0 tyX0_ok nmX0 hown hK hP hD hS 0 rfl rfl 5 (by decide) (hts _ g1_175) (fun _ h9 => h9) rfl hin rfl (tyX0_ok 5 (by decide)) rfl rfl (Nat.le_of_ble_eq_true rfl) dX0_init_17 (fun H locs hP hD hS => ?_)
  have hP : va_P D vwCl [(h0, .inr (0, [.int 0, .int 0, .int 0, .int 0, .ref q1, .ref q2, .null, .int 0])), (q1, .inl (cI, 8, .inl (fun _ => 0))), (q2, .inl (cI, 8, .inl (fun _ => 0)))] H := hP
  have hD : va_D A [(h0, .inr (0, [.int 0, .int 0, .int 0, .int 0, .ref q1, .ref q2, .null, .int 0])), (q1, .inl (cI, 8, .inl (fun _ => 0))), (q2, .inl (cI, 8, .inl (fun _ => 0)))] := hD
  refine lv_aload_n hx hb dX0_init_20 rfl (lv_at hl 0 rfl) ?_
  refine lv_bipush (v := (8 : Int32)) hx hb dX0_init_21 (by decide) ?_
  refine va_newa (atype := .int) (ty := .int) (N' := 8) (a0 := (8, .inl (fun _ => 0))) hx hb (hts _ g1_57) rfl hK hP hD hS hA (fun _ => rfl) (by decide) (by decide +kernel) (by decide) (Nat.le_of_ble_eq_true rfl) (Nat.le_of_ble_eq_true rfl) dX0_init_23 (fun q3 cA H hK1 hP hD hS => ?_)
  obtain rfl : cI = cA := ra_int hK hK1
  have hP : va_P D vwCl [(h0, .inr (0, [.int 0, .int 0, .int 0, .int 0, .ref q1, .ref q2, .null, .int 0])), (q1, .inl (cI, 8, .inl (fun _ => 0))), (q2, .inl (cI, 8, .inl (fun _ => 0))), (q3, .inl (cI, 8, .inl (fun _ => 0)))] H := hP
  have hD : va_D A [(h0, .inr (0, [.int 0, .int 0, .int 0, .int 0, .ref q1, .ref q2, .null, .int 0])), (q1, .inl (cI, 8, .inl (fun _ => 0))), (q2, .inl (cI, 8, .inl (fun _ => 0))), (q3, .inl (cI, 8, .inl (fun _ => 0)))] := hD
  refine W.widen (k := 3) (n := 24) (Nat.le_of_ble_eq_true rfl) (Nat.le_of_ble_eq_true rfl) ?_
  refine va_putF (D := D) (ci := 0) (v := .ref q3) (ty := (.array .int)) (C := RX0) (T := TX0) (N := 8) hx hb hts cls0.1 tyX0 tyX0_ok nmX0 hown hK hP hD hS 0 rfl rfl 6 (by decide) (hts _ g1_177) (fun _ h9 => h9) rfl hin rfl (tyX0_ok 6 (by decide)) rfl rfl (Nat.le_of_ble_eq_true rfl) dX0_init_25 (fun H locs hP hD hS => ?_)
  have hP : va_P D vwCl [(h0, .inr (0, [.int 0, .int 0, .int 0, .int 0, .ref q1, .ref q2, .ref q3, .int 0])), (q1, .inl (cI, 8, .inl (fun _ => 0))), (q2, .inl (cI, 8, .inl (fun _ => 0))), (q3, .inl (cI, 8, .inl (fun _ => 0)))] H := hP
  have hD : va_D A [(h0, .inr (0, [.int 0, .int 0, .int 0, .int 0, .ref q1, .ref q2, .ref q3, .int 0])), (q1, .inl (cI, 8, .inl (fun _ => 0))), (q2, .inl (cI, 8, .inl (fun _ => 0))), (q3, .inl (cI, 8, .inl (fun _ => 0)))] := hD
  refine lv_aload_n hx hb dX0_init_28 rfl (lv_at hl 0 rfl) ?_
  refine lv_iconst (v := (0 : Int32)) hx hb dX0_init_29 (by decide) ?_
  refine va_put (D := D) (ci := 0) (v := .int (0 : Int32)) (ty := .int) (C := RX0) (T := TX0) (N := 8) hx hb hts cls0.1 tyX0 tyX0_ok nmX0 hown hK hP hD hS 0 rfl rfl 7 (by decide) (hts _ g1_179) (fun _ h9 => h9) rfl (tyX0_ok 7 (by decide)) rfl rfl (Nat.le_of_ble_eq_true rfl) dX0_init_30 (fun H locs hP hD hS => ?_)
  have hP : va_P D vwCl [(h0, .inr (0, [.int 0, .int 0, .int 0, .int 0, .ref q1, .ref q2, .ref q3, .int (0 : Int32)])), (q1, .inl (cI, 8, .inl (fun _ => 0))), (q2, .inl (cI, 8, .inl (fun _ => 0))), (q3, .inl (cI, 8, .inl (fun _ => 0)))] H := hP
  have hD : va_D A [(h0, .inr (0, [.int 0, .int 0, .int 0, .int 0, .ref q1, .ref q2, .ref q3, .int (0 : Int32)])), (q1, .inl (cI, 8, .inl (fun _ => 0))), (q2, .inl (cI, 8, .inl (fun _ => 0))), (q3, .inl (cI, 8, .inl (fun _ => 0)))] := hD
  refine lv_aload_n hx hb dX0_init_33 rfl (lv_at hl 0 rfl) ?_
  refine lv_iload_n hx hb dX0_init_34 rfl (lv_at hl 1 rfl) ?_
  refine va_putF (D := D) (ci := 0) (v := .int p1) (ty := .int) (C := RX0) (T := TX0) (N := 8) hx hb hts cls0.1 tyX0 tyX0_ok nmX0 hown hK hP hD hS 0 rfl rfl 0 (by decide) (hts _ g1_165) (fun _ h9 => h9) rfl hin rfl (tyX0_ok 0 (by decide)) rfl rfl (Nat.le_of_ble_eq_true rfl) dX0_init_35 (fun H locs hP hD hS => ?_)
  have hP : va_P D vwCl [(h0, .inr (0, [.int p1, .int 0, .int 0, .int 0, .ref q1, .ref q2, .ref q3, .int (0 : Int32)])), (q1, .inl (cI, 8, .inl (fun _ => 0))), (q2, .inl (cI, 8, .inl (fun _ => 0))), (q3, .inl (cI, 8, .inl (fun _ => 0)))] H := hP
  have hD : va_D A [(h0, .inr (0, [.int p1, .int 0, .int 0, .int 0, .ref q1, .ref q2, .ref q3, .int (0 : Int32)])), (q1, .inl (cI, 8, .inl (fun _ => 0))), (q2, .inl (cI, 8, .inl (fun _ => 0))), (q3, .inl (cI, 8, .inl (fun _ => 0)))] := hD
  refine lv_aload_n hx hb dX0_init_38 rfl (lv_at hl 0 rfl) ?_
  refine lv_iload_n hx hb dX0_init_39 rfl (lv_at hl 2 rfl) ?_
  refine va_putF (D := D) (ci := 0) (v := .int p2) (ty := .int) (C := RX0) (T := TX0) (N := 8) hx hb hts cls0.1 tyX0 tyX0_ok nmX0 hown hK hP hD hS 0 rfl rfl 1 (by decide) (hts _ g1_168) (fun _ h9 => h9) rfl hin rfl (tyX0_ok 1 (by decide)) rfl rfl (Nat.le_of_ble_eq_true rfl) dX0_init_40 (fun H locs hP hD hS => ?_)
  have hP : va_P D vwCl [(h0, .inr (0, [.int p1, .int p2, .int 0, .int 0, .ref q1, .ref q2, .ref q3, .int (0 : Int32)])), (q1, .inl (cI, 8, .inl (fun _ => 0))), (q2, .inl (cI, 8, .inl (fun _ => 0))), (q3, .inl (cI, 8, .inl (fun _ => 0)))] H := hP
  have hD : va_D A [(h0, .inr (0, [.int p1, .int p2, .int 0, .int 0, .ref q1, .ref q2, .ref q3, .int (0 : Int32)])), (q1, .inl (cI, 8, .inl (fun _ => 0))), (q2, .inl (cI, 8, .inl (fun _ => 0))), (q3, .inl (cI, 8, .inl (fun _ => 0)))] := hD
  refine lv_aload_n hx hb dX0_init_43 rfl (lv_at hl 0 rfl) ?_
  refine lv_iload_n hx hb dX0_init_44 rfl (lv_at hl 3 rfl) ?_
  refine va_putF (D := D) (ci := 0) (v := .int p3) (ty := .int) (C := RX0) (T := TX0) (N := 8) hx hb hts cls0.1 tyX0 tyX0_ok nmX0 hown hK hP hD hS 0 rfl rfl 2 (by decide) (hts _ g1_170) (fun _ h9 => h9) rfl hin rfl (tyX0_ok 2 (by decide)) rfl rfl (Nat.le_of_ble_eq_true rfl) dX0_init_45 (fun H locs hP hD hS => ?_)
  have hP : va_P D vwCl [(h0, .inr (0, [.int p1, .int p2, .int p3, .int 0, .ref q1, .ref q2, .ref q3, .int (0 : Int32)])), (q1, .inl (cI, 8, .inl (fun _ => 0))), (q2, .inl (cI, 8, .inl (fun _ => 0))), (q3, .inl (cI, 8, .inl (fun _ => 0)))] H := hP
  have hD : va_D A [(h0, .inr (0, [.int p1, .int p2, .int p3, .int 0, .ref q1, .ref q2, .ref q3, .int (0 : Int32)])), (q1, .inl (cI, 8, .inl (fun _ => 0))), (q2, .inl (cI, 8, .inl (fun _ => 0))), (q3, .inl (cI, 8, .inl (fun _ => 0)))] := hD
  refine lv_aload_n hx hb dX0_init_48 rfl (lv_at hl 0 rfl) ?_
  refine lv_iload hx hb dX0_init_49 (lv_at hl 4 rfl) ?_
  refine va_putF (D := D) (ci := 0) (v := .int p4) (ty := .int) (C := RX0) (T := TX0) (N := 8) hx hb hts cls0.1 tyX0 tyX0_ok nmX0 hown hK hP hD hS 0 rfl rfl 3 (by decide) (hts _ g1_172) (fun _ h9 => h9) rfl hin rfl (tyX0_ok 3 (by decide)) rfl rfl (Nat.le_of_ble_eq_true rfl) dX0_init_51 (fun H locs hP hD hS => ?_)
  have hP : va_P D vwCl [(h0, .inr (0, [.int p1, .int p2, .int p3, .int p4, .ref q1, .ref q2, .ref q3, .int (0 : Int32)])), (q1, .inl (cI, 8, .inl (fun _ => 0))), (q2, .inl (cI, 8, .inl (fun _ => 0))), (q3, .inl (cI, 8, .inl (fun _ => 0)))] H := hP
  have hD : va_D A [(h0, .inr (0, [.int p1, .int p2, .int p3, .int p4, .ref q1, .ref q2, .ref q3, .int (0 : Int32)])), (q1, .inl (cI, 8, .inl (fun _ => 0))), (q2, .inl (cI, 8, .inl (fun _ => 0))), (q3, .inl (cI, 8, .inl (fun _ => 0)))] := hD
  exact W.vret hx hb hr (fun t ht hW => ⟨⟨(fun k => [h0, q1, q2, q3].getD k 0), rfl, rfl, by show va_P D vwCl _ t.heap; rw [ht]; exact hP, hD⟩, hS.F ht⟩) hS.2.2 dX0_init_54
abbrev lsX1_init (cI cJ cF cM : ClassId) (u : Nat → Nat) (p1 : Int32) (p2 : Int32) (p3 : Int32) (p4 : Int32) : va_W := [((u 0), .inr (1, [.int p1, .int p2, .int p3, .int p4, .int (0 : Int32), .int (0 : Int32), .int (0 : Int32), .int (0 : Int32)]))]
set_option maxHeartbeats 4000000 in
set_option maxRecDepth 100000 in
theorem kX1_init (l : Launch) (D : va_G) (cI cJ cF cM : ClassId) (h0 sz : Nat) (p1 : Int32) (p2 : Int32) (p3 : Int32) (p4 : Int32) : Met l yX1_init (.code yX1_init cX1_init 5 none :: GT) { frames := 1, cells := 0, slots := 0, locals := 12 } (va_Pc [.ref h0, .int p1, .int p2, .int p3, .int p4] (fun U => U.heap.size = sz ∧ va_P D vwCl [(h0, .inr (1, [.int 0, .int 0, .int 0, .int 0, .int 0, .int 0, .int 0, .int 0]))] U.heap ∧ KC D cI cJ cF cM U ∧ va_D (fun _ => True) [(h0, .inr (1, [.int 0, .int 0, .int 0, .int 0, .int 0, .int 0, .int 0, .int 0]))])) (va_Qv (fun (u : Nat → Nat) => u 0 = h0) (fun u t => va_P D vwCl (lsX1_init cI cJ cF cM u p1 p2 p3 p4) t.heap ∧ va_D (va_A [(h0, .inr (1, [.int 0, .int 0, .int 0, .int 0, .int 0, .int 0, .int 0, .int 0]))] sz) (lsX1_init cI cJ cF cM u p1 p2 p3 p4)) (va_A [(h0, .inr (1, [.int 0, .int 0, .int 0, .int 0, .int 0, .int 0, .int 0, .int 0]))] sz)) 0 0 (va_A [(h0, .inr (1, [.int 0, .int 0, .int 0, .int 0, .int 0, .int 0, .int 0, .int 0]))] sz) := by
  refine Met.ofW (cc := cX1_init) (maxL := 5) (ret := none) (by decide) rfl ?_
  intro p e s m args below meth c s₁ B hml hv
  obtain ⟨rfl, hsz, hP, hKC, hD0⟩ := hv
  have hK := hKC.1
  have hx := B.exec
  have hb := B.bytes
  have hr := B.returns
  have hts : ∀ w ∈ GT, w.before [.ref h0, .int p1, .int p2, .int p3, .int p4].toArray s = true := fun w hw => atoms_spec (ws := .code yX1_init cX1_init 5 none :: GT) B.pre w (List.mem_cons_of_mem _ hw)
  have hown : s.vm.findClass RX1 = some m.cls := findClass_of_methodNamed B.named
  have hlocks := B.notSynchronized
  have hin : meth.name = "<init>" := (name_of_methodNamed B.named B.method).1
  subst hsz
  have hD := hD0.self (sz := s.heap.size)
  generalize hAe : va_A [(h0, .inr (1, [.int 0, .int 0, .int 0, .int 0, .int 0, .int 0, .int 0, .int 0]))] s.heap.size = A at hD ⊢
  have hA : ∀ q : Nat, s.heap.size ≤ q → A q := fun q h => by rw [← hAe]; exact Or.inr h
  have hS : va_S A s.heap s.heap [] := va_S.rf
  have hl := lv_entry ([.ref h0, .int p1, .int p2, .int p3, .int p4]) (n := 5) (Nat.le_of_ble_eq_true rfl)
  rw [lg_entry_eq]
  generalize (lg_sl ([.ref h0, .int p1, .int p2, .int p3, .int p4]) ++ List.replicate (5 - (lg_sl ([.ref h0, .int p1, .int p2, .int p3, .int p4])).length) Slot.unset).toArray = ls at hl ⊢
  have hl : lv_has ls 5 [(0, .ref h0), (1, .int p1), (2, .int p2), (3, .int p3), (4, .int p4)] := hl
  refine lv_aload_n hx hb dX1_init_0 rfl (lv_at hl 0 rfl) ?_
  refine W.objInit hx hb hown (hts _ g1_236) (hts _ g1_19) (hts _ g1_20) rfl (by rw [hml]; exact hl.1) rfl dX1_init_1 (Nat.le_of_ble_eq_true rfl) (Nat.le_of_ble_eq_true rfl) ?_
  refine W.eq (g2 := F0 m 4 ls []) rfl ?_
  refine lv_aload_n hx hb dX1_init_4 rfl (lv_at hl 0 rfl) ?_
  refine lv_iconst (v := (0 : Int32)) hx hb dX1_init_5 (by decide) ?_
  refine va_put (D := D) (ci := 1) (v := .int (0 : Int32)) (ty := .int) (C := RX1) (T := TX1) (N := 8) hx hb hts cls1.1 tyX1 tyX1_ok nmX1 hown hK hP hD hS 0 rfl rfl 4 (by decide) (hts _ g2_8) (fun _ h9 => h9) rfl (tyX1_ok 4 (by decide)) rfl rfl (Nat.le_of_ble_eq_true rfl) dX1_init_6 (fun H locs hP hD hS => ?_)
  have hP : va_P D vwCl [(h0, .inr (1, [.int 0, .int 0, .int 0, .int 0, .int (0 : Int32), .int 0, .int 0, .int 0]))] H := hP
  have hD : va_D A [(h0, .inr (1, [.int 0, .int 0, .int 0, .int 0, .int (0 : Int32), .int 0, .int 0, .int 0]))] := hD
  refine lv_aload_n hx hb dX1_init_9 rfl (lv_at hl 0 rfl) ?_
  refine lv_iconst (v := (0 : Int32)) hx hb dX1_init_10 (by decide) ?_
  refine va_put (D := D) (ci := 1) (v := .int (0 : Int32)) (ty := .int) (C := RX1) (T := TX1) (N := 8) hx hb hts cls1.1 tyX1 tyX1_ok nmX1 hown hK hP hD hS 0 rfl rfl 5 (by decide) (hts _ g2_11) (fun _ h9 => h9) rfl (tyX1_ok 5 (by decide)) rfl rfl (Nat.le_of_ble_eq_true rfl) dX1_init_11 (fun H locs hP hD hS => ?_)
  have hP : va_P D vwCl [(h0, .inr (1, [.int 0, .int 0, .int 0, .int 0, .int (0 : Int32), .int (0 : Int32), .int 0, .int 0]))] H := hP
  have hD : va_D A [(h0, .inr (1, [.int 0, .int 0, .int 0, .int 0, .int (0 : Int32), .int (0 : Int32), .int 0, .int 0]))] := hD
  refine lv_aload_n hx hb dX1_init_14 rfl (lv_at hl 0 rfl) ?_
  refine lv_iconst (v := (0 : Int32)) hx hb dX1_init_15 (by decide) ?_
  refine va_put (D := D) (ci := 1) (v := .int (0 : Int32)) (ty := .int) (C := RX1) (T := TX1) (N := 8) hx hb hts cls1.1 tyX1 tyX1_ok nmX1 hown hK hP hD hS 0 rfl rfl 6 (by decide) (hts _ g2_14) (fun _ h9 => h9) rfl (tyX1_ok 6 (by decide)) rfl rfl (Nat.le_of_ble_eq_true rfl) dX1_init_16 (fun H locs hP hD hS => ?_)
  have hP : va_P D vwCl [(h0, .inr (1, [.int 0, .int 0, .int 0, .int 0, .int (0 : Int32), .int (0 : Int32), .int (0 : Int32), .int 0]))] H := hP
  have hD : va_D A [(h0, .inr (1, [.int 0, .int 0, .int 0, .int 0, .int (0 : Int32), .int (0 : Int32), .int (0 : Int32), .int 0]))] := hD
  refine lv_aload_n hx hb dX1_init_19 rfl (lv_at hl 0 rfl) ?_
  refine lv_iconst (v := (0 : Int32)) hx hb dX1_init_20 (by decide) ?_
  refine va_put (D := D) (ci := 1) (v := .int (0 : Int32)) (ty := .int) (C := RX1) (T := TX1) (N := 8) hx hb hts cls1.1 tyX1 tyX1_ok nmX1 hown hK hP hD hS 0 rfl rfl 7 (by decide) (hts _ g2_17) (fun _ h9 => h9) rfl (tyX1_ok 7 (by decide)) rfl rfl (Nat.le_of_ble_eq_true rfl) dX1_init_21 (fun H locs hP hD hS => ?_)
  have hP : va_P D vwCl [(h0, .inr (1, [.int 0, .int 0, .int 0, .int 0, .int (0 : Int32), .int (0 : Int32), .int (0 : Int32), .int (0 : Int32)]))] H := hP
  have hD : va_D A [(h0, .inr (1, [.int 0, .int 0, .int 0, .int 0, .int (0 : Int32), .int (0 : Int32), .int (0 : Int32), .int (0 : Int32)]))] := hD
  refine lv_aload_n hx hb dX1_init_24 rfl (lv_at hl 0 rfl) ?_
  refine lv_iload_n hx hb dX1_init_25 rfl (lv_at hl 1 rfl) ?_
  refine va_putF (D := D) (ci := 1) (v := .int p1) (ty := .int) (C := RX1) (T := TX1) (N := 8) hx hb hts cls1.1 tyX1 tyX1_ok nmX1 hown hK hP hD hS 0 rfl rfl 0 (by decide) (hts _ g1_237) (fun _ h9 => h9) rfl hin rfl (tyX1_ok 0 (by decide)) rfl rfl (Nat.le_of_ble_eq_true rfl) dX1_init_26 (fun H locs hP hD hS => ?_)
  have hP : va_P D vwCl [(h0, .inr (1, [.int p1, .int 0, .int 0, .int 0, .int (0 : Int32), .int (0 : Int32), .int (0 : Int32), .int (0 : Int32)]))] H := hP
  have hD : va_D A [(h0, .inr (1, [.int p1, .int 0, .int 0, .int 0, .int (0 : Int32), .int (0 : Int32), .int (0 : Int32), .int (0 : Int32)]))] := hD
  refine lv_aload_n hx hb dX1_init_29 rfl (lv_at hl 0 rfl) ?_
  refine lv_iload_n hx hb dX1_init_30 rfl (lv_at hl 2 rfl) ?_
  refine va_putF (D := D) (ci := 1) (v := .int p2) (ty := .int) (C := RX1) (T := TX1) (N := 8) hx hb hts cls1.1 tyX1 tyX1_ok nmX1 hown hK hP hD hS 0 rfl rfl 1 (by decide) (hts _ g1_239) (fun _ h9 => h9) rfl hin rfl (tyX1_ok 1 (by decide)) rfl rfl (Nat.le_of_ble_eq_true rfl) dX1_init_31 (fun H locs hP hD hS => ?_)
  have hP : va_P D vwCl [(h0, .inr (1, [.int p1, .int p2, .int 0, .int 0, .int (0 : Int32), .int (0 : Int32), .int (0 : Int32), .int (0 : Int32)]))] H := hP
  have hD : va_D A [(h0, .inr (1, [.int p1, .int p2, .int 0, .int 0, .int (0 : Int32), .int (0 : Int32), .int (0 : Int32), .int (0 : Int32)]))] := hD
  refine lv_aload_n hx hb dX1_init_34 rfl (lv_at hl 0 rfl) ?_
  refine lv_iload_n hx hb dX1_init_35 rfl (lv_at hl 3 rfl) ?_
  refine va_putF (D := D) (ci := 1) (v := .int p3) (ty := .int) (C := RX1) (T := TX1) (N := 8) hx hb hts cls1.1 tyX1 tyX1_ok nmX1 hown hK hP hD hS 0 rfl rfl 2 (by decide) (hts _ g2_2) (fun _ h9 => h9) rfl hin rfl (tyX1_ok 2 (by decide)) rfl rfl (Nat.le_of_ble_eq_true rfl) dX1_init_36 (fun H locs hP hD hS => ?_)
  have hP : va_P D vwCl [(h0, .inr (1, [.int p1, .int p2, .int p3, .int 0, .int (0 : Int32), .int (0 : Int32), .int (0 : Int32), .int (0 : Int32)]))] H := hP
  have hD : va_D A [(h0, .inr (1, [.int p1, .int p2, .int p3, .int 0, .int (0 : Int32), .int (0 : Int32), .int (0 : Int32), .int (0 : Int32)]))] := hD
  refine lv_aload_n hx hb dX1_init_39 rfl (lv_at hl 0 rfl) ?_
  refine lv_iload hx hb dX1_init_40 (lv_at hl 4 rfl) ?_
  refine va_putF (D := D) (ci := 1) (v := .int p4) (ty := .int) (C := RX1) (T := TX1) (N := 8) hx hb hts cls1.1 tyX1 tyX1_ok nmX1 hown hK hP hD hS 0 rfl rfl 3 (by decide) (hts _ g2_5) (fun _ h9 => h9) rfl hin rfl (tyX1_ok 3 (by decide)) rfl rfl (Nat.le_of_ble_eq_true rfl) dX1_init_42 (fun H locs hP hD hS => ?_)
  have hP : va_P D vwCl [(h0, .inr (1, [.int p1, .int p2, .int p3, .int p4, .int (0 : Int32), .int (0 : Int32), .int (0 : Int32), .int (0 : Int32)]))] H := hP
  have hD : va_D A [(h0, .inr (1, [.int p1, .int p2, .int p3, .int p4, .int (0 : Int32), .int (0 : Int32), .int (0 : Int32), .int (0 : Int32)]))] := hD
  exact W.vret hx hb hr (fun t ht hW => ⟨⟨(fun k => [h0].getD k 0), rfl, rfl, by show va_P D vwCl _ t.heap; rw [ht]; exact hP, hD⟩, hS.F ht⟩) hS.2.2 dX1_init_45
abbrev lsX2_init (cI cJ cF cM : ClassId) (u : Nat → Nat)  : va_W := [((u 0), .inr (2, [.ref (u 1), .ref (u 2), .ref (u 3), .ref (u 4), .int (1 : Int32), .int (0 : Int32), .int (0 : Int32), .int (0 : Int32), .int (0 : Int32)])), ((u 1), .inl (cI, 8, .inl (fun _ => 0))), ((u 2), .inl (cI, 9, .inl (fun _ => 0))), ((u 3), .inl (cI, 9, .inl (fun _ => 0))), ((u 4), .inl (cI, 9, .inl (fun _ => 0)))]
set_option maxHeartbeats 4000000 in
set_option maxRecDepth 100000 in
theorem kX2_init (l : Launch) (D : va_G) (cI cJ cF cM : ClassId) (h0 sz : Nat)  : Met l yX2_init (.code yX2_init cX2_init 1 none :: GT) { frames := 1, cells := 4, slots := 35, locals := 12 } (va_Pc [.ref h0] (fun U => U.heap.size = sz ∧ va_P D vwCl [(h0, .inr (2, [.null, .null, .null, .null, .int 0, .int 0, .int 0, .int 0, .int 0]))] U.heap ∧ KC D cI cJ cF cM U ∧ va_D (fun _ => True) [(h0, .inr (2, [.null, .null, .null, .null, .int 0, .int 0, .int 0, .int 0, .int 0]))])) (va_Qv (fun (u : Nat → Nat) => u 0 = h0) (fun u t => va_P D vwCl (lsX2_init cI cJ cF cM u ) t.heap ∧ va_D (va_A [(h0, .inr (2, [.null, .null, .null, .null, .int 0, .int 0, .int 0, .int 0, .int 0]))] sz) (lsX2_init cI cJ cF cM u )) (va_A [(h0, .inr (2, [.null, .null, .null, .null, .int 0, .int 0, .int 0, .int 0, .int 0]))] sz)) 4 35 (va_A [(h0, .inr (2, [.null, .null, .null, .null, .int 0, .int 0, .int 0, .int 0, .int 0]))] sz) := by
  refine Met.ofW (cc := cX2_init) (maxL := 1) (ret := none) (by decide) rfl ?_
  intro p e s m args below meth c s₁ B hml hv
  obtain ⟨rfl, hsz, hP, hKC, hD0⟩ := hv
  have hK := hKC.1
  have hx := B.exec
  have hb := B.bytes
  have hr := B.returns
  have hts : ∀ w ∈ GT, w.before [.ref h0].toArray s = true := fun w hw => atoms_spec (ws := .code yX2_init cX2_init 1 none :: GT) B.pre w (List.mem_cons_of_mem _ hw)
  have hown : s.vm.findClass RX2 = some m.cls := findClass_of_methodNamed B.named
  have hlocks := B.notSynchronized
  have hin : meth.name = "<init>" := (name_of_methodNamed B.named B.method).1
  subst hsz
  have hD := hD0.self (sz := s.heap.size)
  generalize hAe : va_A [(h0, .inr (2, [.null, .null, .null, .null, .int 0, .int 0, .int 0, .int 0, .int 0]))] s.heap.size = A at hD ⊢
  have hA : ∀ q : Nat, s.heap.size ≤ q → A q := fun q h => by rw [← hAe]; exact Or.inr h
  have hS : va_S A s.heap s.heap [] := va_S.rf
  have hl := lv_entry ([.ref h0]) (n := 1) (Nat.le_of_ble_eq_true rfl)
  rw [lg_entry_eq]
  generalize (lg_sl ([.ref h0]) ++ List.replicate (1 - (lg_sl ([.ref h0])).length) Slot.unset).toArray = ls at hl ⊢
  have hl : lv_has ls 1 [(0, .ref h0)] := hl
  refine lv_aload_n hx hb dX2_init_0 rfl (lv_at hl 0 rfl) ?_
  refine W.objInit hx hb hown (hts _ g1_63) (hts _ g1_19) (hts _ g1_20) rfl (by rw [hml]; exact hl.1) rfl dX2_init_1 (Nat.le_of_ble_eq_true rfl) (Nat.le_of_ble_eq_true rfl) ?_
  refine W.eq (g2 := F0 m 4 ls []) rfl ?_
  refine lv_aload_n hx hb dX2_init_4 rfl (lv_at hl 0 rfl) ?_
  refine lv_bipush (v := (8 : Int32)) hx hb dX2_init_5 (by decide) ?_
  refine va_newa (atype := .int) (ty := .int) (N' := 8) (a0 := (8, .inl (fun _ => 0))) hx hb (hts _ g1_57) rfl hK hP hD hS hA (fun _ => rfl) (by decide) (by decide +kernel) (by decide) (Nat.le_of_ble_eq_true rfl) (Nat.le_of_ble_eq_true rfl) dX2_init_7 (fun q1 cA H hK1 hP hD hS => ?_)
  obtain rfl : cI = cA := ra_int hK hK1
  have hP : va_P D vwCl [(h0, .inr (2, [.null, .null, .null, .null, .int 0, .int 0, .int 0, .int 0, .int 0])), (q1, .inl (cI, 8, .inl (fun _ => 0)))] H := hP
  have hD : va_D A [(h0, .inr (2, [.null, .null, .null, .null, .int 0, .int 0, .int 0, .int 0, .int 0])), (q1, .inl (cI, 8, .inl (fun _ => 0)))] := hD
  refine W.widen (k := 1) (n := 8) (Nat.le_of_ble_eq_true rfl) (Nat.le_of_ble_eq_true rfl) ?_
  refine va_putF (D := D) (ci := 2) (v := .ref q1) (ty := (.array .int)) (C := RX2) (T := TX2) (N := 9) hx hb hts cls2.1 tyX2 tyX2_ok nmX2 hown hK hP hD hS 0 rfl rfl 0 (by decide) (hts _ g1_64) (fun _ h9 => h9) rfl hin rfl (tyX2_ok 0 (by decide)) rfl rfl (Nat.le_of_ble_eq_true rfl) dX2_init_9 (fun H locs hP hD hS => ?_)
  have hP : va_P D vwCl [(h0, .inr (2, [.ref q1, .null, .null, .null, .int 0, .int 0, .int 0, .int 0, .int 0])), (q1, .inl (cI, 8, .inl (fun _ => 0)))] H := hP
  have hD : va_D A [(h0, .inr (2, [.ref q1, .null, .null, .null, .int 0, .int 0, .int 0, .int 0, .int 0])), (q1, .inl (cI, 8, .inl (fun _ => 0)))] := hD
  refine lv_aload_n hx hb dX2_init_12 rfl (lv_at hl 0 rfl) ?_
  refine lv_bipush (v := (9 : Int32)) hx hb dX2_init_13 (by decide) ?_
  refine va_newa (atype := .int) (ty := .int) (N' := 9) (a0 := (9, .inl (fun _ => 0))) hx hb (hts _ g1_57) rfl hK hP hD hS hA (fun _ => rfl) (by decide) (by decide +kernel) (by decide) (Nat.le_of_ble_eq_true rfl) (Nat.le_of_ble_eq_true rfl) dX2_init_15 (fun q2 cA H hK1 hP hD hS => ?_)
  obtain rfl : cI = cA := ra_int hK hK1
  have hP : va_P D vwCl [(h0, .inr (2, [.ref q1, .null, .null, .null, .int 0, .int 0, .int 0, .int 0, .int 0])), (q1, .inl (cI, 8, .inl (fun _ => 0))), (q2, .inl (cI, 9, .inl (fun _ => 0)))] H := hP
  have hD : va_D A [(h0, .inr (2, [.ref q1, .null, .null, .null, .int 0, .int 0, .int 0, .int 0, .int 0])), (q1, .inl (cI, 8, .inl (fun _ => 0))), (q2, .inl (cI, 9, .inl (fun _ => 0)))] := hD
  refine W.widen (k := 2) (n := 17) (Nat.le_of_ble_eq_true rfl) (Nat.le_of_ble_eq_true rfl) ?_
  refine va_putF (D := D) (ci := 2) (v := .ref q2) (ty := (.array .int)) (C := RX2) (T := TX2) (N := 9) hx hb hts cls2.1 tyX2 tyX2_ok nmX2 hown hK hP hD hS 0 rfl rfl 1 (by decide) (hts _ g1_65) (fun _ h9 => h9) rfl hin rfl (tyX2_ok 1 (by decide)) rfl rfl (Nat.le_of_ble_eq_true rfl) dX2_init_17 (fun H locs hP hD hS => ?_)
  have hP : va_P D vwCl [(h0, .inr (2, [.ref q1, .ref q2, .null, .null, .int 0, .int 0, .int 0, .int 0, .int 0])), (q1, .inl (cI, 8, .inl (fun _ => 0))), (q2, .inl (cI, 9, .inl (fun _ => 0)))] H := hP
  have hD : va_D A [(h0, .inr (2, [.ref q1, .ref q2, .null, .null, .int 0, .int 0, .int 0, .int 0, .int 0])), (q1, .inl (cI, 8, .inl (fun _ => 0))), (q2, .inl (cI, 9, .inl (fun _ => 0)))] := hD
  refine lv_aload_n hx hb dX2_init_20 rfl (lv_at hl 0 rfl) ?_
  refine lv_bipush (v := (9 : Int32)) hx hb dX2_init_21 (by decide) ?_
  refine va_newa (atype := .int) (ty := .int) (N' := 9) (a0 := (9, .inl (fun _ => 0))) hx hb (hts _ g1_57) rfl hK hP hD hS hA (fun _ => rfl) (by decide) (by decide +kernel) (by decide) (Nat.le_of_ble_eq_true rfl) (Nat.le_of_ble_eq_true rfl) dX2_init_23 (fun q3 cA H hK1 hP hD hS => ?_)
  obtain rfl : cI = cA := ra_int hK hK1
  have hP : va_P D vwCl [(h0, .inr (2, [.ref q1, .ref q2, .null, .null, .int 0, .int 0, .int 0, .int 0, .int 0])), (q1, .inl (cI, 8, .inl (fun _ => 0))), (q2, .inl (cI, 9, .inl (fun _ => 0))), (q3, .inl (cI, 9, .inl (fun _ => 0)))] H := hP
  have hD : va_D A [(h0, .inr (2, [.ref q1, .ref q2, .null, .null, .int 0, .int 0, .int 0, .int 0, .int 0])), (q1, .inl (cI, 8, .inl (fun _ => 0))), (q2, .inl (cI, 9, .inl (fun _ => 0))), (q3, .inl (cI, 9, .inl (fun _ => 0)))] := hD
  refine W.widen (k := 3) (n := 26) (Nat.le_of_ble_eq_true rfl) (Nat.le_of_ble_eq_true rfl) ?_
  refine va_putF (D := D) (ci := 2) (v := .ref q3) (ty := (.array .int)) (C := RX2) (T := TX2) (N := 9) hx hb hts cls2.1 tyX2 tyX2_ok nmX2 hown hK hP hD hS 0 rfl rfl 2 (by decide) (hts _ g1_68) (fun _ h9 => h9) rfl hin rfl (tyX2_ok 2 (by decide)) rfl rfl (Nat.le_of_ble_eq_true rfl) dX2_init_25 (fun H locs hP hD hS => ?_)
  have hP : va_P D vwCl [(h0, .inr (2, [.ref q1, .ref q2, .ref q3, .null, .int 0, .int 0, .int 0, .int 0, .int 0])), (q1, .inl (cI, 8, .inl (fun _ => 0))), (q2, .inl (cI, 9, .inl (fun _ => 0))), (q3, .inl (cI, 9, .inl (fun _ => 0)))] H := hP
  have hD : va_D A [(h0, .inr (2, [.ref q1, .ref q2, .ref q3, .null, .int 0, .int 0, .int 0, .int 0, .int 0])), (q1, .inl (cI, 8, .inl (fun _ => 0))), (q2, .inl (cI, 9, .inl (fun _ => 0))), (q3, .inl (cI, 9, .inl (fun _ => 0)))] := hD
  refine lv_aload_n hx hb dX2_init_28 rfl (lv_at hl 0 rfl) ?_
  refine lv_bipush (v := (9 : Int32)) hx hb dX2_init_29 (by decide) ?_
  refine va_newa (atype := .int) (ty := .int) (N' := 9) (a0 := (9, .inl (fun _ => 0))) hx hb (hts _ g1_57) rfl hK hP hD hS hA (fun _ => rfl) (by decide) (by decide +kernel) (by decide) (Nat.le_of_ble_eq_true rfl) (Nat.le_of_ble_eq_true rfl) dX2_init_31 (fun q4 cA H hK1 hP hD hS => ?_)
  obtain rfl : cI = cA := ra_int hK hK1
  have hP : va_P D vwCl [(h0, .inr (2, [.ref q1, .ref q2, .ref q3, .null, .int 0, .int 0, .int 0, .int 0, .int 0])), (q1, .inl (cI, 8, .inl (fun _ => 0))), (q2, .inl (cI, 9, .inl (fun _ => 0))), (q3, .inl (cI, 9, .inl (fun _ => 0))), (q4, .inl (cI, 9, .inl (fun _ => 0)))] H := hP
  have hD : va_D A [(h0, .inr (2, [.ref q1, .ref q2, .ref q3, .null, .int 0, .int 0, .int 0, .int 0, .int 0])), (q1, .inl (cI, 8, .inl (fun _ => 0))), (q2, .inl (cI, 9, .inl (fun _ => 0))), (q3, .inl (cI, 9, .inl (fun _ => 0))), (q4, .inl (cI, 9, .inl (fun _ => 0)))] := hD
  refine W.widen (k := 4) (n := 35) (Nat.le_of_ble_eq_true rfl) (Nat.le_of_ble_eq_true rfl) ?_
  refine va_putF (D := D) (ci := 2) (v := .ref q4) (ty := (.array .int)) (C := RX2) (T := TX2) (N := 9) hx hb hts cls2.1 tyX2 tyX2_ok nmX2 hown hK hP hD hS 0 rfl rfl 3 (by decide) (hts _ g1_71) (fun _ h9 => h9) rfl hin rfl (tyX2_ok 3 (by decide)) rfl rfl (Nat.le_of_ble_eq_true rfl) dX2_init_33 (fun H locs hP hD hS => ?_)
  have hP : va_P D vwCl [(h0, .inr (2, [.ref q1, .ref q2, .ref q3, .ref q4, .int 0, .int 0, .int 0, .int 0, .int 0])), (q1, .inl (cI, 8, .inl (fun _ => 0))), (q2, .inl (cI, 9, .inl (fun _ => 0))), (q3, .inl (cI, 9, .inl (fun _ => 0))), (q4, .inl (cI, 9, .inl (fun _ => 0)))] H := hP
  have hD : va_D A [(h0, .inr (2, [.ref q1, .ref q2, .ref q3, .ref q4, .int 0, .int 0, .int 0, .int 0, .int 0])), (q1, .inl (cI, 8, .inl (fun _ => 0))), (q2, .inl (cI, 9, .inl (fun _ => 0))), (q3, .inl (cI, 9, .inl (fun _ => 0))), (q4, .inl (cI, 9, .inl (fun _ => 0)))] := hD
  refine lv_aload_n hx hb dX2_init_36 rfl (lv_at hl 0 rfl) ?_
  refine lv_iconst (v := (1 : Int32)) hx hb dX2_init_37 (by decide) ?_
  refine va_put (D := D) (ci := 2) (v := .int (1 : Int32)) (ty := .int) (C := RX2) (T := TX2) (N := 9) hx hb hts cls2.1 tyX2 tyX2_ok nmX2 hown hK hP hD hS 0 rfl rfl 4 (by decide) (hts _ g1_73) (fun _ h9 => h9) rfl (tyX2_ok 4 (by decide)) rfl rfl (Nat.le_of_ble_eq_true rfl) dX2_init_38 (fun H locs hP hD hS => ?_)
  have hP : va_P D vwCl [(h0, .inr (2, [.ref q1, .ref q2, .ref q3, .ref q4, .int (1 : Int32), .int 0, .int 0, .int 0, .int 0])), (q1, .inl (cI, 8, .inl (fun _ => 0))), (q2, .inl (cI, 9, .inl (fun _ => 0))), (q3, .inl (cI, 9, .inl (fun _ => 0))), (q4, .inl (cI, 9, .inl (fun _ => 0)))] H := hP
  have hD : va_D A [(h0, .inr (2, [.ref q1, .ref q2, .ref q3, .ref q4, .int (1 : Int32), .int 0, .int 0, .int 0, .int 0])), (q1, .inl (cI, 8, .inl (fun _ => 0))), (q2, .inl (cI, 9, .inl (fun _ => 0))), (q3, .inl (cI, 9, .inl (fun _ => 0))), (q4, .inl (cI, 9, .inl (fun _ => 0)))] := hD
  refine lv_aload_n hx hb dX2_init_41 rfl (lv_at hl 0 rfl) ?_
  refine lv_iconst (v := (0 : Int32)) hx hb dX2_init_42 (by decide) ?_
  refine va_put (D := D) (ci := 2) (v := .int (0 : Int32)) (ty := .int) (C := RX2) (T := TX2) (N := 9) hx hb hts cls2.1 tyX2 tyX2_ok nmX2 hown hK hP hD hS 0 rfl rfl 5 (by decide) (hts _ g1_75) (fun _ h9 => h9) rfl (tyX2_ok 5 (by decide)) rfl rfl (Nat.le_of_ble_eq_true rfl) dX2_init_43 (fun H locs hP hD hS => ?_)
  have hP : va_P D vwCl [(h0, .inr (2, [.ref q1, .ref q2, .ref q3, .ref q4, .int (1 : Int32), .int (0 : Int32), .int 0, .int 0, .int 0])), (q1, .inl (cI, 8, .inl (fun _ => 0))), (q2, .inl (cI, 9, .inl (fun _ => 0))), (q3, .inl (cI, 9, .inl (fun _ => 0))), (q4, .inl (cI, 9, .inl (fun _ => 0)))] H := hP
  have hD : va_D A [(h0, .inr (2, [.ref q1, .ref q2, .ref q3, .ref q4, .int (1 : Int32), .int (0 : Int32), .int 0, .int 0, .int 0])), (q1, .inl (cI, 8, .inl (fun _ => 0))), (q2, .inl (cI, 9, .inl (fun _ => 0))), (q3, .inl (cI, 9, .inl (fun _ => 0))), (q4, .inl (cI, 9, .inl (fun _ => 0)))] := hD
  refine lv_aload_n hx hb dX2_init_46 rfl (lv_at hl 0 rfl) ?_
  refine lv_iconst (v := (0 : Int32)) hx hb dX2_init_47 (by decide) ?_
  refine va_put (D := D) (ci := 2) (v := .int (0 : Int32)) (ty := .int) (C := RX2) (T := TX2) (N := 9) hx hb hts cls2.1 tyX2 tyX2_ok nmX2 hown hK hP hD hS 0 rfl rfl 6 (by decide) (hts _ g1_77) (fun _ h9 => h9) rfl (tyX2_ok 6 (by decide)) rfl rfl (Nat.le_of_ble_eq_true rfl) dX2_init_48 (fun H locs hP hD hS => ?_)
  have hP : va_P D vwCl [(h0, .inr (2, [.ref q1, .ref q2, .ref q3, .ref q4, .int (1 : Int32), .int (0 : Int32), .int (0 : Int32), .int 0, .int 0])), (q1, .inl (cI, 8, .inl (fun _ => 0))), (q2, .inl (cI, 9, .inl (fun _ => 0))), (q3, .inl (cI, 9, .inl (fun _ => 0))), (q4, .inl (cI, 9, .inl (fun _ => 0)))] H := hP
  have hD : va_D A [(h0, .inr (2, [.ref q1, .ref q2, .ref q3, .ref q4, .int (1 : Int32), .int (0 : Int32), .int (0 : Int32), .int 0, .int 0])), (q1, .inl (cI, 8, .inl (fun _ => 0))), (q2, .inl (cI, 9, .inl (fun _ => 0))), (q3, .inl (cI, 9, .inl (fun _ => 0))), (q4, .inl (cI, 9, .inl (fun _ => 0)))] := hD
  refine lv_aload_n hx hb dX2_init_51 rfl (lv_at hl 0 rfl) ?_
  refine lv_iconst (v := (0 : Int32)) hx hb dX2_init_52 (by decide) ?_
  refine va_put (D := D) (ci := 2) (v := .int (0 : Int32)) (ty := .int) (C := RX2) (T := TX2) (N := 9) hx hb hts cls2.1 tyX2 tyX2_ok nmX2 hown hK hP hD hS 0 rfl rfl 7 (by decide) (hts _ g1_79) (fun _ h9 => h9) rfl (tyX2_ok 7 (by decide)) rfl rfl (Nat.le_of_ble_eq_true rfl) dX2_init_53 (fun H locs hP hD hS => ?_)
  have hP : va_P D vwCl [(h0, .inr (2, [.ref q1, .ref q2, .ref q3, .ref q4, .int (1 : Int32), .int (0 : Int32), .int (0 : Int32), .int (0 : Int32), .int 0])), (q1, .inl (cI, 8, .inl (fun _ => 0))), (q2, .inl (cI, 9, .inl (fun _ => 0))), (q3, .inl (cI, 9, .inl (fun _ => 0))), (q4, .inl (cI, 9, .inl (fun _ => 0)))] H := hP
  have hD : va_D A [(h0, .inr (2, [.ref q1, .ref q2, .ref q3, .ref q4, .int (1 : Int32), .int (0 : Int32), .int (0 : Int32), .int (0 : Int32), .int 0])), (q1, .inl (cI, 8, .inl (fun _ => 0))), (q2, .inl (cI, 9, .inl (fun _ => 0))), (q3, .inl (cI, 9, .inl (fun _ => 0))), (q4, .inl (cI, 9, .inl (fun _ => 0)))] := hD
  refine lv_aload_n hx hb dX2_init_56 rfl (lv_at hl 0 rfl) ?_
  refine lv_iconst (v := (0 : Int32)) hx hb dX2_init_57 (by decide) ?_
  refine va_put (D := D) (ci := 2) (v := .int (0 : Int32)) (ty := .int) (C := RX2) (T := TX2) (N := 9) hx hb hts cls2.1 tyX2 tyX2_ok nmX2 hown hK hP hD hS 0 rfl rfl 8 (by decide) (hts _ g1_81) (fun _ h9 => h9) rfl (tyX2_ok 8 (by decide)) rfl rfl (Nat.le_of_ble_eq_true rfl) dX2_init_58 (fun H locs hP hD hS => ?_)
  have hP : va_P D vwCl [(h0, .inr (2, [.ref q1, .ref q2, .ref q3, .ref q4, .int (1 : Int32), .int (0 : Int32), .int (0 : Int32), .int (0 : Int32), .int (0 : Int32)])), (q1, .inl (cI, 8, .inl (fun _ => 0))), (q2, .inl (cI, 9, .inl (fun _ => 0))), (q3, .inl (cI, 9, .inl (fun _ => 0))), (q4, .inl (cI, 9, .inl (fun _ => 0)))] H := hP
  have hD : va_D A [(h0, .inr (2, [.ref q1, .ref q2, .ref q3, .ref q4, .int (1 : Int32), .int (0 : Int32), .int (0 : Int32), .int (0 : Int32), .int (0 : Int32)])), (q1, .inl (cI, 8, .inl (fun _ => 0))), (q2, .inl (cI, 9, .inl (fun _ => 0))), (q3, .inl (cI, 9, .inl (fun _ => 0))), (q4, .inl (cI, 9, .inl (fun _ => 0)))] := hD
  exact W.vret hx hb hr (fun t ht hW => ⟨⟨(fun k => [h0, q1, q2, q3, q4].getD k 0), rfl, rfl, by show va_P D vwCl _ t.heap; rw [ht]; exact hP, hD⟩, hS.F ht⟩) hS.2.2 dX2_init_61
abbrev lsX3_init (cI cJ cF cM : ClassId) (u : Nat → Nat)  : va_W := [((u 0), .inr (3, [.ref (u 1), .int (0 : Int32), .ref (u 2)])), ((u 1), .inl (cI, 8, .inl (fun _ => 0))), ((u 2), .inl (cI, 1024, .inl (fun _ => 0)))]
set_option maxHeartbeats 4000000 in
set_option maxRecDepth 100000 in
theorem kX3_init (l : Launch) (D : va_G) (cI cJ cF cM : ClassId) (h0 sz : Nat)  : Met l yX3_init (.code yX3_init cX3_init 1 none :: GT) { frames := 1, cells := 2, slots := 1032, locals := 12 } (va_Pc [.ref h0] (fun U => U.heap.size = sz ∧ va_P D vwCl [(h0, .inr (3, [.null, .int 0, .null]))] U.heap ∧ KC D cI cJ cF cM U ∧ va_D (fun _ => True) [(h0, .inr (3, [.null, .int 0, .null]))])) (va_Qv (fun (u : Nat → Nat) => u 0 = h0) (fun u t => va_P D vwCl (lsX3_init cI cJ cF cM u ) t.heap ∧ va_D (va_A [(h0, .inr (3, [.null, .int 0, .null]))] sz) (lsX3_init cI cJ cF cM u )) (va_A [(h0, .inr (3, [.null, .int 0, .null]))] sz)) 2 1032 (va_A [(h0, .inr (3, [.null, .int 0, .null]))] sz) := by
  refine Met.ofW (cc := cX3_init) (maxL := 1) (ret := none) (by decide) rfl ?_
  intro p e s m args below meth c s₁ B hml hv
  obtain ⟨rfl, hsz, hP, hKC, hD0⟩ := hv
  have hK := hKC.1
  have hx := B.exec
  have hb := B.bytes
  have hr := B.returns
  have hts : ∀ w ∈ GT, w.before [.ref h0].toArray s = true := fun w hw => atoms_spec (ws := .code yX3_init cX3_init 1 none :: GT) B.pre w (List.mem_cons_of_mem _ hw)
  have hown : s.vm.findClass RX3 = some m.cls := findClass_of_methodNamed B.named
  have hlocks := B.notSynchronized
  have hin : meth.name = "<init>" := (name_of_methodNamed B.named B.method).1
  subst hsz
  have hD := hD0.self (sz := s.heap.size)
  generalize hAe : va_A [(h0, .inr (3, [.null, .int 0, .null]))] s.heap.size = A at hD ⊢
  have hA : ∀ q : Nat, s.heap.size ≤ q → A q := fun q h => by rw [← hAe]; exact Or.inr h
  have hS : va_S A s.heap s.heap [] := va_S.rf
  have hl := lv_entry ([.ref h0]) (n := 1) (Nat.le_of_ble_eq_true rfl)
  rw [lg_entry_eq]
  generalize (lg_sl ([.ref h0]) ++ List.replicate (1 - (lg_sl ([.ref h0])).length) Slot.unset).toArray = ls at hl ⊢
  have hl : lv_has ls 1 [(0, .ref h0)] := hl
  refine lv_aload_n hx hb dX3_init_0 rfl (lv_at hl 0 rfl) ?_
  refine W.objInit hx hb hown (hts _ g1_45) (hts _ g1_19) (hts _ g1_20) rfl (by rw [hml]; exact hl.1) rfl dX3_init_1 (Nat.le_of_ble_eq_true rfl) (Nat.le_of_ble_eq_true rfl) ?_
  refine W.eq (g2 := F0 m 4 ls []) rfl ?_
  refine lv_aload_n hx hb dX3_init_4 rfl (lv_at hl 0 rfl) ?_
  refine lv_bipush (v := (8 : Int32)) hx hb dX3_init_5 (by decide) ?_
  refine va_newa (atype := .int) (ty := .int) (N' := 8) (a0 := (8, .inl (fun _ => 0))) hx hb (hts _ g1_57) rfl hK hP hD hS hA (fun _ => rfl) (by decide) (by decide +kernel) (by decide) (Nat.le_of_ble_eq_true rfl) (Nat.le_of_ble_eq_true rfl) dX3_init_7 (fun q1 cA H hK1 hP hD hS => ?_)
  obtain rfl : cI = cA := ra_int hK hK1
  have hP : va_P D vwCl [(h0, .inr (3, [.null, .int 0, .null])), (q1, .inl (cI, 8, .inl (fun _ => 0)))] H := hP
  have hD : va_D A [(h0, .inr (3, [.null, .int 0, .null])), (q1, .inl (cI, 8, .inl (fun _ => 0)))] := hD
  refine W.widen (k := 1) (n := 8) (Nat.le_of_ble_eq_true rfl) (Nat.le_of_ble_eq_true rfl) ?_
  refine va_putF (D := D) (ci := 3) (v := .ref q1) (ty := (.array .int)) (C := RX3) (T := TX3) (N := 3) hx hb hts cls3.1 tyX3 tyX3_ok nmX3 hown hK hP hD hS 0 rfl rfl 0 (by decide) (hts _ g1_46) (fun _ h9 => h9) rfl hin rfl (tyX3_ok 0 (by decide)) rfl rfl (Nat.le_of_ble_eq_true rfl) dX3_init_9 (fun H locs hP hD hS => ?_)
  have hP : va_P D vwCl [(h0, .inr (3, [.ref q1, .int 0, .null])), (q1, .inl (cI, 8, .inl (fun _ => 0)))] H := hP
  have hD : va_D A [(h0, .inr (3, [.ref q1, .int 0, .null])), (q1, .inl (cI, 8, .inl (fun _ => 0)))] := hD
  refine lv_aload_n hx hb dX3_init_12 rfl (lv_at hl 0 rfl) ?_
  refine lv_iconst (v := (0 : Int32)) hx hb dX3_init_13 (by decide) ?_
  refine va_put (D := D) (ci := 3) (v := .int (0 : Int32)) (ty := .int) (C := RX3) (T := TX3) (N := 3) hx hb hts cls3.1 tyX3 tyX3_ok nmX3 hown hK hP hD hS 0 rfl rfl 1 (by decide) (hts _ g1_47) (fun _ h9 => h9) rfl (tyX3_ok 1 (by decide)) rfl rfl (Nat.le_of_ble_eq_true rfl) dX3_init_14 (fun H locs hP hD hS => ?_)
  have hP : va_P D vwCl [(h0, .inr (3, [.ref q1, .int (0 : Int32), .null])), (q1, .inl (cI, 8, .inl (fun _ => 0)))] H := hP
  have hD : va_D A [(h0, .inr (3, [.ref q1, .int (0 : Int32), .null])), (q1, .inl (cI, 8, .inl (fun _ => 0)))] := hD
  refine lv_aload_n hx hb dX3_init_17 rfl (lv_at hl 0 rfl) ?_
  refine lv_sipush (v := (1024 : Int32)) hx hb dX3_init_18 (by decide) ?_
  refine va_newa (atype := .int) (ty := .int) (N' := 1024) (a0 := (1024, .inl (fun _ => 0))) hx hb (hts _ g1_57) rfl hK hP hD hS hA (fun _ => rfl) (by decide) (by decide +kernel) (by decide) (Nat.le_of_ble_eq_true rfl) (Nat.le_of_ble_eq_true rfl) dX3_init_21 (fun q2 cA H hK1 hP hD hS => ?_)
  obtain rfl : cI = cA := ra_int hK hK1
  have hP : va_P D vwCl [(h0, .inr (3, [.ref q1, .int (0 : Int32), .null])), (q1, .inl (cI, 8, .inl (fun _ => 0))), (q2, .inl (cI, 1024, .inl (fun _ => 0)))] H := hP
  have hD : va_D A [(h0, .inr (3, [.ref q1, .int (0 : Int32), .null])), (q1, .inl (cI, 8, .inl (fun _ => 0))), (q2, .inl (cI, 1024, .inl (fun _ => 0)))] := hD
  refine W.widen (k := 2) (n := 1032) (Nat.le_of_ble_eq_true rfl) (Nat.le_of_ble_eq_true rfl) ?_
  refine va_putF (D := D) (ci := 3) (v := .ref q2) (ty := (.array .int)) (C := RX3) (T := TX3) (N := 3) hx hb hts cls3.1 tyX3 tyX3_ok nmX3 hown hK hP hD hS 0 rfl rfl 2 (by decide) (hts _ g1_49) (fun _ h9 => h9) rfl hin rfl (tyX3_ok 2 (by decide)) rfl rfl (Nat.le_of_ble_eq_true rfl) dX3_init_23 (fun H locs hP hD hS => ?_)
  have hP : va_P D vwCl [(h0, .inr (3, [.ref q1, .int (0 : Int32), .ref q2])), (q1, .inl (cI, 8, .inl (fun _ => 0))), (q2, .inl (cI, 1024, .inl (fun _ => 0)))] H := hP
  have hD : va_D A [(h0, .inr (3, [.ref q1, .int (0 : Int32), .ref q2])), (q1, .inl (cI, 8, .inl (fun _ => 0))), (q2, .inl (cI, 1024, .inl (fun _ => 0)))] := hD
  exact W.vret hx hb hr (fun t ht hW => ⟨⟨(fun k => [h0, q1, q2].getD k 0), rfl, rfl, by show va_P D vwCl _ t.heap; rw [ht]; exact hP, hD⟩, hS.F ht⟩) hS.2.2 dX3_init_26
abbrev lsX4_init (cI cJ cF cM : ClassId) (u : Nat → Nat)  : va_W := [((u 0), .inr (4, [.ref (u 1), .int (0 : Int32)])), ((u 1), .inl (cM, 60, .inr (.inr (.inr (.inr (fun _ => none))))))]
set_option maxHeartbeats 4000000 in
set_option maxRecDepth 100000 in
theorem kX4_init (l : Launch) (D : va_G) (cI cJ cF cM : ClassId) (h0 sz : Nat)  : Met l yX4_init (.code yX4_init cX4_init 1 none :: GT) { frames := 1, cells := 1, slots := 60, locals := 12 } (va_Pc [.ref h0] (fun U => U.heap.size = sz ∧ va_P D vwCl [(h0, .inr (4, [.null, .int 0]))] U.heap ∧ KC D cI cJ cF cM U ∧ va_D (fun _ => True) [(h0, .inr (4, [.null, .int 0]))])) (va_Qv (fun (u : Nat → Nat) => u 0 = h0) (fun u t => va_P D vwCl (lsX4_init cI cJ cF cM u ) t.heap ∧ va_D (va_A [(h0, .inr (4, [.null, .int 0]))] sz) (lsX4_init cI cJ cF cM u )) (va_A [(h0, .inr (4, [.null, .int 0]))] sz)) 1 60 (va_A [(h0, .inr (4, [.null, .int 0]))] sz) := by
  refine Met.ofW (cc := cX4_init) (maxL := 1) (ret := none) (by decide) rfl ?_
  intro p e s m args below meth c s₁ B hml hv
  obtain ⟨rfl, hsz, hP, hKC, hD0⟩ := hv
  have hK := hKC.1
  have hx := B.exec
  have hb := B.bytes
  have hr := B.returns
  have hts : ∀ w ∈ GT, w.before [.ref h0].toArray s = true := fun w hw => atoms_spec (ws := .code yX4_init cX4_init 1 none :: GT) B.pre w (List.mem_cons_of_mem _ hw)
  have hown : s.vm.findClass RX4 = some m.cls := findClass_of_methodNamed B.named
  have hlocks := B.notSynchronized
  have hin : meth.name = "<init>" := (name_of_methodNamed B.named B.method).1
  subst hsz
  have hD := hD0.self (sz := s.heap.size)
  generalize hAe : va_A [(h0, .inr (4, [.null, .int 0]))] s.heap.size = A at hD ⊢
  have hA : ∀ q : Nat, s.heap.size ≤ q → A q := fun q h => by rw [← hAe]; exact Or.inr h
  have hS : va_S A s.heap s.heap [] := va_S.rf
  have hl := lv_entry ([.ref h0]) (n := 1) (Nat.le_of_ble_eq_true rfl)
  rw [lg_entry_eq]
  generalize (lg_sl ([.ref h0]) ++ List.replicate (1 - (lg_sl ([.ref h0])).length) Slot.unset).toArray = ls at hl ⊢
  have hl : lv_has ls 1 [(0, .ref h0)] := hl
  refine lv_aload_n hx hb dX4_init_0 rfl (lv_at hl 0 rfl) ?_
  refine W.objInit hx hb hown (hts _ g1_28) (hts _ g1_19) (hts _ g1_20) rfl (by rw [hml]; exact hl.1) rfl dX4_init_1 (Nat.le_of_ble_eq_true rfl) (Nat.le_of_ble_eq_true rfl) ?_
  refine W.eq (g2 := F0 m 4 ls []) rfl ?_
  refine lv_aload_n hx hb dX4_init_4 rfl (lv_at hl 0 rfl) ?_
  refine lv_bipush (v := (60 : Int32)) hx hb dX4_init_5 (by decide) ?_
  refine va_newq (C := "JointedShadows$Move") (N' := 60) hx hb hown (hts _ g1_29) hKC.2.2.1 hK hP hD hS hA (by decide) (by decide +kernel) (by decide) (Nat.le_of_ble_eq_true rfl) (Nat.le_of_ble_eq_true rfl) dX4_init_7 (fun q1 cA H hK1 hP hD hS => ?_)
  obtain rfl : cM = cA := ra_mov hK hK1
  have hP : va_P D vwCl [(h0, .inr (4, [.null, .int 0])), (q1, .inl (cM, 60, .inr (.inr (.inr (.inr (fun _ => none))))))] H := hP
  have hD : va_D A [(h0, .inr (4, [.null, .int 0])), (q1, .inl (cM, 60, .inr (.inr (.inr (.inr (fun _ => none))))))] := hD
  refine W.widen (k := 1) (n := 60) (Nat.le_of_ble_eq_true rfl) (Nat.le_of_ble_eq_true rfl) ?_
  refine va_putF (D := D) (ci := 4) (v := .ref q1) (ty := (.array (.object "JointedShadows$Move"))) (C := RX4) (T := TX4) (N := 2) hx hb hts cls4.1 tyX4 tyX4_ok nmX4 hown hK hP hD hS 0 rfl rfl 0 (by decide) (hts _ g1_31) (fun _ h9 => h9) rfl hin rfl (tyX4_ok 0 (by decide)) rfl rfl (Nat.le_of_ble_eq_true rfl) dX4_init_10 (fun H locs hP hD hS => ?_)
  have hP : va_P D vwCl [(h0, .inr (4, [.ref q1, .int 0])), (q1, .inl (cM, 60, .inr (.inr (.inr (.inr (fun _ => none))))))] H := hP
  have hD : va_D A [(h0, .inr (4, [.ref q1, .int 0])), (q1, .inl (cM, 60, .inr (.inr (.inr (.inr (fun _ => none))))))] := hD
  refine lv_aload_n hx hb dX4_init_13 rfl (lv_at hl 0 rfl) ?_
  refine lv_iconst (v := (0 : Int32)) hx hb dX4_init_14 (by decide) ?_
  refine va_put (D := D) (ci := 4) (v := .int (0 : Int32)) (ty := .int) (C := RX4) (T := TX4) (N := 2) hx hb hts cls4.1 tyX4 tyX4_ok nmX4 hown hK hP hD hS 0 rfl rfl 1 (by decide) (hts _ g1_33) (fun _ h9 => h9) rfl (tyX4_ok 1 (by decide)) rfl rfl (Nat.le_of_ble_eq_true rfl) dX4_init_15 (fun H locs hP hD hS => ?_)
  have hP : va_P D vwCl [(h0, .inr (4, [.ref q1, .int (0 : Int32)])), (q1, .inl (cM, 60, .inr (.inr (.inr (.inr (fun _ => none))))))] H := hP
  have hD : va_D A [(h0, .inr (4, [.ref q1, .int (0 : Int32)])), (q1, .inl (cM, 60, .inr (.inr (.inr (.inr (fun _ => none))))))] := hD
  exact W.vret hx hb hr (fun t ht hW => ⟨⟨(fun k => [h0, q1].getD k 0), rfl, rfl, by show va_P D vwCl _ t.heap; rw [ht]; exact hP, hD⟩, hS.F ht⟩) hS.2.2 dX4_init_18
abbrev lsX5_init (cI cJ cF cM : ClassId) (u : Nat → Nat)  : va_W := [((u 0), .inr (5, [.long 0, .long 0, .long 0, .long 0]))]
set_option maxHeartbeats 4000000 in
set_option maxRecDepth 100000 in
theorem kX5_init (l : Launch) (D : va_G) (cI cJ cF cM : ClassId) (h0 sz : Nat)  : Met l yX5_init (.code yX5_init cX5_init 1 none :: GT) { frames := 1, cells := 0, slots := 0, locals := 12 } (va_Pc [.ref h0] (fun U => U.heap.size = sz ∧ va_P D vwCl [(h0, .inr (5, [.long 0, .long 0, .long 0, .long 0]))] U.heap ∧ KC D cI cJ cF cM U ∧ va_D (fun _ => True) [(h0, .inr (5, [.long 0, .long 0, .long 0, .long 0]))])) (va_Qv (fun (u : Nat → Nat) => u 0 = h0) (fun u t => va_P D vwCl (lsX5_init cI cJ cF cM u ) t.heap ∧ va_D (va_A [(h0, .inr (5, [.long 0, .long 0, .long 0, .long 0]))] sz) (lsX5_init cI cJ cF cM u )) (va_A [(h0, .inr (5, [.long 0, .long 0, .long 0, .long 0]))] sz)) 0 0 (va_A [(h0, .inr (5, [.long 0, .long 0, .long 0, .long 0]))] sz) := by
  refine Met.ofW (cc := cX5_init) (maxL := 1) (ret := none) (by decide) rfl ?_
  intro p e s m args below meth c s₁ B hml hv
  obtain ⟨rfl, hsz, hP, hKC, hD0⟩ := hv
  have hK := hKC.1
  have hx := B.exec
  have hb := B.bytes
  have hr := B.returns
  have hts : ∀ w ∈ GT, w.before [.ref h0].toArray s = true := fun w hw => atoms_spec (ws := .code yX5_init cX5_init 1 none :: GT) B.pre w (List.mem_cons_of_mem _ hw)
  have hown : s.vm.findClass RX5 = some m.cls := findClass_of_methodNamed B.named
  have hlocks := B.notSynchronized
  have hin : meth.name = "<init>" := (name_of_methodNamed B.named B.method).1
  subst hsz
  have hD := hD0.self (sz := s.heap.size)
  generalize hAe : va_A [(h0, .inr (5, [.long 0, .long 0, .long 0, .long 0]))] s.heap.size = A at hD ⊢
  have hA : ∀ q : Nat, s.heap.size ≤ q → A q := fun q h => by rw [← hAe]; exact Or.inr h
  have hS : va_S A s.heap s.heap [] := va_S.rf
  have hl := lv_entry ([.ref h0]) (n := 1) (Nat.le_of_ble_eq_true rfl)
  rw [lg_entry_eq]
  generalize (lg_sl ([.ref h0]) ++ List.replicate (1 - (lg_sl ([.ref h0])).length) Slot.unset).toArray = ls at hl ⊢
  have hl : lv_has ls 1 [(0, .ref h0)] := hl
  refine lv_aload_n hx hb dX5_init_0 rfl (lv_at hl 0 rfl) ?_
  refine W.objInit hx hb hown (hts _ g1_107) (hts _ g1_19) (hts _ g1_20) rfl (by rw [hml]; exact hl.1) rfl dX5_init_1 (Nat.le_of_ble_eq_true rfl) (Nat.le_of_ble_eq_true rfl) ?_
  refine W.eq (g2 := F0 m 4 ls []) rfl ?_
  refine lv_aload_n hx hb dX5_init_4 rfl (lv_at hl 0 rfl) ?_
  refine lv_lconst (v := 0) hx hb dX5_init_5 (by decide) ?_
  refine va_put (D := D) (ci := 5) (v := .long 0) (ty := .long) (C := RX5) (T := TX5) (N := 4) hx hb hts cls5.1 tyX5 tyX5_ok nmX5 hown hK hP hD hS 0 rfl rfl 0 (by decide) (hts _ g1_108) (fun _ h9 => h9) rfl (tyX5_ok 0 (by decide)) rfl rfl (Nat.le_of_ble_eq_true rfl) dX5_init_6 (fun H locs hP hD hS => ?_)
  have hP : va_P D vwCl [(h0, .inr (5, [.long 0, .long 0, .long 0, .long 0]))] H := hP
  have hD : va_D A [(h0, .inr (5, [.long 0, .long 0, .long 0, .long 0]))] := hD
  refine lv_aload_n hx hb dX5_init_9 rfl (lv_at hl 0 rfl) ?_
  refine lv_lconst (v := 0) hx hb dX5_init_10 (by decide) ?_
  refine va_put (D := D) (ci := 5) (v := .long 0) (ty := .long) (C := RX5) (T := TX5) (N := 4) hx hb hts cls5.1 tyX5 tyX5_ok nmX5 hown hK hP hD hS 0 rfl rfl 1 (by decide) (hts _ g1_109) (fun _ h9 => h9) rfl (tyX5_ok 1 (by decide)) rfl rfl (Nat.le_of_ble_eq_true rfl) dX5_init_11 (fun H locs hP hD hS => ?_)
  have hP : va_P D vwCl [(h0, .inr (5, [.long 0, .long 0, .long 0, .long 0]))] H := hP
  have hD : va_D A [(h0, .inr (5, [.long 0, .long 0, .long 0, .long 0]))] := hD
  refine lv_aload_n hx hb dX5_init_14 rfl (lv_at hl 0 rfl) ?_
  refine lv_lconst (v := 0) hx hb dX5_init_15 (by decide) ?_
  refine va_put (D := D) (ci := 5) (v := .long 0) (ty := .long) (C := RX5) (T := TX5) (N := 4) hx hb hts cls5.1 tyX5 tyX5_ok nmX5 hown hK hP hD hS 0 rfl rfl 2 (by decide) (hts _ g1_110) (fun _ h9 => h9) rfl (tyX5_ok 2 (by decide)) rfl rfl (Nat.le_of_ble_eq_true rfl) dX5_init_16 (fun H locs hP hD hS => ?_)
  have hP : va_P D vwCl [(h0, .inr (5, [.long 0, .long 0, .long 0, .long 0]))] H := hP
  have hD : va_D A [(h0, .inr (5, [.long 0, .long 0, .long 0, .long 0]))] := hD
  refine lv_aload_n hx hb dX5_init_19 rfl (lv_at hl 0 rfl) ?_
  refine lv_lconst (v := 0) hx hb dX5_init_20 (by decide) ?_
  refine va_put (D := D) (ci := 5) (v := .long 0) (ty := .long) (C := RX5) (T := TX5) (N := 4) hx hb hts cls5.1 tyX5 tyX5_ok nmX5 hown hK hP hD hS 0 rfl rfl 3 (by decide) (hts _ g1_111) (fun _ h9 => h9) rfl (tyX5_ok 3 (by decide)) rfl rfl (Nat.le_of_ble_eq_true rfl) dX5_init_21 (fun H locs hP hD hS => ?_)
  have hP : va_P D vwCl [(h0, .inr (5, [.long 0, .long 0, .long 0, .long 0]))] H := hP
  have hD : va_D A [(h0, .inr (5, [.long 0, .long 0, .long 0, .long 0]))] := hD
  exact W.vret hx hb hr (fun t ht hW => ⟨⟨(fun k => [h0].getD k 0), rfl, rfl, by show va_P D vwCl _ t.heap; rw [ht]; exact hP, hD⟩, hS.F ht⟩) hS.2.2 dX5_init_24
abbrev lsX6_init (cI cJ cF cM : ClassId) (u : Nat → Nat)  : va_W := [((u 0), .inr (6, [.int (100 : Int32), .int (0 : Int32), .ref (u 1), .ref (u 2), .ref (u 4), .ref (u 7), .ref (u 12), .ref (u 17), .ref (u 18)])), ((u 1), .inl (cF, 6, .inr (.inr (.inr (.inr (fun _ => none)))))), ((u 2), .inr (4, [.ref (u 3), .int (0 : Int32)])), ((u 3), .inl (cM, 60, .inr (.inr (.inr (.inr (fun _ => none)))))), ((u 4), .inr (3, [.ref (u 5), .int (0 : Int32), .ref (u 6)])), ((u 5), .inl (cI, 8, .inl (fun _ => 0))), ((u 6), .inl (cI, 1024, .inl (fun _ => 0))), ((u 7), .inr (2, [.ref (u 8), .ref (u 9), .ref (u 10), .ref (u 11), .int (1 : Int32), .int (0 : Int32), .int (0 : Int32), .int (0 : Int32), .int (0 : Int32)])), ((u 8), .inl (cI, 8, .inl (fun _ => 0))), ((u 9), .inl (cI, 9, .inl (fun _ => 0))), ((u 10), .inl (cI, 9, .inl (fun _ => 0))), ((u 11), .inl (cI, 9, .inl (fun _ => 0))), ((u 12), .inr (2, [.ref (u 13), .ref (u 14), .ref (u 15), .ref (u 16), .int (1 : Int32), .int (0 : Int32), .int (0 : Int32), .int (0 : Int32), .int (0 : Int32)])), ((u 13), .inl (cI, 8, .inl (fun _ => 0))), ((u 14), .inl (cI, 9, .inl (fun _ => 0))), ((u 15), .inl (cI, 9, .inl (fun _ => 0))), ((u 16), .inl (cI, 9, .inl (fun _ => 0))), ((u 17), .inr (5, [.long 0, .long 0, .long 0, .long 0])), ((u 18), .inr (5, [.long 0, .long 0, .long 0, .long 0]))]
set_option maxHeartbeats 4000000 in
set_option maxRecDepth 100000 in
theorem kX6_init (l : Launch) (D : va_G) (cI cJ cF cM : ClassId) (h0 sz : Nat)  : Met l yX6_init (.code yX6_init cX6_init 1 none :: GT) { frames := 2, cells := 18, slots := 1199, locals := 32 } (va_Pc [.ref h0] (fun U => U.heap.size = sz ∧ va_P D vwCl [(h0, .inr (6, [.int 0, .int 0, .null, .null, .null, .null, .null, .null, .null]))] U.heap ∧ KC D cI cJ cF cM U ∧ va_D (fun _ => True) [(h0, .inr (6, [.int 0, .int 0, .null, .null, .null, .null, .null, .null, .null]))])) (va_Qv (fun (u : Nat → Nat) => u 0 = h0) (fun u t => va_P D vwCl (lsX6_init cI cJ cF cM u ) t.heap ∧ va_D (va_A [(h0, .inr (6, [.int 0, .int 0, .null, .null, .null, .null, .null, .null, .null]))] sz) (lsX6_init cI cJ cF cM u )) (va_A [(h0, .inr (6, [.int 0, .int 0, .null, .null, .null, .null, .null, .null, .null]))] sz)) 18 1199 (va_A [(h0, .inr (6, [.int 0, .int 0, .null, .null, .null, .null, .null, .null, .null]))] sz) := by
  refine Met.ofW (cc := cX6_init) (maxL := 1) (ret := none) (by decide) rfl ?_
  intro p e s m args below meth c s₁ B hml hv
  obtain ⟨rfl, hsz, hP, hKC, hD0⟩ := hv
  have hK := hKC.1
  have hx := B.exec
  have hb := B.bytes
  have hr := B.returns
  have hts : ∀ w ∈ GT, w.before [.ref h0].toArray s = true := fun w hw => atoms_spec (ws := .code yX6_init cX6_init 1 none :: GT) B.pre w (List.mem_cons_of_mem _ hw)
  have hown : s.vm.findClass RX6 = some m.cls := findClass_of_methodNamed B.named
  have hlocks := B.notSynchronized
  have hin : meth.name = "<init>" := (name_of_methodNamed B.named B.method).1
  subst hsz
  have hD := hD0.self (sz := s.heap.size)
  generalize hAe : va_A [(h0, .inr (6, [.int 0, .int 0, .null, .null, .null, .null, .null, .null, .null]))] s.heap.size = A at hD ⊢
  have hA : ∀ q : Nat, s.heap.size ≤ q → A q := fun q h => by rw [← hAe]; exact Or.inr h
  have hS : va_S A s.heap s.heap [] := va_S.rf
  have hl := lv_entry ([.ref h0]) (n := 1) (Nat.le_of_ble_eq_true rfl)
  rw [lg_entry_eq]
  generalize (lg_sl ([.ref h0]) ++ List.replicate (1 - (lg_sl ([.ref h0])).length) Slot.unset).toArray = ls at hl ⊢
  have hl : lv_has ls 1 [(0, .ref h0)] := hl
  refine lv_aload_n hx hb dX6_init_0 rfl (lv_at hl 0 rfl) ?_
  refine W.objInit hx hb hown (hts _ g1_18) (hts _ g1_19) (hts _ g1_20) rfl (by rw [hml]; exact hl.1) rfl dX6_init_1 (Nat.le_of_ble_eq_true rfl) (Nat.le_of_ble_eq_true rfl) ?_
  refine W.eq (g2 := F0 m 4 ls []) rfl ?_
  refine lv_aload_n hx hb dX6_init_4 rfl (lv_at hl 0 rfl) ?_
  refine lv_bipush (v := (100 : Int32)) hx hb dX6_init_5 (by decide) ?_
  refine va_put (D := D) (ci := 6) (v := .int (100 : Int32)) (ty := .int) (C := RX6) (T := TX6) (N := 9) hx hb hts cls6.1 tyX6 tyX6_ok nmX6 hown hK hP hD hS 0 rfl rfl 0 (by decide) (hts _ g1_121) (fun _ h9 => h9) rfl (tyX6_ok 0 (by decide)) rfl rfl (Nat.le_of_ble_eq_true rfl) dX6_init_7 (fun H locs hP hD hS => ?_)
  have hP : va_P D vwCl [(h0, .inr (6, [.int (100 : Int32), .int 0, .null, .null, .null, .null, .null, .null, .null]))] H := hP
  have hD : va_D A [(h0, .inr (6, [.int (100 : Int32), .int 0, .null, .null, .null, .null, .null, .null, .null]))] := hD
  refine lv_aload_n hx hb dX6_init_10 rfl (lv_at hl 0 rfl) ?_
  refine lv_iconst (v := (0 : Int32)) hx hb dX6_init_11 (by decide) ?_
  refine va_put (D := D) (ci := 6) (v := .int (0 : Int32)) (ty := .int) (C := RX6) (T := TX6) (N := 9) hx hb hts cls6.1 tyX6 tyX6_ok nmX6 hown hK hP hD hS 0 rfl rfl 1 (by decide) (hts _ g1_122) (fun _ h9 => h9) rfl (tyX6_ok 1 (by decide)) rfl rfl (Nat.le_of_ble_eq_true rfl) dX6_init_12 (fun H locs hP hD hS => ?_)
  have hP : va_P D vwCl [(h0, .inr (6, [.int (100 : Int32), .int (0 : Int32), .null, .null, .null, .null, .null, .null, .null]))] H := hP
  have hD : va_D A [(h0, .inr (6, [.int (100 : Int32), .int (0 : Int32), .null, .null, .null, .null, .null, .null, .null]))] := hD
  refine lv_aload_n hx hb dX6_init_15 rfl (lv_at hl 0 rfl) ?_
  refine lv_bipush (v := (6 : Int32)) hx hb dX6_init_16 (by decide) ?_
  refine va_newq (C := "JointedShadows$Figure") (N' := 6) hx hb hown (hts _ g1_21) hKC.2.1 hK hP hD hS hA (by decide) (by decide +kernel) (by decide) (Nat.le_of_ble_eq_true rfl) (Nat.le_of_ble_eq_true rfl) dX6_init_18 (fun q1 cA H hK1 hP hD hS => ?_)
  obtain rfl : cF = cA := ra_fig hK hK1
  have hP : va_P D vwCl [(h0, .inr (6, [.int (100 : Int32), .int (0 : Int32), .null, .null, .null, .null, .null, .null, .null])), (q1, .inl (cF, 6, .inr (.inr (.inr (.inr (fun _ => none))))))] H := hP
  have hD : va_D A [(h0, .inr (6, [.int (100 : Int32), .int (0 : Int32), .null, .null, .null, .null, .null, .null, .null])), (q1, .inl (cF, 6, .inr (.inr (.inr (.inr (fun _ => none))))))] := hD
  refine W.widen (k := 1) (n := 6) (Nat.le_of_ble_eq_true rfl) (Nat.le_of_ble_eq_true rfl) ?_
  refine va_putF (D := D) (ci := 6) (v := .ref q1) (ty := (.array (.object "JointedShadows$Figure"))) (C := RX6) (T := TX6) (N := 9) hx hb hts cls6.1 tyX6 tyX6_ok nmX6 hown hK hP hD hS 0 rfl rfl 2 (by decide) (hts _ g1_123) (fun _ h9 => h9) rfl hin rfl (tyX6_ok 2 (by decide)) rfl rfl (Nat.le_of_ble_eq_true rfl) dX6_init_21 (fun H locs hP hD hS => ?_)
  have hP : va_P D vwCl [(h0, .inr (6, [.int (100 : Int32), .int (0 : Int32), .ref q1, .null, .null, .null, .null, .null, .null])), (q1, .inl (cF, 6, .inr (.inr (.inr (.inr (fun _ => none))))))] H := hP
  have hD : va_D A [(h0, .inr (6, [.int (100 : Int32), .int (0 : Int32), .ref q1, .null, .null, .null, .null, .null, .null])), (q1, .inl (cF, 6, .inr (.inr (.inr (.inr (fun _ => none))))))] := hD
  refine lv_aload_n hx hb dX6_init_24 rfl (lv_at hl 0 rfl) ?_
  refine va_new (ci := 4) (fs := [.null, .int 0]) (C := RX4) (T := TX4) (N := 2) hx hb hts cls4.1 tyX4 tyX4_ok hown (hts _ g1_23) (hts _ g1_24) (hts _ g1_2) hK hP hD hS hA rfl (fun j hj => by rcases (show j = 0 ∨ j = 1 by omega) with rfl | rfl <;> rfl) (Nat.le_of_ble_eq_true rfl) (Nat.le_of_ble_eq_true rfl) dX6_init_25 (fun q2 H hP hD hS => ?_)
  have hP : va_P D vwCl [(h0, .inr (6, [.int (100 : Int32), .int (0 : Int32), .ref q1, .null, .null, .null, .null, .null, .null])), (q1, .inl (cF, 6, .inr (.inr (.inr (.inr (fun _ => none)))))), (q2, .inr (4, [.null, .int 0]))] H := hP
  have hD : va_D A [(h0, .inr (6, [.int (100 : Int32), .int (0 : Int32), .ref q1, .null, .null, .null, .null, .null, .null])), (q1, .inl (cF, 6, .inr (.inr (.inr (.inr (fun _ => none)))))), (q2, .inr (4, [.null, .int 0]))] := hD
  refine W.widen (k := 2) (n := 8) (Nat.le_of_ble_eq_true rfl) (Nat.le_of_ble_eq_true rfl) ?_
  refine lv_dup hx hb dX6_init_28 rfl ?_
  have hPc := hP.sub (ws' := [(q2, .inr (4, [.null, .int 0]))]) [2] rfl
  have hDc := hD.sub (ws' := [(q2, .inr (4, [.null, .int 0]))]) [2] (by decide) rfl
  have hFc := va_free (wc := [(q2, .inr (4, [.null, .int 0]))]) hD hS hA [2] rfl
  refine va_callv (va_runIN (As := []) (rest := [.ref q2, .ref h0]) ⟨hx, hb, hml, hown, hts⟩ (kX4_init l D cI cJ cF cM q2 H.size) ⟨va_cnB (Ts := GT) 0 hts (good_code g1_27) rfl rfl rfl hKC.2.2.2.1 (hts _ g1_2) (by decide +kernel) ⟨(Nat.le_of_ble_eq_true rfl), (Nat.le_of_ble_eq_true rfl)⟩, rfl, hts _ g1_26⟩ ⟨fun a U g mk q => ⟨q.1, q.2.1, q.2.2.1, q.2.2.2.1.calling, q.2.2.2.2⟩, fun U hU hW => ⟨rfl, by rw [hU], by rw [hU]; exact hPc, hKC.at hW, hDc.weaken (fun _ _ _ _ => trivial)⟩⟩ rfl rfl hl.1 rfl (lv_room (Nat.le_of_ble_eq_true rfl)) dX6_init_29 ⟨(Nat.le_of_ble_eq_true rfl), (Nat.le_of_ble_eq_true rfl)⟩) hS (fun q _ h => hFc q h) hFc (fun u t H1 locs ht hvm hw hB hz1 hk1 hS => ?_)
  obtain ⟨hP1, hD1⟩ := hB
  rw [ht] at hP1
  obtain ⟨hP, hD⟩ := va_join (wr := [(h0, .inr (6, [.int (100 : Int32), .int (0 : Int32), .ref q1, .null, .null, .null, .null, .null, .null])), (q1, .inl (cF, 6, .inr (.inr (.inr (.inr (fun _ => none))))))]) hP hD [2] [0, 1] rfl rfl (by decide) (by decide) hk1 hFc hP1 hD1
  have hP : va_P D vwCl [(h0, .inr (6, [.int (100 : Int32), .int (0 : Int32), .ref q1, .null, .null, .null, .null, .null, .null])), (q1, .inl (cF, 6, .inr (.inr (.inr (.inr (fun _ => none)))))), ((u 0), .inr (4, [.ref (u 1), .int (0 : Int32)])), ((u 1), .inl (cM, 60, .inr (.inr (.inr (.inr (fun _ => none))))))] H1 := hP
  have hD : va_D A [(h0, .inr (6, [.int (100 : Int32), .int (0 : Int32), .ref q1, .null, .null, .null, .null, .null, .null])), (q1, .inl (cF, 6, .inr (.inr (.inr (.inr (fun _ => none)))))), ((u 0), .inr (4, [.ref (u 1), .int (0 : Int32)])), ((u 1), .inl (cM, 60, .inr (.inr (.inr (.inr (fun _ => none))))))] := hD
  rw [hw] at hP hD
  generalize u 1 = q3 at hP hD
  generalize H1 = H at hP hS ⊢
  have hP : va_P D vwCl [(h0, .inr (6, [.int (100 : Int32), .int (0 : Int32), .ref q1, .null, .null, .null, .null, .null, .null])), (q1, .inl (cF, 6, .inr (.inr (.inr (.inr (fun _ => none)))))), (q2, .inr (4, [.ref q3, .int (0 : Int32)])), (q3, .inl (cM, 60, .inr (.inr (.inr (.inr (fun _ => none))))))] H := hP
  have hD : va_D A [(h0, .inr (6, [.int (100 : Int32), .int (0 : Int32), .ref q1, .null, .null, .null, .null, .null, .null])), (q1, .inl (cF, 6, .inr (.inr (.inr (.inr (fun _ => none)))))), (q2, .inr (4, [.ref q3, .int (0 : Int32)])), (q3, .inl (cM, 60, .inr (.inr (.inr (.inr (fun _ => none))))))] := hD
  refine W.widen (k := 3) (n := 68) (Nat.le_of_ble_eq_true rfl) (Nat.le_of_ble_eq_true rfl) ?_
  refine va_putF (D := D) (ci := 6) (v := .ref q2) (ty := (.object "JointedShadows$Script")) (C := RX6) (T := TX6) (N := 9) hx hb hts cls6.1 tyX6 tyX6_ok nmX6 hown hK hP hD hS 0 rfl rfl 3 (by decide) (hts _ g1_124) (fun _ h9 => h9) rfl hin rfl (tyX6_ok 3 (by decide)) rfl rfl (Nat.le_of_ble_eq_true rfl) dX6_init_32 (fun H locs hP hD hS => ?_)
  have hP : va_P D vwCl [(h0, .inr (6, [.int (100 : Int32), .int (0 : Int32), .ref q1, .ref q2, .null, .null, .null, .null, .null])), (q1, .inl (cF, 6, .inr (.inr (.inr (.inr (fun _ => none)))))), (q2, .inr (4, [.ref q3, .int (0 : Int32)])), (q3, .inl (cM, 60, .inr (.inr (.inr (.inr (fun _ => none))))))] H := hP
  have hD : va_D A [(h0, .inr (6, [.int (100 : Int32), .int (0 : Int32), .ref q1, .ref q2, .null, .null, .null, .null, .null])), (q1, .inl (cF, 6, .inr (.inr (.inr (.inr (fun _ => none)))))), (q2, .inr (4, [.ref q3, .int (0 : Int32)])), (q3, .inl (cM, 60, .inr (.inr (.inr (.inr (fun _ => none))))))] := hD
  refine lv_aload_n hx hb dX6_init_35 rfl (lv_at hl 0 rfl) ?_
  refine va_new (ci := 3) (fs := [.null, .int 0, .null]) (C := RX3) (T := TX3) (N := 3) hx hb hts cls3.1 tyX3 tyX3_ok hown (hts _ g1_40) (hts _ g1_41) (hts _ g1_3) hK hP hD hS hA rfl (fun j hj => by rcases (show j = 0 ∨ j = 1 ∨ j = 2 by omega) with rfl | rfl | rfl <;> rfl) (Nat.le_of_ble_eq_true rfl) (Nat.le_of_ble_eq_true rfl) dX6_init_36 (fun q4 H hP hD hS => ?_)
  have hP : va_P D vwCl [(h0, .inr (6, [.int (100 : Int32), .int (0 : Int32), .ref q1, .ref q2, .null, .null, .null, .null, .null])), (q1, .inl (cF, 6, .inr (.inr (.inr (.inr (fun _ => none)))))), (q2, .inr (4, [.ref q3, .int (0 : Int32)])), (q3, .inl (cM, 60, .inr (.inr (.inr (.inr (fun _ => none)))))), (q4, .inr (3, [.null, .int 0, .null]))] H := hP
  have hD : va_D A [(h0, .inr (6, [.int (100 : Int32), .int (0 : Int32), .ref q1, .ref q2, .null, .null, .null, .null, .null])), (q1, .inl (cF, 6, .inr (.inr (.inr (.inr (fun _ => none)))))), (q2, .inr (4, [.ref q3, .int (0 : Int32)])), (q3, .inl (cM, 60, .inr (.inr (.inr (.inr (fun _ => none)))))), (q4, .inr (3, [.null, .int 0, .null]))] := hD
  refine W.widen (k := 4) (n := 71) (Nat.le_of_ble_eq_true rfl) (Nat.le_of_ble_eq_true rfl) ?_
  refine lv_dup hx hb dX6_init_39 rfl ?_
  have hPc := hP.sub (ws' := [(q4, .inr (3, [.null, .int 0, .null]))]) [4] rfl
  have hDc := hD.sub (ws' := [(q4, .inr (3, [.null, .int 0, .null]))]) [4] (by decide) rfl
  have hFc := va_free (wc := [(q4, .inr (3, [.null, .int 0, .null]))]) hD hS hA [4] rfl
  refine va_callv (va_runIN (As := []) (rest := [.ref q4, .ref h0]) ⟨hx, hb, hml, hown, hts⟩ (kX3_init l D cI cJ cF cM q4 H.size) ⟨va_cnB (Ts := GT) 0 hts (good_code g1_44) rfl rfl rfl hKC.2.2.2.2.1 (hts _ g1_3) (by decide +kernel) ⟨(Nat.le_of_ble_eq_true rfl), (Nat.le_of_ble_eq_true rfl)⟩, rfl, hts _ g1_43⟩ ⟨fun a U g mk q => ⟨q.1, q.2.1, q.2.2.1, q.2.2.2.1.calling, q.2.2.2.2⟩, fun U hU hW => ⟨rfl, by rw [hU], by rw [hU]; exact hPc, hKC.at hW, hDc.weaken (fun _ _ _ _ => trivial)⟩⟩ rfl rfl hl.1 rfl (lv_room (Nat.le_of_ble_eq_true rfl)) dX6_init_40 ⟨(Nat.le_of_ble_eq_true rfl), (Nat.le_of_ble_eq_true rfl)⟩) hS (fun q _ h => hFc q h) hFc (fun u t H1 locs ht hvm hw hB hz1 hk1 hS => ?_)
  obtain ⟨hP1, hD1⟩ := hB
  rw [ht] at hP1
  obtain ⟨hP, hD⟩ := va_join (wr := [(h0, .inr (6, [.int (100 : Int32), .int (0 : Int32), .ref q1, .ref q2, .null, .null, .null, .null, .null])), (q1, .inl (cF, 6, .inr (.inr (.inr (.inr (fun _ => none)))))), (q2, .inr (4, [.ref q3, .int (0 : Int32)])), (q3, .inl (cM, 60, .inr (.inr (.inr (.inr (fun _ => none))))))]) hP hD [4] [0, 1, 2, 3] rfl rfl (by decide) (by decide) hk1 hFc hP1 hD1
  have hP : va_P D vwCl [(h0, .inr (6, [.int (100 : Int32), .int (0 : Int32), .ref q1, .ref q2, .null, .null, .null, .null, .null])), (q1, .inl (cF, 6, .inr (.inr (.inr (.inr (fun _ => none)))))), (q2, .inr (4, [.ref q3, .int (0 : Int32)])), (q3, .inl (cM, 60, .inr (.inr (.inr (.inr (fun _ => none)))))), ((u 0), .inr (3, [.ref (u 1), .int (0 : Int32), .ref (u 2)])), ((u 1), .inl (cI, 8, .inl (fun _ => 0))), ((u 2), .inl (cI, 1024, .inl (fun _ => 0)))] H1 := hP
  have hD : va_D A [(h0, .inr (6, [.int (100 : Int32), .int (0 : Int32), .ref q1, .ref q2, .null, .null, .null, .null, .null])), (q1, .inl (cF, 6, .inr (.inr (.inr (.inr (fun _ => none)))))), (q2, .inr (4, [.ref q3, .int (0 : Int32)])), (q3, .inl (cM, 60, .inr (.inr (.inr (.inr (fun _ => none)))))), ((u 0), .inr (3, [.ref (u 1), .int (0 : Int32), .ref (u 2)])), ((u 1), .inl (cI, 8, .inl (fun _ => 0))), ((u 2), .inl (cI, 1024, .inl (fun _ => 0)))] := hD
  rw [hw] at hP hD
  generalize u 1 = q5 at hP hD
  generalize u 2 = q6 at hP hD
  generalize H1 = H at hP hS ⊢
  have hP : va_P D vwCl [(h0, .inr (6, [.int (100 : Int32), .int (0 : Int32), .ref q1, .ref q2, .null, .null, .null, .null, .null])), (q1, .inl (cF, 6, .inr (.inr (.inr (.inr (fun _ => none)))))), (q2, .inr (4, [.ref q3, .int (0 : Int32)])), (q3, .inl (cM, 60, .inr (.inr (.inr (.inr (fun _ => none)))))), (q4, .inr (3, [.ref q5, .int (0 : Int32), .ref q6])), (q5, .inl (cI, 8, .inl (fun _ => 0))), (q6, .inl (cI, 1024, .inl (fun _ => 0)))] H := hP
  have hD : va_D A [(h0, .inr (6, [.int (100 : Int32), .int (0 : Int32), .ref q1, .ref q2, .null, .null, .null, .null, .null])), (q1, .inl (cF, 6, .inr (.inr (.inr (.inr (fun _ => none)))))), (q2, .inr (4, [.ref q3, .int (0 : Int32)])), (q3, .inl (cM, 60, .inr (.inr (.inr (.inr (fun _ => none)))))), (q4, .inr (3, [.ref q5, .int (0 : Int32), .ref q6])), (q5, .inl (cI, 8, .inl (fun _ => 0))), (q6, .inl (cI, 1024, .inl (fun _ => 0)))] := hD
  refine W.widen (k := 6) (n := 1103) (Nat.le_of_ble_eq_true rfl) (Nat.le_of_ble_eq_true rfl) ?_
  refine va_putF (D := D) (ci := 6) (v := .ref q4) (ty := (.object "JointedShadows$Scenes")) (C := RX6) (T := TX6) (N := 9) hx hb hts cls6.1 tyX6 tyX6_ok nmX6 hown hK hP hD hS 0 rfl rfl 4 (by decide) (hts _ g1_125) (fun _ h9 => h9) rfl hin rfl (tyX6_ok 4 (by decide)) rfl rfl (Nat.le_of_ble_eq_true rfl) dX6_init_43 (fun H locs hP hD hS => ?_)
  have hP : va_P D vwCl [(h0, .inr (6, [.int (100 : Int32), .int (0 : Int32), .ref q1, .ref q2, .ref q4, .null, .null, .null, .null])), (q1, .inl (cF, 6, .inr (.inr (.inr (.inr (fun _ => none)))))), (q2, .inr (4, [.ref q3, .int (0 : Int32)])), (q3, .inl (cM, 60, .inr (.inr (.inr (.inr (fun _ => none)))))), (q4, .inr (3, [.ref q5, .int (0 : Int32), .ref q6])), (q5, .inl (cI, 8, .inl (fun _ => 0))), (q6, .inl (cI, 1024, .inl (fun _ => 0)))] H := hP
  have hD : va_D A [(h0, .inr (6, [.int (100 : Int32), .int (0 : Int32), .ref q1, .ref q2, .ref q4, .null, .null, .null, .null])), (q1, .inl (cF, 6, .inr (.inr (.inr (.inr (fun _ => none)))))), (q2, .inr (4, [.ref q3, .int (0 : Int32)])), (q3, .inl (cM, 60, .inr (.inr (.inr (.inr (fun _ => none)))))), (q4, .inr (3, [.ref q5, .int (0 : Int32), .ref q6])), (q5, .inl (cI, 8, .inl (fun _ => 0))), (q6, .inl (cI, 1024, .inl (fun _ => 0)))] := hD
  refine lv_aload_n hx hb dX6_init_46 rfl (lv_at hl 0 rfl) ?_
  refine va_new (ci := 2) (fs := [.null, .null, .null, .null, .int 0, .int 0, .int 0, .int 0, .int 0]) (C := RX2) (T := TX2) (N := 9) hx hb hts cls2.1 tyX2 tyX2_ok hown (hts _ g1_58) (hts _ g1_59) (hts _ g1_4) hK hP hD hS hA rfl (fun j hj => by rcases (show j = 0 ∨ j = 1 ∨ j = 2 ∨ j = 3 ∨ j = 4 ∨ j = 5 ∨ j = 6 ∨ j = 7 ∨ j = 8 by omega) with rfl | rfl | rfl | rfl | rfl | rfl | rfl | rfl | rfl <;> rfl) (Nat.le_of_ble_eq_true rfl) (Nat.le_of_ble_eq_true rfl) dX6_init_47 (fun q7 H hP hD hS => ?_)
  have hP : va_P D vwCl [(h0, .inr (6, [.int (100 : Int32), .int (0 : Int32), .ref q1, .ref q2, .ref q4, .null, .null, .null, .null])), (q1, .inl (cF, 6, .inr (.inr (.inr (.inr (fun _ => none)))))), (q2, .inr (4, [.ref q3, .int (0 : Int32)])), (q3, .inl (cM, 60, .inr (.inr (.inr (.inr (fun _ => none)))))), (q4, .inr (3, [.ref q5, .int (0 : Int32), .ref q6])), (q5, .inl (cI, 8, .inl (fun _ => 0))), (q6, .inl (cI, 1024, .inl (fun _ => 0))), (q7, .inr (2, [.null, .null, .null, .null, .int 0, .int 0, .int 0, .int 0, .int 0]))] H := hP
  have hD : va_D A [(h0, .inr (6, [.int (100 : Int32), .int (0 : Int32), .ref q1, .ref q2, .ref q4, .null, .null, .null, .null])), (q1, .inl (cF, 6, .inr (.inr (.inr (.inr (fun _ => none)))))), (q2, .inr (4, [.ref q3, .int (0 : Int32)])), (q3, .inl (cM, 60, .inr (.inr (.inr (.inr (fun _ => none)))))), (q4, .inr (3, [.ref q5, .int (0 : Int32), .ref q6])), (q5, .inl (cI, 8, .inl (fun _ => 0))), (q6, .inl (cI, 1024, .inl (fun _ => 0))), (q7, .inr (2, [.null, .null, .null, .null, .int 0, .int 0, .int 0, .int 0, .int 0]))] := hD
  refine W.widen (k := 7) (n := 1112) (Nat.le_of_ble_eq_true rfl) (Nat.le_of_ble_eq_true rfl) ?_
  refine lv_dup hx hb dX6_init_50 rfl ?_
  have hPc := hP.sub (ws' := [(q7, .inr (2, [.null, .null, .null, .null, .int 0, .int 0, .int 0, .int 0, .int 0]))]) [7] rfl
  have hDc := hD.sub (ws' := [(q7, .inr (2, [.null, .null, .null, .null, .int 0, .int 0, .int 0, .int 0, .int 0]))]) [7] (by decide) rfl
  have hFc := va_free (wc := [(q7, .inr (2, [.null, .null, .null, .null, .int 0, .int 0, .int 0, .int 0, .int 0]))]) hD hS hA [7] rfl
  refine va_callv (va_runIN (As := []) (rest := [.ref q7, .ref h0]) ⟨hx, hb, hml, hown, hts⟩ (kX2_init l D cI cJ cF cM q7 H.size) ⟨va_cnB (Ts := GT) 0 hts (good_code g1_62) rfl rfl rfl hKC.2.2.2.2.2.1 (hts _ g1_4) (by decide +kernel) ⟨(Nat.le_of_ble_eq_true rfl), (Nat.le_of_ble_eq_true rfl)⟩, rfl, hts _ g1_61⟩ ⟨fun a U g mk q => ⟨q.1, q.2.1, q.2.2.1, q.2.2.2.1.calling, q.2.2.2.2⟩, fun U hU hW => ⟨rfl, by rw [hU], by rw [hU]; exact hPc, hKC.at hW, hDc.weaken (fun _ _ _ _ => trivial)⟩⟩ rfl rfl hl.1 rfl (lv_room (Nat.le_of_ble_eq_true rfl)) dX6_init_51 ⟨(Nat.le_of_ble_eq_true rfl), (Nat.le_of_ble_eq_true rfl)⟩) hS (fun q _ h => hFc q h) hFc (fun u t H1 locs ht hvm hw hB hz1 hk1 hS => ?_)
  obtain ⟨hP1, hD1⟩ := hB
  rw [ht] at hP1
  obtain ⟨hP, hD⟩ := va_join (wr := [(h0, .inr (6, [.int (100 : Int32), .int (0 : Int32), .ref q1, .ref q2, .ref q4, .null, .null, .null, .null])), (q1, .inl (cF, 6, .inr (.inr (.inr (.inr (fun _ => none)))))), (q2, .inr (4, [.ref q3, .int (0 : Int32)])), (q3, .inl (cM, 60, .inr (.inr (.inr (.inr (fun _ => none)))))), (q4, .inr (3, [.ref q5, .int (0 : Int32), .ref q6])), (q5, .inl (cI, 8, .inl (fun _ => 0))), (q6, .inl (cI, 1024, .inl (fun _ => 0)))]) hP hD [7] [0, 1, 2, 3, 4, 5, 6] rfl rfl (by decide) (by decide) hk1 hFc hP1 hD1
  have hP : va_P D vwCl [(h0, .inr (6, [.int (100 : Int32), .int (0 : Int32), .ref q1, .ref q2, .ref q4, .null, .null, .null, .null])), (q1, .inl (cF, 6, .inr (.inr (.inr (.inr (fun _ => none)))))), (q2, .inr (4, [.ref q3, .int (0 : Int32)])), (q3, .inl (cM, 60, .inr (.inr (.inr (.inr (fun _ => none)))))), (q4, .inr (3, [.ref q5, .int (0 : Int32), .ref q6])), (q5, .inl (cI, 8, .inl (fun _ => 0))), (q6, .inl (cI, 1024, .inl (fun _ => 0))), ((u 0), .inr (2, [.ref (u 1), .ref (u 2), .ref (u 3), .ref (u 4), .int (1 : Int32), .int (0 : Int32), .int (0 : Int32), .int (0 : Int32), .int (0 : Int32)])), ((u 1), .inl (cI, 8, .inl (fun _ => 0))), ((u 2), .inl (cI, 9, .inl (fun _ => 0))), ((u 3), .inl (cI, 9, .inl (fun _ => 0))), ((u 4), .inl (cI, 9, .inl (fun _ => 0)))] H1 := hP
  have hD : va_D A [(h0, .inr (6, [.int (100 : Int32), .int (0 : Int32), .ref q1, .ref q2, .ref q4, .null, .null, .null, .null])), (q1, .inl (cF, 6, .inr (.inr (.inr (.inr (fun _ => none)))))), (q2, .inr (4, [.ref q3, .int (0 : Int32)])), (q3, .inl (cM, 60, .inr (.inr (.inr (.inr (fun _ => none)))))), (q4, .inr (3, [.ref q5, .int (0 : Int32), .ref q6])), (q5, .inl (cI, 8, .inl (fun _ => 0))), (q6, .inl (cI, 1024, .inl (fun _ => 0))), ((u 0), .inr (2, [.ref (u 1), .ref (u 2), .ref (u 3), .ref (u 4), .int (1 : Int32), .int (0 : Int32), .int (0 : Int32), .int (0 : Int32), .int (0 : Int32)])), ((u 1), .inl (cI, 8, .inl (fun _ => 0))), ((u 2), .inl (cI, 9, .inl (fun _ => 0))), ((u 3), .inl (cI, 9, .inl (fun _ => 0))), ((u 4), .inl (cI, 9, .inl (fun _ => 0)))] := hD
  rw [hw] at hP hD
  generalize u 1 = q8 at hP hD
  generalize u 2 = q9 at hP hD
  generalize u 3 = q10 at hP hD
  generalize u 4 = q11 at hP hD
  generalize H1 = H at hP hS ⊢
  have hP : va_P D vwCl [(h0, .inr (6, [.int (100 : Int32), .int (0 : Int32), .ref q1, .ref q2, .ref q4, .null, .null, .null, .null])), (q1, .inl (cF, 6, .inr (.inr (.inr (.inr (fun _ => none)))))), (q2, .inr (4, [.ref q3, .int (0 : Int32)])), (q3, .inl (cM, 60, .inr (.inr (.inr (.inr (fun _ => none)))))), (q4, .inr (3, [.ref q5, .int (0 : Int32), .ref q6])), (q5, .inl (cI, 8, .inl (fun _ => 0))), (q6, .inl (cI, 1024, .inl (fun _ => 0))), (q7, .inr (2, [.ref q8, .ref q9, .ref q10, .ref q11, .int (1 : Int32), .int (0 : Int32), .int (0 : Int32), .int (0 : Int32), .int (0 : Int32)])), (q8, .inl (cI, 8, .inl (fun _ => 0))), (q9, .inl (cI, 9, .inl (fun _ => 0))), (q10, .inl (cI, 9, .inl (fun _ => 0))), (q11, .inl (cI, 9, .inl (fun _ => 0)))] H := hP
  have hD : va_D A [(h0, .inr (6, [.int (100 : Int32), .int (0 : Int32), .ref q1, .ref q2, .ref q4, .null, .null, .null, .null])), (q1, .inl (cF, 6, .inr (.inr (.inr (.inr (fun _ => none)))))), (q2, .inr (4, [.ref q3, .int (0 : Int32)])), (q3, .inl (cM, 60, .inr (.inr (.inr (.inr (fun _ => none)))))), (q4, .inr (3, [.ref q5, .int (0 : Int32), .ref q6])), (q5, .inl (cI, 8, .inl (fun _ => 0))), (q6, .inl (cI, 1024, .inl (fun _ => 0))), (q7, .inr (2, [.ref q8, .ref q9, .ref q10, .ref q11, .int (1 : Int32), .int (0 : Int32), .int (0 : Int32), .int (0 : Int32), .int (0 : Int32)])), (q8, .inl (cI, 8, .inl (fun _ => 0))), (q9, .inl (cI, 9, .inl (fun _ => 0))), (q10, .inl (cI, 9, .inl (fun _ => 0))), (q11, .inl (cI, 9, .inl (fun _ => 0)))] := hD
  refine W.widen (k := 11) (n := 1147) (Nat.le_of_ble_eq_true rfl) (Nat.le_of_ble_eq_true rfl) ?_
  refine va_putF (D := D) (ci := 6) (v := .ref q7) (ty := (.object "JointedShadows$Pose")) (C := RX6) (T := TX6) (N := 9) hx hb hts cls6.1 tyX6 tyX6_ok nmX6 hown hK hP hD hS 0 rfl rfl 5 (by decide) (hts _ g1_126) (fun _ h9 => h9) rfl hin rfl (tyX6_ok 5 (by decide)) rfl rfl (Nat.le_of_ble_eq_true rfl) dX6_init_54 (fun H locs hP hD hS => ?_)
  have hP : va_P D vwCl [(h0, .inr (6, [.int (100 : Int32), .int (0 : Int32), .ref q1, .ref q2, .ref q4, .ref q7, .null, .null, .null])), (q1, .inl (cF, 6, .inr (.inr (.inr (.inr (fun _ => none)))))), (q2, .inr (4, [.ref q3, .int (0 : Int32)])), (q3, .inl (cM, 60, .inr (.inr (.inr (.inr (fun _ => none)))))), (q4, .inr (3, [.ref q5, .int (0 : Int32), .ref q6])), (q5, .inl (cI, 8, .inl (fun _ => 0))), (q6, .inl (cI, 1024, .inl (fun _ => 0))), (q7, .inr (2, [.ref q8, .ref q9, .ref q10, .ref q11, .int (1 : Int32), .int (0 : Int32), .int (0 : Int32), .int (0 : Int32), .int (0 : Int32)])), (q8, .inl (cI, 8, .inl (fun _ => 0))), (q9, .inl (cI, 9, .inl (fun _ => 0))), (q10, .inl (cI, 9, .inl (fun _ => 0))), (q11, .inl (cI, 9, .inl (fun _ => 0)))] H := hP
  have hD : va_D A [(h0, .inr (6, [.int (100 : Int32), .int (0 : Int32), .ref q1, .ref q2, .ref q4, .ref q7, .null, .null, .null])), (q1, .inl (cF, 6, .inr (.inr (.inr (.inr (fun _ => none)))))), (q2, .inr (4, [.ref q3, .int (0 : Int32)])), (q3, .inl (cM, 60, .inr (.inr (.inr (.inr (fun _ => none)))))), (q4, .inr (3, [.ref q5, .int (0 : Int32), .ref q6])), (q5, .inl (cI, 8, .inl (fun _ => 0))), (q6, .inl (cI, 1024, .inl (fun _ => 0))), (q7, .inr (2, [.ref q8, .ref q9, .ref q10, .ref q11, .int (1 : Int32), .int (0 : Int32), .int (0 : Int32), .int (0 : Int32), .int (0 : Int32)])), (q8, .inl (cI, 8, .inl (fun _ => 0))), (q9, .inl (cI, 9, .inl (fun _ => 0))), (q10, .inl (cI, 9, .inl (fun _ => 0))), (q11, .inl (cI, 9, .inl (fun _ => 0)))] := hD
  refine lv_aload_n hx hb dX6_init_57 rfl (lv_at hl 0 rfl) ?_
  refine va_new (ci := 2) (fs := [.null, .null, .null, .null, .int 0, .int 0, .int 0, .int 0, .int 0]) (C := RX2) (T := TX2) (N := 9) hx hb hts cls2.1 tyX2 tyX2_ok hown (hts _ g1_58) (hts _ g1_59) (hts _ g1_4) hK hP hD hS hA rfl (fun j hj => by rcases (show j = 0 ∨ j = 1 ∨ j = 2 ∨ j = 3 ∨ j = 4 ∨ j = 5 ∨ j = 6 ∨ j = 7 ∨ j = 8 by omega) with rfl | rfl | rfl | rfl | rfl | rfl | rfl | rfl | rfl <;> rfl) (Nat.le_of_ble_eq_true rfl) (Nat.le_of_ble_eq_true rfl) dX6_init_58 (fun q12 H hP hD hS => ?_)
  have hP : va_P D vwCl [(h0, .inr (6, [.int (100 : Int32), .int (0 : Int32), .ref q1, .ref q2, .ref q4, .ref q7, .null, .null, .null])), (q1, .inl (cF, 6, .inr (.inr (.inr (.inr (fun _ => none)))))), (q2, .inr (4, [.ref q3, .int (0 : Int32)])), (q3, .inl (cM, 60, .inr (.inr (.inr (.inr (fun _ => none)))))), (q4, .inr (3, [.ref q5, .int (0 : Int32), .ref q6])), (q5, .inl (cI, 8, .inl (fun _ => 0))), (q6, .inl (cI, 1024, .inl (fun _ => 0))), (q7, .inr (2, [.ref q8, .ref q9, .ref q10, .ref q11, .int (1 : Int32), .int (0 : Int32), .int (0 : Int32), .int (0 : Int32), .int (0 : Int32)])), (q8, .inl (cI, 8, .inl (fun _ => 0))), (q9, .inl (cI, 9, .inl (fun _ => 0))), (q10, .inl (cI, 9, .inl (fun _ => 0))), (q11, .inl (cI, 9, .inl (fun _ => 0))), (q12, .inr (2, [.null, .null, .null, .null, .int 0, .int 0, .int 0, .int 0, .int 0]))] H := hP
  have hD : va_D A [(h0, .inr (6, [.int (100 : Int32), .int (0 : Int32), .ref q1, .ref q2, .ref q4, .ref q7, .null, .null, .null])), (q1, .inl (cF, 6, .inr (.inr (.inr (.inr (fun _ => none)))))), (q2, .inr (4, [.ref q3, .int (0 : Int32)])), (q3, .inl (cM, 60, .inr (.inr (.inr (.inr (fun _ => none)))))), (q4, .inr (3, [.ref q5, .int (0 : Int32), .ref q6])), (q5, .inl (cI, 8, .inl (fun _ => 0))), (q6, .inl (cI, 1024, .inl (fun _ => 0))), (q7, .inr (2, [.ref q8, .ref q9, .ref q10, .ref q11, .int (1 : Int32), .int (0 : Int32), .int (0 : Int32), .int (0 : Int32), .int (0 : Int32)])), (q8, .inl (cI, 8, .inl (fun _ => 0))), (q9, .inl (cI, 9, .inl (fun _ => 0))), (q10, .inl (cI, 9, .inl (fun _ => 0))), (q11, .inl (cI, 9, .inl (fun _ => 0))), (q12, .inr (2, [.null, .null, .null, .null, .int 0, .int 0, .int 0, .int 0, .int 0]))] := hD
  refine W.widen (k := 12) (n := 1156) (Nat.le_of_ble_eq_true rfl) (Nat.le_of_ble_eq_true rfl) ?_
  refine lv_dup hx hb dX6_init_61 rfl ?_
  have hPc := hP.sub (ws' := [(q12, .inr (2, [.null, .null, .null, .null, .int 0, .int 0, .int 0, .int 0, .int 0]))]) [12] rfl
  have hDc := hD.sub (ws' := [(q12, .inr (2, [.null, .null, .null, .null, .int 0, .int 0, .int 0, .int 0, .int 0]))]) [12] (by decide) rfl
  have hFc := va_free (wc := [(q12, .inr (2, [.null, .null, .null, .null, .int 0, .int 0, .int 0, .int 0, .int 0]))]) hD hS hA [12] rfl
  refine va_callv (va_runIN (As := []) (rest := [.ref q12, .ref h0]) ⟨hx, hb, hml, hown, hts⟩ (kX2_init l D cI cJ cF cM q12 H.size) ⟨va_cnB (Ts := GT) 0 hts (good_code g1_62) rfl rfl rfl hKC.2.2.2.2.2.1 (hts _ g1_4) (by decide +kernel) ⟨(Nat.le_of_ble_eq_true rfl), (Nat.le_of_ble_eq_true rfl)⟩, rfl, hts _ g1_61⟩ ⟨fun a U g mk q => ⟨q.1, q.2.1, q.2.2.1, q.2.2.2.1.calling, q.2.2.2.2⟩, fun U hU hW => ⟨rfl, by rw [hU], by rw [hU]; exact hPc, hKC.at hW, hDc.weaken (fun _ _ _ _ => trivial)⟩⟩ rfl rfl hl.1 rfl (lv_room (Nat.le_of_ble_eq_true rfl)) dX6_init_62 ⟨(Nat.le_of_ble_eq_true rfl), (Nat.le_of_ble_eq_true rfl)⟩) hS (fun q _ h => hFc q h) hFc (fun u t H1 locs ht hvm hw hB hz1 hk1 hS => ?_)
  obtain ⟨hP1, hD1⟩ := hB
  rw [ht] at hP1
  obtain ⟨hP, hD⟩ := va_join (wr := [(h0, .inr (6, [.int (100 : Int32), .int (0 : Int32), .ref q1, .ref q2, .ref q4, .ref q7, .null, .null, .null])), (q1, .inl (cF, 6, .inr (.inr (.inr (.inr (fun _ => none)))))), (q2, .inr (4, [.ref q3, .int (0 : Int32)])), (q3, .inl (cM, 60, .inr (.inr (.inr (.inr (fun _ => none)))))), (q4, .inr (3, [.ref q5, .int (0 : Int32), .ref q6])), (q5, .inl (cI, 8, .inl (fun _ => 0))), (q6, .inl (cI, 1024, .inl (fun _ => 0))), (q7, .inr (2, [.ref q8, .ref q9, .ref q10, .ref q11, .int (1 : Int32), .int (0 : Int32), .int (0 : Int32), .int (0 : Int32), .int (0 : Int32)])), (q8, .inl (cI, 8, .inl (fun _ => 0))), (q9, .inl (cI, 9, .inl (fun _ => 0))), (q10, .inl (cI, 9, .inl (fun _ => 0))), (q11, .inl (cI, 9, .inl (fun _ => 0)))]) hP hD [12] [0, 1, 2, 3, 4, 5, 6, 7, 8, 9, 10, 11] rfl rfl (by decide) (by decide) hk1 hFc hP1 hD1
  have hP : va_P D vwCl [(h0, .inr (6, [.int (100 : Int32), .int (0 : Int32), .ref q1, .ref q2, .ref q4, .ref q7, .null, .null, .null])), (q1, .inl (cF, 6, .inr (.inr (.inr (.inr (fun _ => none)))))), (q2, .inr (4, [.ref q3, .int (0 : Int32)])), (q3, .inl (cM, 60, .inr (.inr (.inr (.inr (fun _ => none)))))), (q4, .inr (3, [.ref q5, .int (0 : Int32), .ref q6])), (q5, .inl (cI, 8, .inl (fun _ => 0))), (q6, .inl (cI, 1024, .inl (fun _ => 0))), (q7, .inr (2, [.ref q8, .ref q9, .ref q10, .ref q11, .int (1 : Int32), .int (0 : Int32), .int (0 : Int32), .int (0 : Int32), .int (0 : Int32)])), (q8, .inl (cI, 8, .inl (fun _ => 0))), (q9, .inl (cI, 9, .inl (fun _ => 0))), (q10, .inl (cI, 9, .inl (fun _ => 0))), (q11, .inl (cI, 9, .inl (fun _ => 0))), ((u 0), .inr (2, [.ref (u 1), .ref (u 2), .ref (u 3), .ref (u 4), .int (1 : Int32), .int (0 : Int32), .int (0 : Int32), .int (0 : Int32), .int (0 : Int32)])), ((u 1), .inl (cI, 8, .inl (fun _ => 0))), ((u 2), .inl (cI, 9, .inl (fun _ => 0))), ((u 3), .inl (cI, 9, .inl (fun _ => 0))), ((u 4), .inl (cI, 9, .inl (fun _ => 0)))] H1 := hP
  have hD : va_D A [(h0, .inr (6, [.int (100 : Int32), .int (0 : Int32), .ref q1, .ref q2, .ref q4, .ref q7, .null, .null, .null])), (q1, .inl (cF, 6, .inr (.inr (.inr (.inr (fun _ => none)))))), (q2, .inr (4, [.ref q3, .int (0 : Int32)])), (q3, .inl (cM, 60, .inr (.inr (.inr (.inr (fun _ => none)))))), (q4, .inr (3, [.ref q5, .int (0 : Int32), .ref q6])), (q5, .inl (cI, 8, .inl (fun _ => 0))), (q6, .inl (cI, 1024, .inl (fun _ => 0))), (q7, .inr (2, [.ref q8, .ref q9, .ref q10, .ref q11, .int (1 : Int32), .int (0 : Int32), .int (0 : Int32), .int (0 : Int32), .int (0 : Int32)])), (q8, .inl (cI, 8, .inl (fun _ => 0))), (q9, .inl (cI, 9, .inl (fun _ => 0))), (q10, .inl (cI, 9, .inl (fun _ => 0))), (q11, .inl (cI, 9, .inl (fun _ => 0))), ((u 0), .inr (2, [.ref (u 1), .ref (u 2), .ref (u 3), .ref (u 4), .int (1 : Int32), .int (0 : Int32), .int (0 : Int32), .int (0 : Int32), .int (0 : Int32)])), ((u 1), .inl (cI, 8, .inl (fun _ => 0))), ((u 2), .inl (cI, 9, .inl (fun _ => 0))), ((u 3), .inl (cI, 9, .inl (fun _ => 0))), ((u 4), .inl (cI, 9, .inl (fun _ => 0)))] := hD
  rw [hw] at hP hD
  generalize u 1 = q13 at hP hD
  generalize u 2 = q14 at hP hD
  generalize u 3 = q15 at hP hD
  generalize u 4 = q16 at hP hD
  generalize H1 = H at hP hS ⊢
  have hP : va_P D vwCl [(h0, .inr (6, [.int (100 : Int32), .int (0 : Int32), .ref q1, .ref q2, .ref q4, .ref q7, .null, .null, .null])), (q1, .inl (cF, 6, .inr (.inr (.inr (.inr (fun _ => none)))))), (q2, .inr (4, [.ref q3, .int (0 : Int32)])), (q3, .inl (cM, 60, .inr (.inr (.inr (.inr (fun _ => none)))))), (q4, .inr (3, [.ref q5, .int (0 : Int32), .ref q6])), (q5, .inl (cI, 8, .inl (fun _ => 0))), (q6, .inl (cI, 1024, .inl (fun _ => 0))), (q7, .inr (2, [.ref q8, .ref q9, .ref q10, .ref q11, .int (1 : Int32), .int (0 : Int32), .int (0 : Int32), .int (0 : Int32), .int (0 : Int32)])), (q8, .inl (cI, 8, .inl (fun _ => 0))), (q9, .inl (cI, 9, .inl (fun _ => 0))), (q10, .inl (cI, 9, .inl (fun _ => 0))), (q11, .inl (cI, 9, .inl (fun _ => 0))), (q12, .inr (2, [.ref q13, .ref q14, .ref q15, .ref q16, .int (1 : Int32), .int (0 : Int32), .int (0 : Int32), .int (0 : Int32), .int (0 : Int32)])), (q13, .inl (cI, 8, .inl (fun _ => 0))), (q14, .inl (cI, 9, .inl (fun _ => 0))), (q15, .inl (cI, 9, .inl (fun _ => 0))), (q16, .inl (cI, 9, .inl (fun _ => 0)))] H := hP
  have hD : va_D A [(h0, .inr (6, [.int (100 : Int32), .int (0 : Int32), .ref q1, .ref q2, .ref q4, .ref q7, .null, .null, .null])), (q1, .inl (cF, 6, .inr (.inr (.inr (.inr (fun _ => none)))))), (q2, .inr (4, [.ref q3, .int (0 : Int32)])), (q3, .inl (cM, 60, .inr (.inr (.inr (.inr (fun _ => none)))))), (q4, .inr (3, [.ref q5, .int (0 : Int32), .ref q6])), (q5, .inl (cI, 8, .inl (fun _ => 0))), (q6, .inl (cI, 1024, .inl (fun _ => 0))), (q7, .inr (2, [.ref q8, .ref q9, .ref q10, .ref q11, .int (1 : Int32), .int (0 : Int32), .int (0 : Int32), .int (0 : Int32), .int (0 : Int32)])), (q8, .inl (cI, 8, .inl (fun _ => 0))), (q9, .inl (cI, 9, .inl (fun _ => 0))), (q10, .inl (cI, 9, .inl (fun _ => 0))), (q11, .inl (cI, 9, .inl (fun _ => 0))), (q12, .inr (2, [.ref q13, .ref q14, .ref q15, .ref q16, .int (1 : Int32), .int (0 : Int32), .int (0 : Int32), .int (0 : Int32), .int (0 : Int32)])), (q13, .inl (cI, 8, .inl (fun _ => 0))), (q14, .inl (cI, 9, .inl (fun _ => 0))), (q15, .inl (cI, 9, .inl (fun _ => 0))), (q16, .inl (cI, 9, .inl (fun _ => 0)))] := hD
  refine W.widen (k := 16) (n := 1191) (Nat.le_of_ble_eq_true rfl) (Nat.le_of_ble_eq_true rfl) ?_
  refine va_putF (D := D) (ci := 6) (v := .ref q12) (ty := (.object "JointedShadows$Pose")) (C := RX6) (T := TX6) (N := 9) hx hb hts cls6.1 tyX6 tyX6_ok nmX6 hown hK hP hD hS 0 rfl rfl 6 (by decide) (hts _ g1_127) (fun _ h9 => h9) rfl hin rfl (tyX6_ok 6 (by decide)) rfl rfl (Nat.le_of_ble_eq_true rfl) dX6_init_65 (fun H locs hP hD hS => ?_)
  have hP : va_P D vwCl [(h0, .inr (6, [.int (100 : Int32), .int (0 : Int32), .ref q1, .ref q2, .ref q4, .ref q7, .ref q12, .null, .null])), (q1, .inl (cF, 6, .inr (.inr (.inr (.inr (fun _ => none)))))), (q2, .inr (4, [.ref q3, .int (0 : Int32)])), (q3, .inl (cM, 60, .inr (.inr (.inr (.inr (fun _ => none)))))), (q4, .inr (3, [.ref q5, .int (0 : Int32), .ref q6])), (q5, .inl (cI, 8, .inl (fun _ => 0))), (q6, .inl (cI, 1024, .inl (fun _ => 0))), (q7, .inr (2, [.ref q8, .ref q9, .ref q10, .ref q11, .int (1 : Int32), .int (0 : Int32), .int (0 : Int32), .int (0 : Int32), .int (0 : Int32)])), (q8, .inl (cI, 8, .inl (fun _ => 0))), (q9, .inl (cI, 9, .inl (fun _ => 0))), (q10, .inl (cI, 9, .inl (fun _ => 0))), (q11, .inl (cI, 9, .inl (fun _ => 0))), (q12, .inr (2, [.ref q13, .ref q14, .ref q15, .ref q16, .int (1 : Int32), .int (0 : Int32), .int (0 : Int32), .int (0 : Int32), .int (0 : Int32)])), (q13, .inl (cI, 8, .inl (fun _ => 0))), (q14, .inl (cI, 9, .inl (fun _ => 0))), (q15, .inl (cI, 9, .inl (fun _ => 0))), (q16, .inl (cI, 9, .inl (fun _ => 0)))] H := hP
  have hD : va_D A [(h0, .inr (6, [.int (100 : Int32), .int (0 : Int32), .ref q1, .ref q2, .ref q4, .ref q7, .ref q12, .null, .null])), (q1, .inl (cF, 6, .inr (.inr (.inr (.inr (fun _ => none)))))), (q2, .inr (4, [.ref q3, .int (0 : Int32)])), (q3, .inl (cM, 60, .inr (.inr (.inr (.inr (fun _ => none)))))), (q4, .inr (3, [.ref q5, .int (0 : Int32), .ref q6])), (q5, .inl (cI, 8, .inl (fun _ => 0))), (q6, .inl (cI, 1024, .inl (fun _ => 0))), (q7, .inr (2, [.ref q8, .ref q9, .ref q10, .ref q11, .int (1 : Int32), .int (0 : Int32), .int (0 : Int32), .int (0 : Int32), .int (0 : Int32)])), (q8, .inl (cI, 8, .inl (fun _ => 0))), (q9, .inl (cI, 9, .inl (fun _ => 0))), (q10, .inl (cI, 9, .inl (fun _ => 0))), (q11, .inl (cI, 9, .inl (fun _ => 0))), (q12, .inr (2, [.ref q13, .ref q14, .ref q15, .ref q16, .int (1 : Int32), .int (0 : Int32), .int (0 : Int32), .int (0 : Int32), .int (0 : Int32)])), (q13, .inl (cI, 8, .inl (fun _ => 0))), (q14, .inl (cI, 9, .inl (fun _ => 0))), (q15, .inl (cI, 9, .inl (fun _ => 0))), (q16, .inl (cI, 9, .inl (fun _ => 0)))] := hD
  refine lv_aload_n hx hb dX6_init_68 rfl (lv_at hl 0 rfl) ?_
  refine va_new (ci := 5) (fs := [.long 0, .long 0, .long 0, .long 0]) (C := RX5) (T := TX5) (N := 4) hx hb hts cls5.1 tyX5 tyX5_ok hown (hts _ g1_102) (hts _ g1_103) (hts _ g1_5) hK hP hD hS hA rfl (fun j hj => by rcases (show j = 0 ∨ j = 1 ∨ j = 2 ∨ j = 3 by omega) with rfl | rfl | rfl | rfl <;> rfl) (Nat.le_of_ble_eq_true rfl) (Nat.le_of_ble_eq_true rfl) dX6_init_69 (fun q17 H hP hD hS => ?_)
  have hP : va_P D vwCl [(h0, .inr (6, [.int (100 : Int32), .int (0 : Int32), .ref q1, .ref q2, .ref q4, .ref q7, .ref q12, .null, .null])), (q1, .inl (cF, 6, .inr (.inr (.inr (.inr (fun _ => none)))))), (q2, .inr (4, [.ref q3, .int (0 : Int32)])), (q3, .inl (cM, 60, .inr (.inr (.inr (.inr (fun _ => none)))))), (q4, .inr (3, [.ref q5, .int (0 : Int32), .ref q6])), (q5, .inl (cI, 8, .inl (fun _ => 0))), (q6, .inl (cI, 1024, .inl (fun _ => 0))), (q7, .inr (2, [.ref q8, .ref q9, .ref q10, .ref q11, .int (1 : Int32), .int (0 : Int32), .int (0 : Int32), .int (0 : Int32), .int (0 : Int32)])), (q8, .inl (cI, 8, .inl (fun _ => 0))), (q9, .inl (cI, 9, .inl (fun _ => 0))), (q10, .inl (cI, 9, .inl (fun _ => 0))), (q11, .inl (cI, 9, .inl (fun _ => 0))), (q12, .inr (2, [.ref q13, .ref q14, .ref q15, .ref q16, .int (1 : Int32), .int (0 : Int32), .int (0 : Int32), .int (0 : Int32), .int (0 : Int32)])), (q13, .inl (cI, 8, .inl (fun _ => 0))), (q14, .inl (cI, 9, .inl (fun _ => 0))), (q15, .inl (cI, 9, .inl (fun _ => 0))), (q16, .inl (cI, 9, .inl (fun _ => 0))), (q17, .inr (5, [.long 0, .long 0, .long 0, .long 0]))] H := hP
  have hD : va_D A [(h0, .inr (6, [.int (100 : Int32), .int (0 : Int32), .ref q1, .ref q2, .ref q4, .ref q7, .ref q12, .null, .null])), (q1, .inl (cF, 6, .inr (.inr (.inr (.inr (fun _ => none)))))), (q2, .inr (4, [.ref q3, .int (0 : Int32)])), (q3, .inl (cM, 60, .inr (.inr (.inr (.inr (fun _ => none)))))), (q4, .inr (3, [.ref q5, .int (0 : Int32), .ref q6])), (q5, .inl (cI, 8, .inl (fun _ => 0))), (q6, .inl (cI, 1024, .inl (fun _ => 0))), (q7, .inr (2, [.ref q8, .ref q9, .ref q10, .ref q11, .int (1 : Int32), .int (0 : Int32), .int (0 : Int32), .int (0 : Int32), .int (0 : Int32)])), (q8, .inl (cI, 8, .inl (fun _ => 0))), (q9, .inl (cI, 9, .inl (fun _ => 0))), (q10, .inl (cI, 9, .inl (fun _ => 0))), (q11, .inl (cI, 9, .inl (fun _ => 0))), (q12, .inr (2, [.ref q13, .ref q14, .ref q15, .ref q16, .int (1 : Int32), .int (0 : Int32), .int (0 : Int32), .int (0 : Int32), .int (0 : Int32)])), (q13, .inl (cI, 8, .inl (fun _ => 0))), (q14, .inl (cI, 9, .inl (fun _ => 0))), (q15, .inl (cI, 9, .inl (fun _ => 0))), (q16, .inl (cI, 9, .inl (fun _ => 0))), (q17, .inr (5, [.long 0, .long 0, .long 0, .long 0]))] := hD
  refine W.widen (k := 17) (n := 1195) (Nat.le_of_ble_eq_true rfl) (Nat.le_of_ble_eq_true rfl) ?_
  refine lv_dup hx hb dX6_init_72 rfl ?_
  have hPc := hP.sub (ws' := [(q17, .inr (5, [.long 0, .long 0, .long 0, .long 0]))]) [17] rfl
  have hDc := hD.sub (ws' := [(q17, .inr (5, [.long 0, .long 0, .long 0, .long 0]))]) [17] (by decide) rfl
  have hFc := va_free (wc := [(q17, .inr (5, [.long 0, .long 0, .long 0, .long 0]))]) hD hS hA [17] rfl
  refine va_callv (va_runIN (As := []) (rest := [.ref q17, .ref h0]) ⟨hx, hb, hml, hown, hts⟩ (kX5_init l D cI cJ cF cM q17 H.size) ⟨va_cnB (Ts := GT) 0 hts (good_code g1_106) rfl rfl rfl hKC.2.2.2.2.2.2 (hts _ g1_5) (by decide +kernel) ⟨(Nat.le_of_ble_eq_true rfl), (Nat.le_of_ble_eq_true rfl)⟩, rfl, hts _ g1_105⟩ ⟨fun a U g mk q => ⟨q.1, q.2.1, q.2.2.1, q.2.2.2.1.calling, q.2.2.2.2⟩, fun U hU hW => ⟨rfl, by rw [hU], by rw [hU]; exact hPc, hKC.at hW, hDc.weaken (fun _ _ _ _ => trivial)⟩⟩ rfl rfl hl.1 rfl (lv_room (Nat.le_of_ble_eq_true rfl)) dX6_init_73 ⟨(Nat.le_of_ble_eq_true rfl), (Nat.le_of_ble_eq_true rfl)⟩) hS (fun q _ h => hFc q h) hFc (fun u t H1 locs ht hvm hw hB hz1 hk1 hS => ?_)
  obtain ⟨hP1, hD1⟩ := hB
  rw [ht] at hP1
  obtain ⟨hP, hD⟩ := va_join (wr := [(h0, .inr (6, [.int (100 : Int32), .int (0 : Int32), .ref q1, .ref q2, .ref q4, .ref q7, .ref q12, .null, .null])), (q1, .inl (cF, 6, .inr (.inr (.inr (.inr (fun _ => none)))))), (q2, .inr (4, [.ref q3, .int (0 : Int32)])), (q3, .inl (cM, 60, .inr (.inr (.inr (.inr (fun _ => none)))))), (q4, .inr (3, [.ref q5, .int (0 : Int32), .ref q6])), (q5, .inl (cI, 8, .inl (fun _ => 0))), (q6, .inl (cI, 1024, .inl (fun _ => 0))), (q7, .inr (2, [.ref q8, .ref q9, .ref q10, .ref q11, .int (1 : Int32), .int (0 : Int32), .int (0 : Int32), .int (0 : Int32), .int (0 : Int32)])), (q8, .inl (cI, 8, .inl (fun _ => 0))), (q9, .inl (cI, 9, .inl (fun _ => 0))), (q10, .inl (cI, 9, .inl (fun _ => 0))), (q11, .inl (cI, 9, .inl (fun _ => 0))), (q12, .inr (2, [.ref q13, .ref q14, .ref q15, .ref q16, .int (1 : Int32), .int (0 : Int32), .int (0 : Int32), .int (0 : Int32), .int (0 : Int32)])), (q13, .inl (cI, 8, .inl (fun _ => 0))), (q14, .inl (cI, 9, .inl (fun _ => 0))), (q15, .inl (cI, 9, .inl (fun _ => 0))), (q16, .inl (cI, 9, .inl (fun _ => 0)))]) hP hD [17] [0, 1, 2, 3, 4, 5, 6, 7, 8, 9, 10, 11, 12, 13, 14, 15, 16] rfl rfl (by decide) (by decide) hk1 hFc hP1 hD1
  have hP : va_P D vwCl [(h0, .inr (6, [.int (100 : Int32), .int (0 : Int32), .ref q1, .ref q2, .ref q4, .ref q7, .ref q12, .null, .null])), (q1, .inl (cF, 6, .inr (.inr (.inr (.inr (fun _ => none)))))), (q2, .inr (4, [.ref q3, .int (0 : Int32)])), (q3, .inl (cM, 60, .inr (.inr (.inr (.inr (fun _ => none)))))), (q4, .inr (3, [.ref q5, .int (0 : Int32), .ref q6])), (q5, .inl (cI, 8, .inl (fun _ => 0))), (q6, .inl (cI, 1024, .inl (fun _ => 0))), (q7, .inr (2, [.ref q8, .ref q9, .ref q10, .ref q11, .int (1 : Int32), .int (0 : Int32), .int (0 : Int32), .int (0 : Int32), .int (0 : Int32)])), (q8, .inl (cI, 8, .inl (fun _ => 0))), (q9, .inl (cI, 9, .inl (fun _ => 0))), (q10, .inl (cI, 9, .inl (fun _ => 0))), (q11, .inl (cI, 9, .inl (fun _ => 0))), (q12, .inr (2, [.ref q13, .ref q14, .ref q15, .ref q16, .int (1 : Int32), .int (0 : Int32), .int (0 : Int32), .int (0 : Int32), .int (0 : Int32)])), (q13, .inl (cI, 8, .inl (fun _ => 0))), (q14, .inl (cI, 9, .inl (fun _ => 0))), (q15, .inl (cI, 9, .inl (fun _ => 0))), (q16, .inl (cI, 9, .inl (fun _ => 0))), ((u 0), .inr (5, [.long 0, .long 0, .long 0, .long 0]))] H1 := hP
  have hD : va_D A [(h0, .inr (6, [.int (100 : Int32), .int (0 : Int32), .ref q1, .ref q2, .ref q4, .ref q7, .ref q12, .null, .null])), (q1, .inl (cF, 6, .inr (.inr (.inr (.inr (fun _ => none)))))), (q2, .inr (4, [.ref q3, .int (0 : Int32)])), (q3, .inl (cM, 60, .inr (.inr (.inr (.inr (fun _ => none)))))), (q4, .inr (3, [.ref q5, .int (0 : Int32), .ref q6])), (q5, .inl (cI, 8, .inl (fun _ => 0))), (q6, .inl (cI, 1024, .inl (fun _ => 0))), (q7, .inr (2, [.ref q8, .ref q9, .ref q10, .ref q11, .int (1 : Int32), .int (0 : Int32), .int (0 : Int32), .int (0 : Int32), .int (0 : Int32)])), (q8, .inl (cI, 8, .inl (fun _ => 0))), (q9, .inl (cI, 9, .inl (fun _ => 0))), (q10, .inl (cI, 9, .inl (fun _ => 0))), (q11, .inl (cI, 9, .inl (fun _ => 0))), (q12, .inr (2, [.ref q13, .ref q14, .ref q15, .ref q16, .int (1 : Int32), .int (0 : Int32), .int (0 : Int32), .int (0 : Int32), .int (0 : Int32)])), (q13, .inl (cI, 8, .inl (fun _ => 0))), (q14, .inl (cI, 9, .inl (fun _ => 0))), (q15, .inl (cI, 9, .inl (fun _ => 0))), (q16, .inl (cI, 9, .inl (fun _ => 0))), ((u 0), .inr (5, [.long 0, .long 0, .long 0, .long 0]))] := hD
  rw [hw] at hP hD
  generalize H1 = H at hP hS ⊢
  have hP : va_P D vwCl [(h0, .inr (6, [.int (100 : Int32), .int (0 : Int32), .ref q1, .ref q2, .ref q4, .ref q7, .ref q12, .null, .null])), (q1, .inl (cF, 6, .inr (.inr (.inr (.inr (fun _ => none)))))), (q2, .inr (4, [.ref q3, .int (0 : Int32)])), (q3, .inl (cM, 60, .inr (.inr (.inr (.inr (fun _ => none)))))), (q4, .inr (3, [.ref q5, .int (0 : Int32), .ref q6])), (q5, .inl (cI, 8, .inl (fun _ => 0))), (q6, .inl (cI, 1024, .inl (fun _ => 0))), (q7, .inr (2, [.ref q8, .ref q9, .ref q10, .ref q11, .int (1 : Int32), .int (0 : Int32), .int (0 : Int32), .int (0 : Int32), .int (0 : Int32)])), (q8, .inl (cI, 8, .inl (fun _ => 0))), (q9, .inl (cI, 9, .inl (fun _ => 0))), (q10, .inl (cI, 9, .inl (fun _ => 0))), (q11, .inl (cI, 9, .inl (fun _ => 0))), (q12, .inr (2, [.ref q13, .ref q14, .ref q15, .ref q16, .int (1 : Int32), .int (0 : Int32), .int (0 : Int32), .int (0 : Int32), .int (0 : Int32)])), (q13, .inl (cI, 8, .inl (fun _ => 0))), (q14, .inl (cI, 9, .inl (fun _ => 0))), (q15, .inl (cI, 9, .inl (fun _ => 0))), (q16, .inl (cI, 9, .inl (fun _ => 0))), (q17, .inr (5, [.long 0, .long 0, .long 0, .long 0]))] H := hP
  have hD : va_D A [(h0, .inr (6, [.int (100 : Int32), .int (0 : Int32), .ref q1, .ref q2, .ref q4, .ref q7, .ref q12, .null, .null])), (q1, .inl (cF, 6, .inr (.inr (.inr (.inr (fun _ => none)))))), (q2, .inr (4, [.ref q3, .int (0 : Int32)])), (q3, .inl (cM, 60, .inr (.inr (.inr (.inr (fun _ => none)))))), (q4, .inr (3, [.ref q5, .int (0 : Int32), .ref q6])), (q5, .inl (cI, 8, .inl (fun _ => 0))), (q6, .inl (cI, 1024, .inl (fun _ => 0))), (q7, .inr (2, [.ref q8, .ref q9, .ref q10, .ref q11, .int (1 : Int32), .int (0 : Int32), .int (0 : Int32), .int (0 : Int32), .int (0 : Int32)])), (q8, .inl (cI, 8, .inl (fun _ => 0))), (q9, .inl (cI, 9, .inl (fun _ => 0))), (q10, .inl (cI, 9, .inl (fun _ => 0))), (q11, .inl (cI, 9, .inl (fun _ => 0))), (q12, .inr (2, [.ref q13, .ref q14, .ref q15, .ref q16, .int (1 : Int32), .int (0 : Int32), .int (0 : Int32), .int (0 : Int32), .int (0 : Int32)])), (q13, .inl (cI, 8, .inl (fun _ => 0))), (q14, .inl (cI, 9, .inl (fun _ => 0))), (q15, .inl (cI, 9, .inl (fun _ => 0))), (q16, .inl (cI, 9, .inl (fun _ => 0))), (q17, .inr (5, [.long 0, .long 0, .long 0, .long 0]))] := hD
  refine W.widen (k := 17) (n := 1195) (Nat.le_of_ble_eq_true rfl) (Nat.le_of_ble_eq_true rfl) ?_
  refine va_putF (D := D) (ci := 6) (v := .ref q17) (ty := (.object "JointedShadows$Segment")) (C := RX6) (T := TX6) (N := 9) hx hb hts cls6.1 tyX6 tyX6_ok nmX6 hown hK hP hD hS 0 rfl rfl 7 (by decide) (hts _ g1_128) (fun _ h9 => h9) rfl hin rfl (tyX6_ok 7 (by decide)) rfl rfl (Nat.le_of_ble_eq_true rfl) dX6_init_76 (fun H locs hP hD hS => ?_)
  have hP : va_P D vwCl [(h0, .inr (6, [.int (100 : Int32), .int (0 : Int32), .ref q1, .ref q2, .ref q4, .ref q7, .ref q12, .ref q17, .null])), (q1, .inl (cF, 6, .inr (.inr (.inr (.inr (fun _ => none)))))), (q2, .inr (4, [.ref q3, .int (0 : Int32)])), (q3, .inl (cM, 60, .inr (.inr (.inr (.inr (fun _ => none)))))), (q4, .inr (3, [.ref q5, .int (0 : Int32), .ref q6])), (q5, .inl (cI, 8, .inl (fun _ => 0))), (q6, .inl (cI, 1024, .inl (fun _ => 0))), (q7, .inr (2, [.ref q8, .ref q9, .ref q10, .ref q11, .int (1 : Int32), .int (0 : Int32), .int (0 : Int32), .int (0 : Int32), .int (0 : Int32)])), (q8, .inl (cI, 8, .inl (fun _ => 0))), (q9, .inl (cI, 9, .inl (fun _ => 0))), (q10, .inl (cI, 9, .inl (fun _ => 0))), (q11, .inl (cI, 9, .inl (fun _ => 0))), (q12, .inr (2, [.ref q13, .ref q14, .ref q15, .ref q16, .int (1 : Int32), .int (0 : Int32), .int (0 : Int32), .int (0 : Int32), .int (0 : Int32)])), (q13, .inl (cI, 8, .inl (fun _ => 0))), (q14, .inl (cI, 9, .inl (fun _ => 0))), (q15, .inl (cI, 9, .inl (fun _ => 0))), (q16, .inl (cI, 9, .inl (fun _ => 0))), (q17, .inr (5, [.long 0, .long 0, .long 0, .long 0]))] H := hP
  have hD : va_D A [(h0, .inr (6, [.int (100 : Int32), .int (0 : Int32), .ref q1, .ref q2, .ref q4, .ref q7, .ref q12, .ref q17, .null])), (q1, .inl (cF, 6, .inr (.inr (.inr (.inr (fun _ => none)))))), (q2, .inr (4, [.ref q3, .int (0 : Int32)])), (q3, .inl (cM, 60, .inr (.inr (.inr (.inr (fun _ => none)))))), (q4, .inr (3, [.ref q5, .int (0 : Int32), .ref q6])), (q5, .inl (cI, 8, .inl (fun _ => 0))), (q6, .inl (cI, 1024, .inl (fun _ => 0))), (q7, .inr (2, [.ref q8, .ref q9, .ref q10, .ref q11, .int (1 : Int32), .int (0 : Int32), .int (0 : Int32), .int (0 : Int32), .int (0 : Int32)])), (q8, .inl (cI, 8, .inl (fun _ => 0))), (q9, .inl (cI, 9, .inl (fun _ => 0))), (q10, .inl (cI, 9, .inl (fun _ => 0))), (q11, .inl (cI, 9, .inl (fun _ => 0))), (q12, .inr (2, [.ref q13, .ref q14, .ref q15, .ref q16, .int (1 : Int32), .int (0 : Int32), .int (0 : Int32), .int (0 : Int32), .int (0 : Int32)])), (q13, .inl (cI, 8, .inl (fun _ => 0))), (q14, .inl (cI, 9, .inl (fun _ => 0))), (q15, .inl (cI, 9, .inl (fun _ => 0))), (q16, .inl (cI, 9, .inl (fun _ => 0))), (q17, .inr (5, [.long 0, .long 0, .long 0, .long 0]))] := hD
  refine lv_aload_n hx hb dX6_init_79 rfl (lv_at hl 0 rfl) ?_
  refine va_new (ci := 5) (fs := [.long 0, .long 0, .long 0, .long 0]) (C := RX5) (T := TX5) (N := 4) hx hb hts cls5.1 tyX5 tyX5_ok hown (hts _ g1_102) (hts _ g1_103) (hts _ g1_5) hK hP hD hS hA rfl (fun j hj => by rcases (show j = 0 ∨ j = 1 ∨ j = 2 ∨ j = 3 by omega) with rfl | rfl | rfl | rfl <;> rfl) (Nat.le_of_ble_eq_true rfl) (Nat.le_of_ble_eq_true rfl) dX6_init_80 (fun q18 H hP hD hS => ?_)
  have hP : va_P D vwCl [(h0, .inr (6, [.int (100 : Int32), .int (0 : Int32), .ref q1, .ref q2, .ref q4, .ref q7, .ref q12, .ref q17, .null])), (q1, .inl (cF, 6, .inr (.inr (.inr (.inr (fun _ => none)))))), (q2, .inr (4, [.ref q3, .int (0 : Int32)])), (q3, .inl (cM, 60, .inr (.inr (.inr (.inr (fun _ => none)))))), (q4, .inr (3, [.ref q5, .int (0 : Int32), .ref q6])), (q5, .inl (cI, 8, .inl (fun _ => 0))), (q6, .inl (cI, 1024, .inl (fun _ => 0))), (q7, .inr (2, [.ref q8, .ref q9, .ref q10, .ref q11, .int (1 : Int32), .int (0 : Int32), .int (0 : Int32), .int (0 : Int32), .int (0 : Int32)])), (q8, .inl (cI, 8, .inl (fun _ => 0))), (q9, .inl (cI, 9, .inl (fun _ => 0))), (q10, .inl (cI, 9, .inl (fun _ => 0))), (q11, .inl (cI, 9, .inl (fun _ => 0))), (q12, .inr (2, [.ref q13, .ref q14, .ref q15, .ref q16, .int (1 : Int32), .int (0 : Int32), .int (0 : Int32), .int (0 : Int32), .int (0 : Int32)])), (q13, .inl (cI, 8, .inl (fun _ => 0))), (q14, .inl (cI, 9, .inl (fun _ => 0))), (q15, .inl (cI, 9, .inl (fun _ => 0))), (q16, .inl (cI, 9, .inl (fun _ => 0))), (q17, .inr (5, [.long 0, .long 0, .long 0, .long 0])), (q18, .inr (5, [.long 0, .long 0, .long 0, .long 0]))] H := hP
  have hD : va_D A [(h0, .inr (6, [.int (100 : Int32), .int (0 : Int32), .ref q1, .ref q2, .ref q4, .ref q7, .ref q12, .ref q17, .null])), (q1, .inl (cF, 6, .inr (.inr (.inr (.inr (fun _ => none)))))), (q2, .inr (4, [.ref q3, .int (0 : Int32)])), (q3, .inl (cM, 60, .inr (.inr (.inr (.inr (fun _ => none)))))), (q4, .inr (3, [.ref q5, .int (0 : Int32), .ref q6])), (q5, .inl (cI, 8, .inl (fun _ => 0))), (q6, .inl (cI, 1024, .inl (fun _ => 0))), (q7, .inr (2, [.ref q8, .ref q9, .ref q10, .ref q11, .int (1 : Int32), .int (0 : Int32), .int (0 : Int32), .int (0 : Int32), .int (0 : Int32)])), (q8, .inl (cI, 8, .inl (fun _ => 0))), (q9, .inl (cI, 9, .inl (fun _ => 0))), (q10, .inl (cI, 9, .inl (fun _ => 0))), (q11, .inl (cI, 9, .inl (fun _ => 0))), (q12, .inr (2, [.ref q13, .ref q14, .ref q15, .ref q16, .int (1 : Int32), .int (0 : Int32), .int (0 : Int32), .int (0 : Int32), .int (0 : Int32)])), (q13, .inl (cI, 8, .inl (fun _ => 0))), (q14, .inl (cI, 9, .inl (fun _ => 0))), (q15, .inl (cI, 9, .inl (fun _ => 0))), (q16, .inl (cI, 9, .inl (fun _ => 0))), (q17, .inr (5, [.long 0, .long 0, .long 0, .long 0])), (q18, .inr (5, [.long 0, .long 0, .long 0, .long 0]))] := hD
  refine W.widen (k := 18) (n := 1199) (Nat.le_of_ble_eq_true rfl) (Nat.le_of_ble_eq_true rfl) ?_
  refine lv_dup hx hb dX6_init_83 rfl ?_
  have hPc := hP.sub (ws' := [(q18, .inr (5, [.long 0, .long 0, .long 0, .long 0]))]) [18] rfl
  have hDc := hD.sub (ws' := [(q18, .inr (5, [.long 0, .long 0, .long 0, .long 0]))]) [18] (by decide) rfl
  have hFc := va_free (wc := [(q18, .inr (5, [.long 0, .long 0, .long 0, .long 0]))]) hD hS hA [18] rfl
  refine va_callv (va_runIN (As := []) (rest := [.ref q18, .ref h0]) ⟨hx, hb, hml, hown, hts⟩ (kX5_init l D cI cJ cF cM q18 H.size) ⟨va_cnB (Ts := GT) 0 hts (good_code g1_106) rfl rfl rfl hKC.2.2.2.2.2.2 (hts _ g1_5) (by decide +kernel) ⟨(Nat.le_of_ble_eq_true rfl), (Nat.le_of_ble_eq_true rfl)⟩, rfl, hts _ g1_105⟩ ⟨fun a U g mk q => ⟨q.1, q.2.1, q.2.2.1, q.2.2.2.1.calling, q.2.2.2.2⟩, fun U hU hW => ⟨rfl, by rw [hU], by rw [hU]; exact hPc, hKC.at hW, hDc.weaken (fun _ _ _ _ => trivial)⟩⟩ rfl rfl hl.1 rfl (lv_room (Nat.le_of_ble_eq_true rfl)) dX6_init_84 ⟨(Nat.le_of_ble_eq_true rfl), (Nat.le_of_ble_eq_true rfl)⟩) hS (fun q _ h => hFc q h) hFc (fun u t H1 locs ht hvm hw hB hz1 hk1 hS => ?_)
  obtain ⟨hP1, hD1⟩ := hB
  rw [ht] at hP1
  obtain ⟨hP, hD⟩ := va_join (wr := [(h0, .inr (6, [.int (100 : Int32), .int (0 : Int32), .ref q1, .ref q2, .ref q4, .ref q7, .ref q12, .ref q17, .null])), (q1, .inl (cF, 6, .inr (.inr (.inr (.inr (fun _ => none)))))), (q2, .inr (4, [.ref q3, .int (0 : Int32)])), (q3, .inl (cM, 60, .inr (.inr (.inr (.inr (fun _ => none)))))), (q4, .inr (3, [.ref q5, .int (0 : Int32), .ref q6])), (q5, .inl (cI, 8, .inl (fun _ => 0))), (q6, .inl (cI, 1024, .inl (fun _ => 0))), (q7, .inr (2, [.ref q8, .ref q9, .ref q10, .ref q11, .int (1 : Int32), .int (0 : Int32), .int (0 : Int32), .int (0 : Int32), .int (0 : Int32)])), (q8, .inl (cI, 8, .inl (fun _ => 0))), (q9, .inl (cI, 9, .inl (fun _ => 0))), (q10, .inl (cI, 9, .inl (fun _ => 0))), (q11, .inl (cI, 9, .inl (fun _ => 0))), (q12, .inr (2, [.ref q13, .ref q14, .ref q15, .ref q16, .int (1 : Int32), .int (0 : Int32), .int (0 : Int32), .int (0 : Int32), .int (0 : Int32)])), (q13, .inl (cI, 8, .inl (fun _ => 0))), (q14, .inl (cI, 9, .inl (fun _ => 0))), (q15, .inl (cI, 9, .inl (fun _ => 0))), (q16, .inl (cI, 9, .inl (fun _ => 0))), (q17, .inr (5, [.long 0, .long 0, .long 0, .long 0]))]) hP hD [18] [0, 1, 2, 3, 4, 5, 6, 7, 8, 9, 10, 11, 12, 13, 14, 15, 16, 17] rfl rfl (by decide) (by decide) hk1 hFc hP1 hD1
  have hP : va_P D vwCl [(h0, .inr (6, [.int (100 : Int32), .int (0 : Int32), .ref q1, .ref q2, .ref q4, .ref q7, .ref q12, .ref q17, .null])), (q1, .inl (cF, 6, .inr (.inr (.inr (.inr (fun _ => none)))))), (q2, .inr (4, [.ref q3, .int (0 : Int32)])), (q3, .inl (cM, 60, .inr (.inr (.inr (.inr (fun _ => none)))))), (q4, .inr (3, [.ref q5, .int (0 : Int32), .ref q6])), (q5, .inl (cI, 8, .inl (fun _ => 0))), (q6, .inl (cI, 1024, .inl (fun _ => 0))), (q7, .inr (2, [.ref q8, .ref q9, .ref q10, .ref q11, .int (1 : Int32), .int (0 : Int32), .int (0 : Int32), .int (0 : Int32), .int (0 : Int32)])), (q8, .inl (cI, 8, .inl (fun _ => 0))), (q9, .inl (cI, 9, .inl (fun _ => 0))), (q10, .inl (cI, 9, .inl (fun _ => 0))), (q11, .inl (cI, 9, .inl (fun _ => 0))), (q12, .inr (2, [.ref q13, .ref q14, .ref q15, .ref q16, .int (1 : Int32), .int (0 : Int32), .int (0 : Int32), .int (0 : Int32), .int (0 : Int32)])), (q13, .inl (cI, 8, .inl (fun _ => 0))), (q14, .inl (cI, 9, .inl (fun _ => 0))), (q15, .inl (cI, 9, .inl (fun _ => 0))), (q16, .inl (cI, 9, .inl (fun _ => 0))), (q17, .inr (5, [.long 0, .long 0, .long 0, .long 0])), ((u 0), .inr (5, [.long 0, .long 0, .long 0, .long 0]))] H1 := hP
  have hD : va_D A [(h0, .inr (6, [.int (100 : Int32), .int (0 : Int32), .ref q1, .ref q2, .ref q4, .ref q7, .ref q12, .ref q17, .null])), (q1, .inl (cF, 6, .inr (.inr (.inr (.inr (fun _ => none)))))), (q2, .inr (4, [.ref q3, .int (0 : Int32)])), (q3, .inl (cM, 60, .inr (.inr (.inr (.inr (fun _ => none)))))), (q4, .inr (3, [.ref q5, .int (0 : Int32), .ref q6])), (q5, .inl (cI, 8, .inl (fun _ => 0))), (q6, .inl (cI, 1024, .inl (fun _ => 0))), (q7, .inr (2, [.ref q8, .ref q9, .ref q10, .ref q11, .int (1 : Int32), .int (0 : Int32), .int (0 : Int32), .int (0 : Int32), .int (0 : Int32)])), (q8, .inl (cI, 8, .inl (fun _ => 0))), (q9, .inl (cI, 9, .inl (fun _ => 0))), (q10, .inl (cI, 9, .inl (fun _ => 0))), (q11, .inl (cI, 9, .inl (fun _ => 0))), (q12, .inr (2, [.ref q13, .ref q14, .ref q15, .ref q16, .int (1 : Int32), .int (0 : Int32), .int (0 : Int32), .int (0 : Int32), .int (0 : Int32)])), (q13, .inl (cI, 8, .inl (fun _ => 0))), (q14, .inl (cI, 9, .inl (fun _ => 0))), (q15, .inl (cI, 9, .inl (fun _ => 0))), (q16, .inl (cI, 9, .inl (fun _ => 0))), (q17, .inr (5, [.long 0, .long 0, .long 0, .long 0])), ((u 0), .inr (5, [.long 0, .long 0, .long 0, .long 0]))] := hD
  rw [hw] at hP hD
  generalize H1 = H at hP hS ⊢
  have hP : va_P D vwCl [(h0, .inr (6, [.int (100 : Int32), .int (0 : Int32), .ref q1, .ref q2, .ref q4, .ref q7, .ref q12, .ref q17, .null])), (q1, .inl (cF, 6, .inr (.inr (.inr (.inr (fun _ => none)))))), (q2, .inr (4, [.ref q3, .int (0 : Int32)])), (q3, .inl (cM, 60, .inr (.inr (.inr (.inr (fun _ => none)))))), (q4, .inr (3, [.ref q5, .int (0 : Int32), .ref q6])), (q5, .inl (cI, 8, .inl (fun _ => 0))), (q6, .inl (cI, 1024, .inl (fun _ => 0))), (q7, .inr (2, [.ref q8, .ref q9, .ref q10, .ref q11, .int (1 : Int32), .int (0 : Int32), .int (0 : Int32), .int (0 : Int32), .int (0 : Int32)])), (q8, .inl (cI, 8, .inl (fun _ => 0))), (q9, .inl (cI, 9, .inl (fun _ => 0))), (q10, .inl (cI, 9, .inl (fun _ => 0))), (q11, .inl (cI, 9, .inl (fun _ => 0))), (q12, .inr (2, [.ref q13, .ref q14, .ref q15, .ref q16, .int (1 : Int32), .int (0 : Int32), .int (0 : Int32), .int (0 : Int32), .int (0 : Int32)])), (q13, .inl (cI, 8, .inl (fun _ => 0))), (q14, .inl (cI, 9, .inl (fun _ => 0))), (q15, .inl (cI, 9, .inl (fun _ => 0))), (q16, .inl (cI, 9, .inl (fun _ => 0))), (q17, .inr (5, [.long 0, .long 0, .long 0, .long 0])), (q18, .inr (5, [.long 0, .long 0, .long 0, .long 0]))] H := hP
  have hD : va_D A [(h0, .inr (6, [.int (100 : Int32), .int (0 : Int32), .ref q1, .ref q2, .ref q4, .ref q7, .ref q12, .ref q17, .null])), (q1, .inl (cF, 6, .inr (.inr (.inr (.inr (fun _ => none)))))), (q2, .inr (4, [.ref q3, .int (0 : Int32)])), (q3, .inl (cM, 60, .inr (.inr (.inr (.inr (fun _ => none)))))), (q4, .inr (3, [.ref q5, .int (0 : Int32), .ref q6])), (q5, .inl (cI, 8, .inl (fun _ => 0))), (q6, .inl (cI, 1024, .inl (fun _ => 0))), (q7, .inr (2, [.ref q8, .ref q9, .ref q10, .ref q11, .int (1 : Int32), .int (0 : Int32), .int (0 : Int32), .int (0 : Int32), .int (0 : Int32)])), (q8, .inl (cI, 8, .inl (fun _ => 0))), (q9, .inl (cI, 9, .inl (fun _ => 0))), (q10, .inl (cI, 9, .inl (fun _ => 0))), (q11, .inl (cI, 9, .inl (fun _ => 0))), (q12, .inr (2, [.ref q13, .ref q14, .ref q15, .ref q16, .int (1 : Int32), .int (0 : Int32), .int (0 : Int32), .int (0 : Int32), .int (0 : Int32)])), (q13, .inl (cI, 8, .inl (fun _ => 0))), (q14, .inl (cI, 9, .inl (fun _ => 0))), (q15, .inl (cI, 9, .inl (fun _ => 0))), (q16, .inl (cI, 9, .inl (fun _ => 0))), (q17, .inr (5, [.long 0, .long 0, .long 0, .long 0])), (q18, .inr (5, [.long 0, .long 0, .long 0, .long 0]))] := hD
  refine W.widen (k := 18) (n := 1199) (Nat.le_of_ble_eq_true rfl) (Nat.le_of_ble_eq_true rfl) ?_
  refine va_putF (D := D) (ci := 6) (v := .ref q18) (ty := (.object "JointedShadows$Segment")) (C := RX6) (T := TX6) (N := 9) hx hb hts cls6.1 tyX6 tyX6_ok nmX6 hown hK hP hD hS 0 rfl rfl 8 (by decide) (hts _ g1_129) (fun _ h9 => h9) rfl hin rfl (tyX6_ok 8 (by decide)) rfl rfl (Nat.le_of_ble_eq_true rfl) dX6_init_87 (fun H locs hP hD hS => ?_)
  have hP : va_P D vwCl [(h0, .inr (6, [.int (100 : Int32), .int (0 : Int32), .ref q1, .ref q2, .ref q4, .ref q7, .ref q12, .ref q17, .ref q18])), (q1, .inl (cF, 6, .inr (.inr (.inr (.inr (fun _ => none)))))), (q2, .inr (4, [.ref q3, .int (0 : Int32)])), (q3, .inl (cM, 60, .inr (.inr (.inr (.inr (fun _ => none)))))), (q4, .inr (3, [.ref q5, .int (0 : Int32), .ref q6])), (q5, .inl (cI, 8, .inl (fun _ => 0))), (q6, .inl (cI, 1024, .inl (fun _ => 0))), (q7, .inr (2, [.ref q8, .ref q9, .ref q10, .ref q11, .int (1 : Int32), .int (0 : Int32), .int (0 : Int32), .int (0 : Int32), .int (0 : Int32)])), (q8, .inl (cI, 8, .inl (fun _ => 0))), (q9, .inl (cI, 9, .inl (fun _ => 0))), (q10, .inl (cI, 9, .inl (fun _ => 0))), (q11, .inl (cI, 9, .inl (fun _ => 0))), (q12, .inr (2, [.ref q13, .ref q14, .ref q15, .ref q16, .int (1 : Int32), .int (0 : Int32), .int (0 : Int32), .int (0 : Int32), .int (0 : Int32)])), (q13, .inl (cI, 8, .inl (fun _ => 0))), (q14, .inl (cI, 9, .inl (fun _ => 0))), (q15, .inl (cI, 9, .inl (fun _ => 0))), (q16, .inl (cI, 9, .inl (fun _ => 0))), (q17, .inr (5, [.long 0, .long 0, .long 0, .long 0])), (q18, .inr (5, [.long 0, .long 0, .long 0, .long 0]))] H := hP
  have hD : va_D A [(h0, .inr (6, [.int (100 : Int32), .int (0 : Int32), .ref q1, .ref q2, .ref q4, .ref q7, .ref q12, .ref q17, .ref q18])), (q1, .inl (cF, 6, .inr (.inr (.inr (.inr (fun _ => none)))))), (q2, .inr (4, [.ref q3, .int (0 : Int32)])), (q3, .inl (cM, 60, .inr (.inr (.inr (.inr (fun _ => none)))))), (q4, .inr (3, [.ref q5, .int (0 : Int32), .ref q6])), (q5, .inl (cI, 8, .inl (fun _ => 0))), (q6, .inl (cI, 1024, .inl (fun _ => 0))), (q7, .inr (2, [.ref q8, .ref q9, .ref q10, .ref q11, .int (1 : Int32), .int (0 : Int32), .int (0 : Int32), .int (0 : Int32), .int (0 : Int32)])), (q8, .inl (cI, 8, .inl (fun _ => 0))), (q9, .inl (cI, 9, .inl (fun _ => 0))), (q10, .inl (cI, 9, .inl (fun _ => 0))), (q11, .inl (cI, 9, .inl (fun _ => 0))), (q12, .inr (2, [.ref q13, .ref q14, .ref q15, .ref q16, .int (1 : Int32), .int (0 : Int32), .int (0 : Int32), .int (0 : Int32), .int (0 : Int32)])), (q13, .inl (cI, 8, .inl (fun _ => 0))), (q14, .inl (cI, 9, .inl (fun _ => 0))), (q15, .inl (cI, 9, .inl (fun _ => 0))), (q16, .inl (cI, 9, .inl (fun _ => 0))), (q17, .inr (5, [.long 0, .long 0, .long 0, .long 0])), (q18, .inr (5, [.long 0, .long 0, .long 0, .long 0]))] := hD
  exact W.vret hx hb hr (fun t ht hW => ⟨⟨(fun k => [h0, q1, q2, q3, q4, q5, q6, q7, q8, q9, q10, q11, q12, q13, q14, q15, q16, q17, q18].getD k 0), rfl, rfl, by show va_P D vwCl _ t.heap; rw [ht]; exact hP, hD⟩, hS.F ht⟩) hS.2.2 dX6_init_90
abbrev lsX7_init (cI cJ cF cM : ClassId) (u : Nat → Nat)  : va_W := [((u 0), .inr (7, [.int (100 : Int32), .int 0, .ref (u 1), .ref (u 2), .ref (u 3), .ref (u 4), .ref (u 5), .ref (u 6), .ref (u 7), .int 0, .ref (u 8), .ref (u 9), .ref (u 10), .ref (u 11), .ref (u 12), .ref (u 13), .ref (u 14), .ref (u 15), .ref (u 16), .ref (u 17), .ref (u 18), .ref (u 19), .ref (u 20), .int 0, .ref (u 21), .ref (u 22), .ref (u 23)])), ((u 1), .inl (cI, 6, .inl (fun _ => 0))), ((u 2), .inl (cI, 6, .inl (fun _ => 0))), ((u 3), .inl (cI, 6, .inl (fun _ => 0))), ((u 4), .inl (cI, 6, .inl (fun _ => 0))), ((u 5), .inl (cI, 48, .inl (fun _ => 0))), ((u 6), .inl (cI, 48, .inl (fun _ => 0))), ((u 7), .inl (cI, 48, .inl (fun _ => 0))), ((u 8), .inl (cI, 60, .inl (fun _ => 0))), ((u 9), .inl (cI, 60, .inl (fun _ => 0))), ((u 10), .inl (cI, 60, .inl (fun _ => 0))), ((u 11), .inl (cI, 60, .inl (fun _ => 0))), ((u 12), .inl (cI, 60, .inl (fun _ => 0))), ((u 13), .inl (cI, 60, .inl (fun _ => 0))), ((u 14), .inl (cI, 6, .inl (fun _ => 0))), ((u 15), .inl (cI, 48, .inl (fun _ => 0))), ((u 16), .inl (cJ, 54, .inr (.inl (fun _ => 0)))), ((u 17), .inl (cJ, 54, .inr (.inl (fun _ => 0)))), ((u 18), .inl (cI, 54, .inl (fun _ => 0))), ((u 19), .inl (cJ, 4, .inr (.inl (fun _ => 0)))), ((u 20), .inl (cJ, 4, .inr (.inl (fun _ => 0)))), ((u 21), .inl (cI, 8, .inl (fun _ => 0))), ((u 22), .inl (cI, 8, .inl (fun _ => 0))), ((u 23), .inl (cI, 8, .inl (fun _ => 0)))]
set_option maxHeartbeats 4000000 in
set_option maxRecDepth 100000 in
theorem kX7_init (l : Launch) (D : va_G) (cI cJ cF cM : ClassId) (h0 sz : Nat)  : Met l yX7_init (.code yX7_init cX7_init 1 none :: GT) { frames := 1, cells := 23, slots := 776, locals := 12 } (va_Pc [.ref h0] (fun U => U.heap.size = sz ∧ va_P D vwCl [(h0, .inr (7, [.int 0, .int 0, .null, .null, .null, .null, .null, .null, .null, .int 0, .null, .null, .null, .null, .null, .null, .null, .null, .null, .null, .null, .null, .null, .int 0, .null, .null, .null]))] U.heap ∧ KC D cI cJ cF cM U ∧ va_D (fun _ => True) [(h0, .inr (7, [.int 0, .int 0, .null, .null, .null, .null, .null, .null, .null, .int 0, .null, .null, .null, .null, .null, .null, .null, .null, .null, .null, .null, .null, .null, .int 0, .null, .null, .null]))])) (va_Qv (fun (u : Nat → Nat) => u 0 = h0) (fun u t => va_P D vwCl (lsX7_init cI cJ cF cM u ) t.heap ∧ va_D (va_A [(h0, .inr (7, [.int 0, .int 0, .null, .null, .null, .null, .null, .null, .null, .int 0, .null, .null, .null, .null, .null, .null, .null, .null, .null, .null, .null, .null, .null, .int 0, .null, .null, .null]))] sz) (lsX7_init cI cJ cF cM u )) (va_A [(h0, .inr (7, [.int 0, .int 0, .null, .null, .null, .null, .null, .null, .null, .int 0, .null, .null, .null, .null, .null, .null, .null, .null, .null, .null, .null, .null, .null, .int 0, .null, .null, .null]))] sz)) 23 776 (va_A [(h0, .inr (7, [.int 0, .int 0, .null, .null, .null, .null, .null, .null, .null, .int 0, .null, .null, .null, .null, .null, .null, .null, .null, .null, .null, .null, .null, .null, .int 0, .null, .null, .null]))] sz) := by
  refine Met.ofW (cc := cX7_init) (maxL := 1) (ret := none) (by decide) rfl ?_
  intro p e s m args below meth c s₁ B hml hv
  obtain ⟨rfl, hsz, hP, hKC, hD0⟩ := hv
  have hK := hKC.1
  have hx := B.exec
  have hb := B.bytes
  have hr := B.returns
  have hts : ∀ w ∈ GT, w.before [.ref h0].toArray s = true := fun w hw => atoms_spec (ws := .code yX7_init cX7_init 1 none :: GT) B.pre w (List.mem_cons_of_mem _ hw)
  have hown : s.vm.findClass RX7 = some m.cls := findClass_of_methodNamed B.named
  have hlocks := B.notSynchronized
  have hin : meth.name = "<init>" := (name_of_methodNamed B.named B.method).1
  subst hsz
  have hD := hD0.self (sz := s.heap.size)
  generalize hAe : va_A [(h0, .inr (7, [.int 0, .int 0, .null, .null, .null, .null, .null, .null, .null, .int 0, .null, .null, .null, .null, .null, .null, .null, .null, .null, .null, .null, .null, .null, .int 0, .null, .null, .null]))] s.heap.size = A at hD ⊢
  have hA : ∀ q : Nat, s.heap.size ≤ q → A q := fun q h => by rw [← hAe]; exact Or.inr h
  have hS : va_S A s.heap s.heap [] := va_S.rf
  have hl := lv_entry ([.ref h0]) (n := 1) (Nat.le_of_ble_eq_true rfl)
  rw [lg_entry_eq]
  generalize (lg_sl ([.ref h0]) ++ List.replicate (1 - (lg_sl ([.ref h0])).length) Slot.unset).toArray = ls at hl ⊢
  have hl : lv_has ls 1 [(0, .ref h0)] := hl
  refine lv_aload_n hx hb dX7_init_0 rfl (lv_at hl 0 rfl) ?_
  refine W.objInit hx hb hown (hts _ g3_60) (hts _ g1_19) (hts _ g1_20) rfl (by rw [hml]; exact hl.1) rfl dX7_init_1 (Nat.le_of_ble_eq_true rfl) (Nat.le_of_ble_eq_true rfl) ?_
  refine W.eq (g2 := F0 m 4 ls []) rfl ?_
  refine lv_aload_n hx hb dX7_init_4 rfl (lv_at hl 0 rfl) ?_
  refine lv_bipush (v := (6 : Int32)) hx hb dX7_init_5 (by decide) ?_
  refine va_newa (atype := .int) (ty := .int) (N' := 6) (a0 := (6, .inl (fun _ => 0))) hx hb (hts _ g1_57) rfl hK hP hD hS hA (fun _ => rfl) (by decide) (by decide +kernel) (by decide) (Nat.le_of_ble_eq_true rfl) (Nat.le_of_ble_eq_true rfl) dX7_init_7 (fun q1 cA H hK1 hP hD hS => ?_)
  obtain rfl : cI = cA := ra_int hK hK1
  have hP : va_P D vwCl [(h0, .inr (7, [.int 0, .int 0, .null, .null, .null, .null, .null, .null, .null, .int 0, .null, .null, .null, .null, .null, .null, .null, .null, .null, .null, .null, .null, .null, .int 0, .null, .null, .null])), (q1, .inl (cI, 6, .inl (fun _ => 0)))] H := hP
  have hD : va_D A [(h0, .inr (7, [.int 0, .int 0, .null, .null, .null, .null, .null, .null, .null, .int 0, .null, .null, .null, .null, .null, .null, .null, .null, .null, .null, .null, .null, .null, .int 0, .null, .null, .null])), (q1, .inl (cI, 6, .inl (fun _ => 0)))] := hD
  refine W.widen (k := 1) (n := 6) (Nat.le_of_ble_eq_true rfl) (Nat.le_of_ble_eq_true rfl) ?_
  refine va_putF (D := D) (ci := 7) (v := .ref q1) (ty := (.array .int)) (C := RX7) (T := TX7) (N := 27) hx hb hts cls7.1 tyX7 tyX7_ok nmX7 hown hK hP hD hS 0 rfl rfl 2 (by decide) (hts _ g3_63) (fun _ h9 => h9) rfl hin rfl (tyX7_ok 2 (by decide)) rfl rfl (Nat.le_of_ble_eq_true rfl) dX7_init_9 (fun H locs hP hD hS => ?_)
  have hP : va_P D vwCl [(h0, .inr (7, [.int 0, .int 0, .ref q1, .null, .null, .null, .null, .null, .null, .int 0, .null, .null, .null, .null, .null, .null, .null, .null, .null, .null, .null, .null, .null, .int 0, .null, .null, .null])), (q1, .inl (cI, 6, .inl (fun _ => 0)))] H := hP
  have hD : va_D A [(h0, .inr (7, [.int 0, .int 0, .ref q1, .null, .null, .null, .null, .null, .null, .int 0, .null, .null, .null, .null, .null, .null, .null, .null, .null, .null, .null, .null, .null, .int 0, .null, .null, .null])), (q1, .inl (cI, 6, .inl (fun _ => 0)))] := hD
  refine lv_aload_n hx hb dX7_init_12 rfl (lv_at hl 0 rfl) ?_
  refine lv_bipush (v := (6 : Int32)) hx hb dX7_init_13 (by decide) ?_
  refine va_newa (atype := .int) (ty := .int) (N' := 6) (a0 := (6, .inl (fun _ => 0))) hx hb (hts _ g1_57) rfl hK hP hD hS hA (fun _ => rfl) (by decide) (by decide +kernel) (by decide) (Nat.le_of_ble_eq_true rfl) (Nat.le_of_ble_eq_true rfl) dX7_init_15 (fun q2 cA H hK1 hP hD hS => ?_)
  obtain rfl : cI = cA := ra_int hK hK1
  have hP : va_P D vwCl [(h0, .inr (7, [.int 0, .int 0, .ref q1, .null, .null, .null, .null, .null, .null, .int 0, .null, .null, .null, .null, .null, .null, .null, .null, .null, .null, .null, .null, .null, .int 0, .null, .null, .null])), (q1, .inl (cI, 6, .inl (fun _ => 0))), (q2, .inl (cI, 6, .inl (fun _ => 0)))] H := hP
  have hD : va_D A [(h0, .inr (7, [.int 0, .int 0, .ref q1, .null, .null, .null, .null, .null, .null, .int 0, .null, .null, .null, .null, .null, .null, .null, .null, .null, .null, .null, .null, .null, .int 0, .null, .null, .null])), (q1, .inl (cI, 6, .inl (fun _ => 0))), (q2, .inl (cI, 6, .inl (fun _ => 0)))] := hD
  refine W.widen (k := 2) (n := 12) (Nat.le_of_ble_eq_true rfl) (Nat.le_of_ble_eq_true rfl) ?_
  refine va_putF (D := D) (ci := 7) (v := .ref q2) (ty := (.array .int)) (C := RX7) (T := TX7) (N := 27) hx hb hts cls7.1 tyX7 tyX7_ok nmX7 hown hK hP hD hS 0 rfl rfl 3 (by decide) (hts _ g3_64) (fun _ h9 => h9) rfl hin rfl (tyX7_ok 3 (by decide)) rfl rfl (Nat.le_of_ble_eq_true rfl) dX7_init_17 (fun H locs hP hD hS => ?_)
  have hP : va_P D vwCl [(h0, .inr (7, [.int 0, .int 0, .ref q1, .ref q2, .null, .null, .null, .null, .null, .int 0, .null, .null, .null, .null, .null, .null, .null, .null, .null, .null, .null, .null, .null, .int 0, .null, .null, .null])), (q1, .inl (cI, 6, .inl (fun _ => 0))), (q2, .inl (cI, 6, .inl (fun _ => 0)))] H := hP
  have hD : va_D A [(h0, .inr (7, [.int 0, .int 0, .ref q1, .ref q2, .null, .null, .null, .null, .null, .int 0, .null, .null, .null, .null, .null, .null, .null, .null, .null, .null, .null, .null, .null, .int 0, .null, .null, .null])), (q1, .inl (cI, 6, .inl (fun _ => 0))), (q2, .inl (cI, 6, .inl (fun _ => 0)))] := hD
  refine lv_aload_n hx hb dX7_init_20 rfl (lv_at hl 0 rfl) ?_
  refine lv_bipush (v := (6 : Int32)) hx hb dX7_init_21 (by decide) ?_
  refine va_newa (atype := .int) (ty := .int) (N' := 6) (a0 := (6, .inl (fun _ => 0))) hx hb (hts _ g1_57) rfl hK hP hD hS hA (fun _ => rfl) (by decide) (by decide +kernel) (by decide) (Nat.le_of_ble_eq_true rfl) (Nat.le_of_ble_eq_true rfl) dX7_init_23 (fun q3 cA H hK1 hP hD hS => ?_)
  obtain rfl : cI = cA := ra_int hK hK1
  have hP : va_P D vwCl [(h0, .inr (7, [.int 0, .int 0, .ref q1, .ref q2, .null, .null, .null, .null, .null, .int 0, .null, .null, .null, .null, .null, .null, .null, .null, .null, .null, .null, .null, .null, .int 0, .null, .null, .null])), (q1, .inl (cI, 6, .inl (fun _ => 0))), (q2, .inl (cI, 6, .inl (fun _ => 0))), (q3, .inl (cI, 6, .inl (fun _ => 0)))] H := hP
  have hD : va_D A [(h0, .inr (7, [.int 0, .int 0, .ref q1, .ref q2, .null, .null, .null, .null, .null, .int 0, .null, .null, .null, .null, .null, .null, .null, .null, .null, .null, .null, .null, .null, .int 0, .null, .null, .null])), (q1, .inl (cI, 6, .inl (fun _ => 0))), (q2, .inl (cI, 6, .inl (fun _ => 0))), (q3, .inl (cI, 6, .inl (fun _ => 0)))] := hD
  refine W.widen (k := 3) (n := 18) (Nat.le_of_ble_eq_true rfl) (Nat.le_of_ble_eq_true rfl) ?_
  refine va_putF (D := D) (ci := 7) (v := .ref q3) (ty := (.array .int)) (C := RX7) (T := TX7) (N := 27) hx hb hts cls7.1 tyX7 tyX7_ok nmX7 hown hK hP hD hS 0 rfl rfl 4 (by decide) (hts _ g3_65) (fun _ h9 => h9) rfl hin rfl (tyX7_ok 4 (by decide)) rfl rfl (Nat.le_of_ble_eq_true rfl) dX7_init_25 (fun H locs hP hD hS => ?_)
  have hP : va_P D vwCl [(h0, .inr (7, [.int 0, .int 0, .ref q1, .ref q2, .ref q3, .null, .null, .null, .null, .int 0, .null, .null, .null, .null, .null, .null, .null, .null, .null, .null, .null, .null, .null, .int 0, .null, .null, .null])), (q1, .inl (cI, 6, .inl (fun _ => 0))), (q2, .inl (cI, 6, .inl (fun _ => 0))), (q3, .inl (cI, 6, .inl (fun _ => 0)))] H := hP
  have hD : va_D A [(h0, .inr (7, [.int 0, .int 0, .ref q1, .ref q2, .ref q3, .null, .null, .null, .null, .int 0, .null, .null, .null, .null, .null, .null, .null, .null, .null, .null, .null, .null, .null, .int 0, .null, .null, .null])), (q1, .inl (cI, 6, .inl (fun _ => 0))), (q2, .inl (cI, 6, .inl (fun _ => 0))), (q3, .inl (cI, 6, .inl (fun _ => 0)))] := hD
  refine lv_aload_n hx hb dX7_init_28 rfl (lv_at hl 0 rfl) ?_
  refine lv_bipush (v := (6 : Int32)) hx hb dX7_init_29 (by decide) ?_
  refine va_newa (atype := .int) (ty := .int) (N' := 6) (a0 := (6, .inl (fun _ => 0))) hx hb (hts _ g1_57) rfl hK hP hD hS hA (fun _ => rfl) (by decide) (by decide +kernel) (by decide) (Nat.le_of_ble_eq_true rfl) (Nat.le_of_ble_eq_true rfl) dX7_init_31 (fun q4 cA H hK1 hP hD hS => ?_)
  obtain rfl : cI = cA := ra_int hK hK1
  have hP : va_P D vwCl [(h0, .inr (7, [.int 0, .int 0, .ref q1, .ref q2, .ref q3, .null, .null, .null, .null, .int 0, .null, .null, .null, .null, .null, .null, .null, .null, .null, .null, .null, .null, .null, .int 0, .null, .null, .null])), (q1, .inl (cI, 6, .inl (fun _ => 0))), (q2, .inl (cI, 6, .inl (fun _ => 0))), (q3, .inl (cI, 6, .inl (fun _ => 0))), (q4, .inl (cI, 6, .inl (fun _ => 0)))] H := hP
  have hD : va_D A [(h0, .inr (7, [.int 0, .int 0, .ref q1, .ref q2, .ref q3, .null, .null, .null, .null, .int 0, .null, .null, .null, .null, .null, .null, .null, .null, .null, .null, .null, .null, .null, .int 0, .null, .null, .null])), (q1, .inl (cI, 6, .inl (fun _ => 0))), (q2, .inl (cI, 6, .inl (fun _ => 0))), (q3, .inl (cI, 6, .inl (fun _ => 0))), (q4, .inl (cI, 6, .inl (fun _ => 0)))] := hD
  refine W.widen (k := 4) (n := 24) (Nat.le_of_ble_eq_true rfl) (Nat.le_of_ble_eq_true rfl) ?_
  refine va_putF (D := D) (ci := 7) (v := .ref q4) (ty := (.array .int)) (C := RX7) (T := TX7) (N := 27) hx hb hts cls7.1 tyX7 tyX7_ok nmX7 hown hK hP hD hS 0 rfl rfl 5 (by decide) (hts _ g3_66) (fun _ h9 => h9) rfl hin rfl (tyX7_ok 5 (by decide)) rfl rfl (Nat.le_of_ble_eq_true rfl) dX7_init_33 (fun H locs hP hD hS => ?_)
  have hP : va_P D vwCl [(h0, .inr (7, [.int 0, .int 0, .ref q1, .ref q2, .ref q3, .ref q4, .null, .null, .null, .int 0, .null, .null, .null, .null, .null, .null, .null, .null, .null, .null, .null, .null, .null, .int 0, .null, .null, .null])), (q1, .inl (cI, 6, .inl (fun _ => 0))), (q2, .inl (cI, 6, .inl (fun _ => 0))), (q3, .inl (cI, 6, .inl (fun _ => 0))), (q4, .inl (cI, 6, .inl (fun _ => 0)))] H := hP
  have hD : va_D A [(h0, .inr (7, [.int 0, .int 0, .ref q1, .ref q2, .ref q3, .ref q4, .null, .null, .null, .int 0, .null, .null, .null, .null, .null, .null, .null, .null, .null, .null, .null, .null, .null, .int 0, .null, .null, .null])), (q1, .inl (cI, 6, .inl (fun _ => 0))), (q2, .inl (cI, 6, .inl (fun _ => 0))), (q3, .inl (cI, 6, .inl (fun _ => 0))), (q4, .inl (cI, 6, .inl (fun _ => 0)))] := hD
  refine lv_aload_n hx hb dX7_init_36 rfl (lv_at hl 0 rfl) ?_
  refine lv_bipush (v := (48 : Int32)) hx hb dX7_init_37 (by decide) ?_
  refine va_newa (atype := .int) (ty := .int) (N' := 48) (a0 := (48, .inl (fun _ => 0))) hx hb (hts _ g1_57) rfl hK hP hD hS hA (fun _ => rfl) (by decide) (by decide +kernel) (by decide) (Nat.le_of_ble_eq_true rfl) (Nat.le_of_ble_eq_true rfl) dX7_init_39 (fun q5 cA H hK1 hP hD hS => ?_)
  obtain rfl : cI = cA := ra_int hK hK1
  have hP : va_P D vwCl [(h0, .inr (7, [.int 0, .int 0, .ref q1, .ref q2, .ref q3, .ref q4, .null, .null, .null, .int 0, .null, .null, .null, .null, .null, .null, .null, .null, .null, .null, .null, .null, .null, .int 0, .null, .null, .null])), (q1, .inl (cI, 6, .inl (fun _ => 0))), (q2, .inl (cI, 6, .inl (fun _ => 0))), (q3, .inl (cI, 6, .inl (fun _ => 0))), (q4, .inl (cI, 6, .inl (fun _ => 0))), (q5, .inl (cI, 48, .inl (fun _ => 0)))] H := hP
  have hD : va_D A [(h0, .inr (7, [.int 0, .int 0, .ref q1, .ref q2, .ref q3, .ref q4, .null, .null, .null, .int 0, .null, .null, .null, .null, .null, .null, .null, .null, .null, .null, .null, .null, .null, .int 0, .null, .null, .null])), (q1, .inl (cI, 6, .inl (fun _ => 0))), (q2, .inl (cI, 6, .inl (fun _ => 0))), (q3, .inl (cI, 6, .inl (fun _ => 0))), (q4, .inl (cI, 6, .inl (fun _ => 0))), (q5, .inl (cI, 48, .inl (fun _ => 0)))] := hD
  refine W.widen (k := 5) (n := 72) (Nat.le_of_ble_eq_true rfl) (Nat.le_of_ble_eq_true rfl) ?_
  refine va_putF (D := D) (ci := 7) (v := .ref q5) (ty := (.array .int)) (C := RX7) (T := TX7) (N := 27) hx hb hts cls7.1 tyX7 tyX7_ok nmX7 hown hK hP hD hS 0 rfl rfl 6 (by decide) (hts _ g3_67) (fun _ h9 => h9) rfl hin rfl (tyX7_ok 6 (by decide)) rfl rfl (Nat.le_of_ble_eq_true rfl) dX7_init_41 (fun H locs hP hD hS => ?_)
  have hP : va_P D vwCl [(h0, .inr (7, [.int 0, .int 0, .ref q1, .ref q2, .ref q3, .ref q4, .ref q5, .null, .null, .int 0, .null, .null, .null, .null, .null, .null, .null, .null, .null, .null, .null, .null, .null, .int 0, .null, .null, .null])), (q1, .inl (cI, 6, .inl (fun _ => 0))), (q2, .inl (cI, 6, .inl (fun _ => 0))), (q3, .inl (cI, 6, .inl (fun _ => 0))), (q4, .inl (cI, 6, .inl (fun _ => 0))), (q5, .inl (cI, 48, .inl (fun _ => 0)))] H := hP
  have hD : va_D A [(h0, .inr (7, [.int 0, .int 0, .ref q1, .ref q2, .ref q3, .ref q4, .ref q5, .null, .null, .int 0, .null, .null, .null, .null, .null, .null, .null, .null, .null, .null, .null, .null, .null, .int 0, .null, .null, .null])), (q1, .inl (cI, 6, .inl (fun _ => 0))), (q2, .inl (cI, 6, .inl (fun _ => 0))), (q3, .inl (cI, 6, .inl (fun _ => 0))), (q4, .inl (cI, 6, .inl (fun _ => 0))), (q5, .inl (cI, 48, .inl (fun _ => 0)))] := hD
  refine lv_aload_n hx hb dX7_init_44 rfl (lv_at hl 0 rfl) ?_
  refine lv_bipush (v := (48 : Int32)) hx hb dX7_init_45 (by decide) ?_
  refine va_newa (atype := .int) (ty := .int) (N' := 48) (a0 := (48, .inl (fun _ => 0))) hx hb (hts _ g1_57) rfl hK hP hD hS hA (fun _ => rfl) (by decide) (by decide +kernel) (by decide) (Nat.le_of_ble_eq_true rfl) (Nat.le_of_ble_eq_true rfl) dX7_init_47 (fun q6 cA H hK1 hP hD hS => ?_)
  obtain rfl : cI = cA := ra_int hK hK1
  have hP : va_P D vwCl [(h0, .inr (7, [.int 0, .int 0, .ref q1, .ref q2, .ref q3, .ref q4, .ref q5, .null, .null, .int 0, .null, .null, .null, .null, .null, .null, .null, .null, .null, .null, .null, .null, .null, .int 0, .null, .null, .null])), (q1, .inl (cI, 6, .inl (fun _ => 0))), (q2, .inl (cI, 6, .inl (fun _ => 0))), (q3, .inl (cI, 6, .inl (fun _ => 0))), (q4, .inl (cI, 6, .inl (fun _ => 0))), (q5, .inl (cI, 48, .inl (fun _ => 0))), (q6, .inl (cI, 48, .inl (fun _ => 0)))] H := hP
  have hD : va_D A [(h0, .inr (7, [.int 0, .int 0, .ref q1, .ref q2, .ref q3, .ref q4, .ref q5, .null, .null, .int 0, .null, .null, .null, .null, .null, .null, .null, .null, .null, .null, .null, .null, .null, .int 0, .null, .null, .null])), (q1, .inl (cI, 6, .inl (fun _ => 0))), (q2, .inl (cI, 6, .inl (fun _ => 0))), (q3, .inl (cI, 6, .inl (fun _ => 0))), (q4, .inl (cI, 6, .inl (fun _ => 0))), (q5, .inl (cI, 48, .inl (fun _ => 0))), (q6, .inl (cI, 48, .inl (fun _ => 0)))] := hD
  refine W.widen (k := 6) (n := 120) (Nat.le_of_ble_eq_true rfl) (Nat.le_of_ble_eq_true rfl) ?_
  refine va_putF (D := D) (ci := 7) (v := .ref q6) (ty := (.array .int)) (C := RX7) (T := TX7) (N := 27) hx hb hts cls7.1 tyX7 tyX7_ok nmX7 hown hK hP hD hS 0 rfl rfl 7 (by decide) (hts _ g3_68) (fun _ h9 => h9) rfl hin rfl (tyX7_ok 7 (by decide)) rfl rfl (Nat.le_of_ble_eq_true rfl) dX7_init_49 (fun H locs hP hD hS => ?_)
  have hP : va_P D vwCl [(h0, .inr (7, [.int 0, .int 0, .ref q1, .ref q2, .ref q3, .ref q4, .ref q5, .ref q6, .null, .int 0, .null, .null, .null, .null, .null, .null, .null, .null, .null, .null, .null, .null, .null, .int 0, .null, .null, .null])), (q1, .inl (cI, 6, .inl (fun _ => 0))), (q2, .inl (cI, 6, .inl (fun _ => 0))), (q3, .inl (cI, 6, .inl (fun _ => 0))), (q4, .inl (cI, 6, .inl (fun _ => 0))), (q5, .inl (cI, 48, .inl (fun _ => 0))), (q6, .inl (cI, 48, .inl (fun _ => 0)))] H := hP
  have hD : va_D A [(h0, .inr (7, [.int 0, .int 0, .ref q1, .ref q2, .ref q3, .ref q4, .ref q5, .ref q6, .null, .int 0, .null, .null, .null, .null, .null, .null, .null, .null, .null, .null, .null, .null, .null, .int 0, .null, .null, .null])), (q1, .inl (cI, 6, .inl (fun _ => 0))), (q2, .inl (cI, 6, .inl (fun _ => 0))), (q3, .inl (cI, 6, .inl (fun _ => 0))), (q4, .inl (cI, 6, .inl (fun _ => 0))), (q5, .inl (cI, 48, .inl (fun _ => 0))), (q6, .inl (cI, 48, .inl (fun _ => 0)))] := hD
  refine lv_aload_n hx hb dX7_init_52 rfl (lv_at hl 0 rfl) ?_
  refine lv_bipush (v := (48 : Int32)) hx hb dX7_init_53 (by decide) ?_
  refine va_newa (atype := .int) (ty := .int) (N' := 48) (a0 := (48, .inl (fun _ => 0))) hx hb (hts _ g1_57) rfl hK hP hD hS hA (fun _ => rfl) (by decide) (by decide +kernel) (by decide) (Nat.le_of_ble_eq_true rfl) (Nat.le_of_ble_eq_true rfl) dX7_init_55 (fun q7 cA H hK1 hP hD hS => ?_)
  obtain rfl : cI = cA := ra_int hK hK1
  have hP : va_P D vwCl [(h0, .inr (7, [.int 0, .int 0, .ref q1, .ref q2, .ref q3, .ref q4, .ref q5, .ref q6, .null, .int 0, .null, .null, .null, .null, .null, .null, .null, .null, .null, .null, .null, .null, .null, .int 0, .null, .null, .null])), (q1, .inl (cI, 6, .inl (fun _ => 0))), (q2, .inl (cI, 6, .inl (fun _ => 0))), (q3, .inl (cI, 6, .inl (fun _ => 0))), (q4, .inl (cI, 6, .inl (fun _ => 0))), (q5, .inl (cI, 48, .inl (fun _ => 0))), (q6, .inl (cI, 48, .inl (fun _ => 0))), (q7, .inl (cI, 48, .inl (fun _ => 0)))] H := hP
  have hD : va_D A [(h0, .inr (7, [.int 0, .int 0, .ref q1, .ref q2, .ref q3, .ref q4, .ref q5, .ref q6, .null, .int 0, .null, .null, .null, .null, .null, .null, .null, .null, .null, .null, .null, .null, .null, .int 0, .null, .null, .null])), (q1, .inl (cI, 6, .inl (fun _ => 0))), (q2, .inl (cI, 6, .inl (fun _ => 0))), (q3, .inl (cI, 6, .inl (fun _ => 0))), (q4, .inl (cI, 6, .inl (fun _ => 0))), (q5, .inl (cI, 48, .inl (fun _ => 0))), (q6, .inl (cI, 48, .inl (fun _ => 0))), (q7, .inl (cI, 48, .inl (fun _ => 0)))] := hD
  refine W.widen (k := 7) (n := 168) (Nat.le_of_ble_eq_true rfl) (Nat.le_of_ble_eq_true rfl) ?_
  refine va_putF (D := D) (ci := 7) (v := .ref q7) (ty := (.array .int)) (C := RX7) (T := TX7) (N := 27) hx hb hts cls7.1 tyX7 tyX7_ok nmX7 hown hK hP hD hS 0 rfl rfl 8 (by decide) (hts _ g3_69) (fun _ h9 => h9) rfl hin rfl (tyX7_ok 8 (by decide)) rfl rfl (Nat.le_of_ble_eq_true rfl) dX7_init_57 (fun H locs hP hD hS => ?_)
  have hP : va_P D vwCl [(h0, .inr (7, [.int 0, .int 0, .ref q1, .ref q2, .ref q3, .ref q4, .ref q5, .ref q6, .ref q7, .int 0, .null, .null, .null, .null, .null, .null, .null, .null, .null, .null, .null, .null, .null, .int 0, .null, .null, .null])), (q1, .inl (cI, 6, .inl (fun _ => 0))), (q2, .inl (cI, 6, .inl (fun _ => 0))), (q3, .inl (cI, 6, .inl (fun _ => 0))), (q4, .inl (cI, 6, .inl (fun _ => 0))), (q5, .inl (cI, 48, .inl (fun _ => 0))), (q6, .inl (cI, 48, .inl (fun _ => 0))), (q7, .inl (cI, 48, .inl (fun _ => 0)))] H := hP
  have hD : va_D A [(h0, .inr (7, [.int 0, .int 0, .ref q1, .ref q2, .ref q3, .ref q4, .ref q5, .ref q6, .ref q7, .int 0, .null, .null, .null, .null, .null, .null, .null, .null, .null, .null, .null, .null, .null, .int 0, .null, .null, .null])), (q1, .inl (cI, 6, .inl (fun _ => 0))), (q2, .inl (cI, 6, .inl (fun _ => 0))), (q3, .inl (cI, 6, .inl (fun _ => 0))), (q4, .inl (cI, 6, .inl (fun _ => 0))), (q5, .inl (cI, 48, .inl (fun _ => 0))), (q6, .inl (cI, 48, .inl (fun _ => 0))), (q7, .inl (cI, 48, .inl (fun _ => 0)))] := hD
  refine lv_aload_n hx hb dX7_init_60 rfl (lv_at hl 0 rfl) ?_
  refine lv_bipush (v := (60 : Int32)) hx hb dX7_init_61 (by decide) ?_
  refine va_newa (atype := .int) (ty := .int) (N' := 60) (a0 := (60, .inl (fun _ => 0))) hx hb (hts _ g1_57) rfl hK hP hD hS hA (fun _ => rfl) (by decide) (by decide +kernel) (by decide) (Nat.le_of_ble_eq_true rfl) (Nat.le_of_ble_eq_true rfl) dX7_init_63 (fun q8 cA H hK1 hP hD hS => ?_)
  obtain rfl : cI = cA := ra_int hK hK1
  have hP : va_P D vwCl [(h0, .inr (7, [.int 0, .int 0, .ref q1, .ref q2, .ref q3, .ref q4, .ref q5, .ref q6, .ref q7, .int 0, .null, .null, .null, .null, .null, .null, .null, .null, .null, .null, .null, .null, .null, .int 0, .null, .null, .null])), (q1, .inl (cI, 6, .inl (fun _ => 0))), (q2, .inl (cI, 6, .inl (fun _ => 0))), (q3, .inl (cI, 6, .inl (fun _ => 0))), (q4, .inl (cI, 6, .inl (fun _ => 0))), (q5, .inl (cI, 48, .inl (fun _ => 0))), (q6, .inl (cI, 48, .inl (fun _ => 0))), (q7, .inl (cI, 48, .inl (fun _ => 0))), (q8, .inl (cI, 60, .inl (fun _ => 0)))] H := hP
  have hD : va_D A [(h0, .inr (7, [.int 0, .int 0, .ref q1, .ref q2, .ref q3, .ref q4, .ref q5, .ref q6, .ref q7, .int 0, .null, .null, .null, .null, .null, .null, .null, .null, .null, .null, .null, .null, .null, .int 0, .null, .null, .null])), (q1, .inl (cI, 6, .inl (fun _ => 0))), (q2, .inl (cI, 6, .inl (fun _ => 0))), (q3, .inl (cI, 6, .inl (fun _ => 0))), (q4, .inl (cI, 6, .inl (fun _ => 0))), (q5, .inl (cI, 48, .inl (fun _ => 0))), (q6, .inl (cI, 48, .inl (fun _ => 0))), (q7, .inl (cI, 48, .inl (fun _ => 0))), (q8, .inl (cI, 60, .inl (fun _ => 0)))] := hD
  refine W.widen (k := 8) (n := 228) (Nat.le_of_ble_eq_true rfl) (Nat.le_of_ble_eq_true rfl) ?_
  refine va_putF (D := D) (ci := 7) (v := .ref q8) (ty := (.array .int)) (C := RX7) (T := TX7) (N := 27) hx hb hts cls7.1 tyX7 tyX7_ok nmX7 hown hK hP hD hS 0 rfl rfl 10 (by decide) (hts _ g3_71) (fun _ h9 => h9) rfl hin rfl (tyX7_ok 10 (by decide)) rfl rfl (Nat.le_of_ble_eq_true rfl) dX7_init_65 (fun H locs hP hD hS => ?_)
  have hP : va_P D vwCl [(h0, .inr (7, [.int 0, .int 0, .ref q1, .ref q2, .ref q3, .ref q4, .ref q5, .ref q6, .ref q7, .int 0, .ref q8, .null, .null, .null, .null, .null, .null, .null, .null, .null, .null, .null, .null, .int 0, .null, .null, .null])), (q1, .inl (cI, 6, .inl (fun _ => 0))), (q2, .inl (cI, 6, .inl (fun _ => 0))), (q3, .inl (cI, 6, .inl (fun _ => 0))), (q4, .inl (cI, 6, .inl (fun _ => 0))), (q5, .inl (cI, 48, .inl (fun _ => 0))), (q6, .inl (cI, 48, .inl (fun _ => 0))), (q7, .inl (cI, 48, .inl (fun _ => 0))), (q8, .inl (cI, 60, .inl (fun _ => 0)))] H := hP
  have hD : va_D A [(h0, .inr (7, [.int 0, .int 0, .ref q1, .ref q2, .ref q3, .ref q4, .ref q5, .ref q6, .ref q7, .int 0, .ref q8, .null, .null, .null, .null, .null, .null, .null, .null, .null, .null, .null, .null, .int 0, .null, .null, .null])), (q1, .inl (cI, 6, .inl (fun _ => 0))), (q2, .inl (cI, 6, .inl (fun _ => 0))), (q3, .inl (cI, 6, .inl (fun _ => 0))), (q4, .inl (cI, 6, .inl (fun _ => 0))), (q5, .inl (cI, 48, .inl (fun _ => 0))), (q6, .inl (cI, 48, .inl (fun _ => 0))), (q7, .inl (cI, 48, .inl (fun _ => 0))), (q8, .inl (cI, 60, .inl (fun _ => 0)))] := hD
  refine lv_aload_n hx hb dX7_init_68 rfl (lv_at hl 0 rfl) ?_
  refine lv_bipush (v := (60 : Int32)) hx hb dX7_init_69 (by decide) ?_
  refine va_newa (atype := .int) (ty := .int) (N' := 60) (a0 := (60, .inl (fun _ => 0))) hx hb (hts _ g1_57) rfl hK hP hD hS hA (fun _ => rfl) (by decide) (by decide +kernel) (by decide) (Nat.le_of_ble_eq_true rfl) (Nat.le_of_ble_eq_true rfl) dX7_init_71 (fun q9 cA H hK1 hP hD hS => ?_)
  obtain rfl : cI = cA := ra_int hK hK1
  have hP : va_P D vwCl [(h0, .inr (7, [.int 0, .int 0, .ref q1, .ref q2, .ref q3, .ref q4, .ref q5, .ref q6, .ref q7, .int 0, .ref q8, .null, .null, .null, .null, .null, .null, .null, .null, .null, .null, .null, .null, .int 0, .null, .null, .null])), (q1, .inl (cI, 6, .inl (fun _ => 0))), (q2, .inl (cI, 6, .inl (fun _ => 0))), (q3, .inl (cI, 6, .inl (fun _ => 0))), (q4, .inl (cI, 6, .inl (fun _ => 0))), (q5, .inl (cI, 48, .inl (fun _ => 0))), (q6, .inl (cI, 48, .inl (fun _ => 0))), (q7, .inl (cI, 48, .inl (fun _ => 0))), (q8, .inl (cI, 60, .inl (fun _ => 0))), (q9, .inl (cI, 60, .inl (fun _ => 0)))] H := hP
  have hD : va_D A [(h0, .inr (7, [.int 0, .int 0, .ref q1, .ref q2, .ref q3, .ref q4, .ref q5, .ref q6, .ref q7, .int 0, .ref q8, .null, .null, .null, .null, .null, .null, .null, .null, .null, .null, .null, .null, .int 0, .null, .null, .null])), (q1, .inl (cI, 6, .inl (fun _ => 0))), (q2, .inl (cI, 6, .inl (fun _ => 0))), (q3, .inl (cI, 6, .inl (fun _ => 0))), (q4, .inl (cI, 6, .inl (fun _ => 0))), (q5, .inl (cI, 48, .inl (fun _ => 0))), (q6, .inl (cI, 48, .inl (fun _ => 0))), (q7, .inl (cI, 48, .inl (fun _ => 0))), (q8, .inl (cI, 60, .inl (fun _ => 0))), (q9, .inl (cI, 60, .inl (fun _ => 0)))] := hD
  refine W.widen (k := 9) (n := 288) (Nat.le_of_ble_eq_true rfl) (Nat.le_of_ble_eq_true rfl) ?_
  refine va_putF (D := D) (ci := 7) (v := .ref q9) (ty := (.array .int)) (C := RX7) (T := TX7) (N := 27) hx hb hts cls7.1 tyX7 tyX7_ok nmX7 hown hK hP hD hS 0 rfl rfl 11 (by decide) (hts _ g3_72) (fun _ h9 => h9) rfl hin rfl (tyX7_ok 11 (by decide)) rfl rfl (Nat.le_of_ble_eq_true rfl) dX7_init_73 (fun H locs hP hD hS => ?_)
  have hP : va_P D vwCl [(h0, .inr (7, [.int 0, .int 0, .ref q1, .ref q2, .ref q3, .ref q4, .ref q5, .ref q6, .ref q7, .int 0, .ref q8, .ref q9, .null, .null, .null, .null, .null, .null, .null, .null, .null, .null, .null, .int 0, .null, .null, .null])), (q1, .inl (cI, 6, .inl (fun _ => 0))), (q2, .inl (cI, 6, .inl (fun _ => 0))), (q3, .inl (cI, 6, .inl (fun _ => 0))), (q4, .inl (cI, 6, .inl (fun _ => 0))), (q5, .inl (cI, 48, .inl (fun _ => 0))), (q6, .inl (cI, 48, .inl (fun _ => 0))), (q7, .inl (cI, 48, .inl (fun _ => 0))), (q8, .inl (cI, 60, .inl (fun _ => 0))), (q9, .inl (cI, 60, .inl (fun _ => 0)))] H := hP
  have hD : va_D A [(h0, .inr (7, [.int 0, .int 0, .ref q1, .ref q2, .ref q3, .ref q4, .ref q5, .ref q6, .ref q7, .int 0, .ref q8, .ref q9, .null, .null, .null, .null, .null, .null, .null, .null, .null, .null, .null, .int 0, .null, .null, .null])), (q1, .inl (cI, 6, .inl (fun _ => 0))), (q2, .inl (cI, 6, .inl (fun _ => 0))), (q3, .inl (cI, 6, .inl (fun _ => 0))), (q4, .inl (cI, 6, .inl (fun _ => 0))), (q5, .inl (cI, 48, .inl (fun _ => 0))), (q6, .inl (cI, 48, .inl (fun _ => 0))), (q7, .inl (cI, 48, .inl (fun _ => 0))), (q8, .inl (cI, 60, .inl (fun _ => 0))), (q9, .inl (cI, 60, .inl (fun _ => 0)))] := hD
  refine lv_aload_n hx hb dX7_init_76 rfl (lv_at hl 0 rfl) ?_
  refine lv_bipush (v := (60 : Int32)) hx hb dX7_init_77 (by decide) ?_
  refine va_newa (atype := .int) (ty := .int) (N' := 60) (a0 := (60, .inl (fun _ => 0))) hx hb (hts _ g1_57) rfl hK hP hD hS hA (fun _ => rfl) (by decide) (by decide +kernel) (by decide) (Nat.le_of_ble_eq_true rfl) (Nat.le_of_ble_eq_true rfl) dX7_init_79 (fun q10 cA H hK1 hP hD hS => ?_)
  obtain rfl : cI = cA := ra_int hK hK1
  have hP : va_P D vwCl [(h0, .inr (7, [.int 0, .int 0, .ref q1, .ref q2, .ref q3, .ref q4, .ref q5, .ref q6, .ref q7, .int 0, .ref q8, .ref q9, .null, .null, .null, .null, .null, .null, .null, .null, .null, .null, .null, .int 0, .null, .null, .null])), (q1, .inl (cI, 6, .inl (fun _ => 0))), (q2, .inl (cI, 6, .inl (fun _ => 0))), (q3, .inl (cI, 6, .inl (fun _ => 0))), (q4, .inl (cI, 6, .inl (fun _ => 0))), (q5, .inl (cI, 48, .inl (fun _ => 0))), (q6, .inl (cI, 48, .inl (fun _ => 0))), (q7, .inl (cI, 48, .inl (fun _ => 0))), (q8, .inl (cI, 60, .inl (fun _ => 0))), (q9, .inl (cI, 60, .inl (fun _ => 0))), (q10, .inl (cI, 60, .inl (fun _ => 0)))] H := hP
  have hD : va_D A [(h0, .inr (7, [.int 0, .int 0, .ref q1, .ref q2, .ref q3, .ref q4, .ref q5, .ref q6, .ref q7, .int 0, .ref q8, .ref q9, .null, .null, .null, .null, .null, .null, .null, .null, .null, .null, .null, .int 0, .null, .null, .null])), (q1, .inl (cI, 6, .inl (fun _ => 0))), (q2, .inl (cI, 6, .inl (fun _ => 0))), (q3, .inl (cI, 6, .inl (fun _ => 0))), (q4, .inl (cI, 6, .inl (fun _ => 0))), (q5, .inl (cI, 48, .inl (fun _ => 0))), (q6, .inl (cI, 48, .inl (fun _ => 0))), (q7, .inl (cI, 48, .inl (fun _ => 0))), (q8, .inl (cI, 60, .inl (fun _ => 0))), (q9, .inl (cI, 60, .inl (fun _ => 0))), (q10, .inl (cI, 60, .inl (fun _ => 0)))] := hD
  refine W.widen (k := 10) (n := 348) (Nat.le_of_ble_eq_true rfl) (Nat.le_of_ble_eq_true rfl) ?_
  refine va_putF (D := D) (ci := 7) (v := .ref q10) (ty := (.array .int)) (C := RX7) (T := TX7) (N := 27) hx hb hts cls7.1 tyX7 tyX7_ok nmX7 hown hK hP hD hS 0 rfl rfl 12 (by decide) (hts _ g3_73) (fun _ h9 => h9) rfl hin rfl (tyX7_ok 12 (by decide)) rfl rfl (Nat.le_of_ble_eq_true rfl) dX7_init_81 (fun H locs hP hD hS => ?_)
  have hP : va_P D vwCl [(h0, .inr (7, [.int 0, .int 0, .ref q1, .ref q2, .ref q3, .ref q4, .ref q5, .ref q6, .ref q7, .int 0, .ref q8, .ref q9, .ref q10, .null, .null, .null, .null, .null, .null, .null, .null, .null, .null, .int 0, .null, .null, .null])), (q1, .inl (cI, 6, .inl (fun _ => 0))), (q2, .inl (cI, 6, .inl (fun _ => 0))), (q3, .inl (cI, 6, .inl (fun _ => 0))), (q4, .inl (cI, 6, .inl (fun _ => 0))), (q5, .inl (cI, 48, .inl (fun _ => 0))), (q6, .inl (cI, 48, .inl (fun _ => 0))), (q7, .inl (cI, 48, .inl (fun _ => 0))), (q8, .inl (cI, 60, .inl (fun _ => 0))), (q9, .inl (cI, 60, .inl (fun _ => 0))), (q10, .inl (cI, 60, .inl (fun _ => 0)))] H := hP
  have hD : va_D A [(h0, .inr (7, [.int 0, .int 0, .ref q1, .ref q2, .ref q3, .ref q4, .ref q5, .ref q6, .ref q7, .int 0, .ref q8, .ref q9, .ref q10, .null, .null, .null, .null, .null, .null, .null, .null, .null, .null, .int 0, .null, .null, .null])), (q1, .inl (cI, 6, .inl (fun _ => 0))), (q2, .inl (cI, 6, .inl (fun _ => 0))), (q3, .inl (cI, 6, .inl (fun _ => 0))), (q4, .inl (cI, 6, .inl (fun _ => 0))), (q5, .inl (cI, 48, .inl (fun _ => 0))), (q6, .inl (cI, 48, .inl (fun _ => 0))), (q7, .inl (cI, 48, .inl (fun _ => 0))), (q8, .inl (cI, 60, .inl (fun _ => 0))), (q9, .inl (cI, 60, .inl (fun _ => 0))), (q10, .inl (cI, 60, .inl (fun _ => 0)))] := hD
  refine lv_aload_n hx hb dX7_init_84 rfl (lv_at hl 0 rfl) ?_
  refine lv_bipush (v := (60 : Int32)) hx hb dX7_init_85 (by decide) ?_
  refine va_newa (atype := .int) (ty := .int) (N' := 60) (a0 := (60, .inl (fun _ => 0))) hx hb (hts _ g1_57) rfl hK hP hD hS hA (fun _ => rfl) (by decide) (by decide +kernel) (by decide) (Nat.le_of_ble_eq_true rfl) (Nat.le_of_ble_eq_true rfl) dX7_init_87 (fun q11 cA H hK1 hP hD hS => ?_)
  obtain rfl : cI = cA := ra_int hK hK1
  have hP : va_P D vwCl [(h0, .inr (7, [.int 0, .int 0, .ref q1, .ref q2, .ref q3, .ref q4, .ref q5, .ref q6, .ref q7, .int 0, .ref q8, .ref q9, .ref q10, .null, .null, .null, .null, .null, .null, .null, .null, .null, .null, .int 0, .null, .null, .null])), (q1, .inl (cI, 6, .inl (fun _ => 0))), (q2, .inl (cI, 6, .inl (fun _ => 0))), (q3, .inl (cI, 6, .inl (fun _ => 0))), (q4, .inl (cI, 6, .inl (fun _ => 0))), (q5, .inl (cI, 48, .inl (fun _ => 0))), (q6, .inl (cI, 48, .inl (fun _ => 0))), (q7, .inl (cI, 48, .inl (fun _ => 0))), (q8, .inl (cI, 60, .inl (fun _ => 0))), (q9, .inl (cI, 60, .inl (fun _ => 0))), (q10, .inl (cI, 60, .inl (fun _ => 0))), (q11, .inl (cI, 60, .inl (fun _ => 0)))] H := hP
  have hD : va_D A [(h0, .inr (7, [.int 0, .int 0, .ref q1, .ref q2, .ref q3, .ref q4, .ref q5, .ref q6, .ref q7, .int 0, .ref q8, .ref q9, .ref q10, .null, .null, .null, .null, .null, .null, .null, .null, .null, .null, .int 0, .null, .null, .null])), (q1, .inl (cI, 6, .inl (fun _ => 0))), (q2, .inl (cI, 6, .inl (fun _ => 0))), (q3, .inl (cI, 6, .inl (fun _ => 0))), (q4, .inl (cI, 6, .inl (fun _ => 0))), (q5, .inl (cI, 48, .inl (fun _ => 0))), (q6, .inl (cI, 48, .inl (fun _ => 0))), (q7, .inl (cI, 48, .inl (fun _ => 0))), (q8, .inl (cI, 60, .inl (fun _ => 0))), (q9, .inl (cI, 60, .inl (fun _ => 0))), (q10, .inl (cI, 60, .inl (fun _ => 0))), (q11, .inl (cI, 60, .inl (fun _ => 0)))] := hD
  refine W.widen (k := 11) (n := 408) (Nat.le_of_ble_eq_true rfl) (Nat.le_of_ble_eq_true rfl) ?_
  refine va_putF (D := D) (ci := 7) (v := .ref q11) (ty := (.array .int)) (C := RX7) (T := TX7) (N := 27) hx hb hts cls7.1 tyX7 tyX7_ok nmX7 hown hK hP hD hS 0 rfl rfl 13 (by decide) (hts _ g3_74) (fun _ h9 => h9) rfl hin rfl (tyX7_ok 13 (by decide)) rfl rfl (Nat.le_of_ble_eq_true rfl) dX7_init_89 (fun H locs hP hD hS => ?_)
  have hP : va_P D vwCl [(h0, .inr (7, [.int 0, .int 0, .ref q1, .ref q2, .ref q3, .ref q4, .ref q5, .ref q6, .ref q7, .int 0, .ref q8, .ref q9, .ref q10, .ref q11, .null, .null, .null, .null, .null, .null, .null, .null, .null, .int 0, .null, .null, .null])), (q1, .inl (cI, 6, .inl (fun _ => 0))), (q2, .inl (cI, 6, .inl (fun _ => 0))), (q3, .inl (cI, 6, .inl (fun _ => 0))), (q4, .inl (cI, 6, .inl (fun _ => 0))), (q5, .inl (cI, 48, .inl (fun _ => 0))), (q6, .inl (cI, 48, .inl (fun _ => 0))), (q7, .inl (cI, 48, .inl (fun _ => 0))), (q8, .inl (cI, 60, .inl (fun _ => 0))), (q9, .inl (cI, 60, .inl (fun _ => 0))), (q10, .inl (cI, 60, .inl (fun _ => 0))), (q11, .inl (cI, 60, .inl (fun _ => 0)))] H := hP
  have hD : va_D A [(h0, .inr (7, [.int 0, .int 0, .ref q1, .ref q2, .ref q3, .ref q4, .ref q5, .ref q6, .ref q7, .int 0, .ref q8, .ref q9, .ref q10, .ref q11, .null, .null, .null, .null, .null, .null, .null, .null, .null, .int 0, .null, .null, .null])), (q1, .inl (cI, 6, .inl (fun _ => 0))), (q2, .inl (cI, 6, .inl (fun _ => 0))), (q3, .inl (cI, 6, .inl (fun _ => 0))), (q4, .inl (cI, 6, .inl (fun _ => 0))), (q5, .inl (cI, 48, .inl (fun _ => 0))), (q6, .inl (cI, 48, .inl (fun _ => 0))), (q7, .inl (cI, 48, .inl (fun _ => 0))), (q8, .inl (cI, 60, .inl (fun _ => 0))), (q9, .inl (cI, 60, .inl (fun _ => 0))), (q10, .inl (cI, 60, .inl (fun _ => 0))), (q11, .inl (cI, 60, .inl (fun _ => 0)))] := hD
  refine lv_aload_n hx hb dX7_init_92 rfl (lv_at hl 0 rfl) ?_
  refine lv_bipush (v := (60 : Int32)) hx hb dX7_init_93 (by decide) ?_
  refine va_newa (atype := .int) (ty := .int) (N' := 60) (a0 := (60, .inl (fun _ => 0))) hx hb (hts _ g1_57) rfl hK hP hD hS hA (fun _ => rfl) (by decide) (by decide +kernel) (by decide) (Nat.le_of_ble_eq_true rfl) (Nat.le_of_ble_eq_true rfl) dX7_init_95 (fun q12 cA H hK1 hP hD hS => ?_)
  obtain rfl : cI = cA := ra_int hK hK1
  have hP : va_P D vwCl [(h0, .inr (7, [.int 0, .int 0, .ref q1, .ref q2, .ref q3, .ref q4, .ref q5, .ref q6, .ref q7, .int 0, .ref q8, .ref q9, .ref q10, .ref q11, .null, .null, .null, .null, .null, .null, .null, .null, .null, .int 0, .null, .null, .null])), (q1, .inl (cI, 6, .inl (fun _ => 0))), (q2, .inl (cI, 6, .inl (fun _ => 0))), (q3, .inl (cI, 6, .inl (fun _ => 0))), (q4, .inl (cI, 6, .inl (fun _ => 0))), (q5, .inl (cI, 48, .inl (fun _ => 0))), (q6, .inl (cI, 48, .inl (fun _ => 0))), (q7, .inl (cI, 48, .inl (fun _ => 0))), (q8, .inl (cI, 60, .inl (fun _ => 0))), (q9, .inl (cI, 60, .inl (fun _ => 0))), (q10, .inl (cI, 60, .inl (fun _ => 0))), (q11, .inl (cI, 60, .inl (fun _ => 0))), (q12, .inl (cI, 60, .inl (fun _ => 0)))] H := hP
  have hD : va_D A [(h0, .inr (7, [.int 0, .int 0, .ref q1, .ref q2, .ref q3, .ref q4, .ref q5, .ref q6, .ref q7, .int 0, .ref q8, .ref q9, .ref q10, .ref q11, .null, .null, .null, .null, .null, .null, .null, .null, .null, .int 0, .null, .null, .null])), (q1, .inl (cI, 6, .inl (fun _ => 0))), (q2, .inl (cI, 6, .inl (fun _ => 0))), (q3, .inl (cI, 6, .inl (fun _ => 0))), (q4, .inl (cI, 6, .inl (fun _ => 0))), (q5, .inl (cI, 48, .inl (fun _ => 0))), (q6, .inl (cI, 48, .inl (fun _ => 0))), (q7, .inl (cI, 48, .inl (fun _ => 0))), (q8, .inl (cI, 60, .inl (fun _ => 0))), (q9, .inl (cI, 60, .inl (fun _ => 0))), (q10, .inl (cI, 60, .inl (fun _ => 0))), (q11, .inl (cI, 60, .inl (fun _ => 0))), (q12, .inl (cI, 60, .inl (fun _ => 0)))] := hD
  refine W.widen (k := 12) (n := 468) (Nat.le_of_ble_eq_true rfl) (Nat.le_of_ble_eq_true rfl) ?_
  refine va_putF (D := D) (ci := 7) (v := .ref q12) (ty := (.array .int)) (C := RX7) (T := TX7) (N := 27) hx hb hts cls7.1 tyX7 tyX7_ok nmX7 hown hK hP hD hS 0 rfl rfl 14 (by decide) (hts _ g3_75) (fun _ h9 => h9) rfl hin rfl (tyX7_ok 14 (by decide)) rfl rfl (Nat.le_of_ble_eq_true rfl) dX7_init_97 (fun H locs hP hD hS => ?_)
  have hP : va_P D vwCl [(h0, .inr (7, [.int 0, .int 0, .ref q1, .ref q2, .ref q3, .ref q4, .ref q5, .ref q6, .ref q7, .int 0, .ref q8, .ref q9, .ref q10, .ref q11, .ref q12, .null, .null, .null, .null, .null, .null, .null, .null, .int 0, .null, .null, .null])), (q1, .inl (cI, 6, .inl (fun _ => 0))), (q2, .inl (cI, 6, .inl (fun _ => 0))), (q3, .inl (cI, 6, .inl (fun _ => 0))), (q4, .inl (cI, 6, .inl (fun _ => 0))), (q5, .inl (cI, 48, .inl (fun _ => 0))), (q6, .inl (cI, 48, .inl (fun _ => 0))), (q7, .inl (cI, 48, .inl (fun _ => 0))), (q8, .inl (cI, 60, .inl (fun _ => 0))), (q9, .inl (cI, 60, .inl (fun _ => 0))), (q10, .inl (cI, 60, .inl (fun _ => 0))), (q11, .inl (cI, 60, .inl (fun _ => 0))), (q12, .inl (cI, 60, .inl (fun _ => 0)))] H := hP
  have hD : va_D A [(h0, .inr (7, [.int 0, .int 0, .ref q1, .ref q2, .ref q3, .ref q4, .ref q5, .ref q6, .ref q7, .int 0, .ref q8, .ref q9, .ref q10, .ref q11, .ref q12, .null, .null, .null, .null, .null, .null, .null, .null, .int 0, .null, .null, .null])), (q1, .inl (cI, 6, .inl (fun _ => 0))), (q2, .inl (cI, 6, .inl (fun _ => 0))), (q3, .inl (cI, 6, .inl (fun _ => 0))), (q4, .inl (cI, 6, .inl (fun _ => 0))), (q5, .inl (cI, 48, .inl (fun _ => 0))), (q6, .inl (cI, 48, .inl (fun _ => 0))), (q7, .inl (cI, 48, .inl (fun _ => 0))), (q8, .inl (cI, 60, .inl (fun _ => 0))), (q9, .inl (cI, 60, .inl (fun _ => 0))), (q10, .inl (cI, 60, .inl (fun _ => 0))), (q11, .inl (cI, 60, .inl (fun _ => 0))), (q12, .inl (cI, 60, .inl (fun _ => 0)))] := hD
  refine lv_aload_n hx hb dX7_init_100 rfl (lv_at hl 0 rfl) ?_
  refine lv_bipush (v := (60 : Int32)) hx hb dX7_init_101 (by decide) ?_
  refine va_newa (atype := .int) (ty := .int) (N' := 60) (a0 := (60, .inl (fun _ => 0))) hx hb (hts _ g1_57) rfl hK hP hD hS hA (fun _ => rfl) (by decide) (by decide +kernel) (by decide) (Nat.le_of_ble_eq_true rfl) (Nat.le_of_ble_eq_true rfl) dX7_init_103 (fun q13 cA H hK1 hP hD hS => ?_)
  obtain rfl : cI = cA := ra_int hK hK1
  have hP : va_P D vwCl [(h0, .inr (7, [.int 0, .int 0, .ref q1, .ref q2, .ref q3, .ref q4, .ref q5, .ref q6, .ref q7, .int 0, .ref q8, .ref q9, .ref q10, .ref q11, .ref q12, .null, .null, .null, .null, .null, .null, .null, .null, .int 0, .null, .null, .null])), (q1, .inl (cI, 6, .inl (fun _ => 0))), (q2, .inl (cI, 6, .inl (fun _ => 0))), (q3, .inl (cI, 6, .inl (fun _ => 0))), (q4, .inl (cI, 6, .inl (fun _ => 0))), (q5, .inl (cI, 48, .inl (fun _ => 0))), (q6, .inl (cI, 48, .inl (fun _ => 0))), (q7, .inl (cI, 48, .inl (fun _ => 0))), (q8, .inl (cI, 60, .inl (fun _ => 0))), (q9, .inl (cI, 60, .inl (fun _ => 0))), (q10, .inl (cI, 60, .inl (fun _ => 0))), (q11, .inl (cI, 60, .inl (fun _ => 0))), (q12, .inl (cI, 60, .inl (fun _ => 0))), (q13, .inl (cI, 60, .inl (fun _ => 0)))] H := hP
  have hD : va_D A [(h0, .inr (7, [.int 0, .int 0, .ref q1, .ref q2, .ref q3, .ref q4, .ref q5, .ref q6, .ref q7, .int 0, .ref q8, .ref q9, .ref q10, .ref q11, .ref q12, .null, .null, .null, .null, .null, .null, .null, .null, .int 0, .null, .null, .null])), (q1, .inl (cI, 6, .inl (fun _ => 0))), (q2, .inl (cI, 6, .inl (fun _ => 0))), (q3, .inl (cI, 6, .inl (fun _ => 0))), (q4, .inl (cI, 6, .inl (fun _ => 0))), (q5, .inl (cI, 48, .inl (fun _ => 0))), (q6, .inl (cI, 48, .inl (fun _ => 0))), (q7, .inl (cI, 48, .inl (fun _ => 0))), (q8, .inl (cI, 60, .inl (fun _ => 0))), (q9, .inl (cI, 60, .inl (fun _ => 0))), (q10, .inl (cI, 60, .inl (fun _ => 0))), (q11, .inl (cI, 60, .inl (fun _ => 0))), (q12, .inl (cI, 60, .inl (fun _ => 0))), (q13, .inl (cI, 60, .inl (fun _ => 0)))] := hD
  refine W.widen (k := 13) (n := 528) (Nat.le_of_ble_eq_true rfl) (Nat.le_of_ble_eq_true rfl) ?_
  refine va_putF (D := D) (ci := 7) (v := .ref q13) (ty := (.array .int)) (C := RX7) (T := TX7) (N := 27) hx hb hts cls7.1 tyX7 tyX7_ok nmX7 hown hK hP hD hS 0 rfl rfl 15 (by decide) (hts _ g3_76) (fun _ h9 => h9) rfl hin rfl (tyX7_ok 15 (by decide)) rfl rfl (Nat.le_of_ble_eq_true rfl) dX7_init_105 (fun H locs hP hD hS => ?_)
  have hP : va_P D vwCl [(h0, .inr (7, [.int 0, .int 0, .ref q1, .ref q2, .ref q3, .ref q4, .ref q5, .ref q6, .ref q7, .int 0, .ref q8, .ref q9, .ref q10, .ref q11, .ref q12, .ref q13, .null, .null, .null, .null, .null, .null, .null, .int 0, .null, .null, .null])), (q1, .inl (cI, 6, .inl (fun _ => 0))), (q2, .inl (cI, 6, .inl (fun _ => 0))), (q3, .inl (cI, 6, .inl (fun _ => 0))), (q4, .inl (cI, 6, .inl (fun _ => 0))), (q5, .inl (cI, 48, .inl (fun _ => 0))), (q6, .inl (cI, 48, .inl (fun _ => 0))), (q7, .inl (cI, 48, .inl (fun _ => 0))), (q8, .inl (cI, 60, .inl (fun _ => 0))), (q9, .inl (cI, 60, .inl (fun _ => 0))), (q10, .inl (cI, 60, .inl (fun _ => 0))), (q11, .inl (cI, 60, .inl (fun _ => 0))), (q12, .inl (cI, 60, .inl (fun _ => 0))), (q13, .inl (cI, 60, .inl (fun _ => 0)))] H := hP
  have hD : va_D A [(h0, .inr (7, [.int 0, .int 0, .ref q1, .ref q2, .ref q3, .ref q4, .ref q5, .ref q6, .ref q7, .int 0, .ref q8, .ref q9, .ref q10, .ref q11, .ref q12, .ref q13, .null, .null, .null, .null, .null, .null, .null, .int 0, .null, .null, .null])), (q1, .inl (cI, 6, .inl (fun _ => 0))), (q2, .inl (cI, 6, .inl (fun _ => 0))), (q3, .inl (cI, 6, .inl (fun _ => 0))), (q4, .inl (cI, 6, .inl (fun _ => 0))), (q5, .inl (cI, 48, .inl (fun _ => 0))), (q6, .inl (cI, 48, .inl (fun _ => 0))), (q7, .inl (cI, 48, .inl (fun _ => 0))), (q8, .inl (cI, 60, .inl (fun _ => 0))), (q9, .inl (cI, 60, .inl (fun _ => 0))), (q10, .inl (cI, 60, .inl (fun _ => 0))), (q11, .inl (cI, 60, .inl (fun _ => 0))), (q12, .inl (cI, 60, .inl (fun _ => 0))), (q13, .inl (cI, 60, .inl (fun _ => 0)))] := hD
  refine lv_aload_n hx hb dX7_init_108 rfl (lv_at hl 0 rfl) ?_
  refine lv_bipush (v := (6 : Int32)) hx hb dX7_init_109 (by decide) ?_
  refine va_newa (atype := .int) (ty := .int) (N' := 6) (a0 := (6, .inl (fun _ => 0))) hx hb (hts _ g1_57) rfl hK hP hD hS hA (fun _ => rfl) (by decide) (by decide +kernel) (by decide) (Nat.le_of_ble_eq_true rfl) (Nat.le_of_ble_eq_true rfl) dX7_init_111 (fun q14 cA H hK1 hP hD hS => ?_)
  obtain rfl : cI = cA := ra_int hK hK1
  have hP : va_P D vwCl [(h0, .inr (7, [.int 0, .int 0, .ref q1, .ref q2, .ref q3, .ref q4, .ref q5, .ref q6, .ref q7, .int 0, .ref q8, .ref q9, .ref q10, .ref q11, .ref q12, .ref q13, .null, .null, .null, .null, .null, .null, .null, .int 0, .null, .null, .null])), (q1, .inl (cI, 6, .inl (fun _ => 0))), (q2, .inl (cI, 6, .inl (fun _ => 0))), (q3, .inl (cI, 6, .inl (fun _ => 0))), (q4, .inl (cI, 6, .inl (fun _ => 0))), (q5, .inl (cI, 48, .inl (fun _ => 0))), (q6, .inl (cI, 48, .inl (fun _ => 0))), (q7, .inl (cI, 48, .inl (fun _ => 0))), (q8, .inl (cI, 60, .inl (fun _ => 0))), (q9, .inl (cI, 60, .inl (fun _ => 0))), (q10, .inl (cI, 60, .inl (fun _ => 0))), (q11, .inl (cI, 60, .inl (fun _ => 0))), (q12, .inl (cI, 60, .inl (fun _ => 0))), (q13, .inl (cI, 60, .inl (fun _ => 0))), (q14, .inl (cI, 6, .inl (fun _ => 0)))] H := hP
  have hD : va_D A [(h0, .inr (7, [.int 0, .int 0, .ref q1, .ref q2, .ref q3, .ref q4, .ref q5, .ref q6, .ref q7, .int 0, .ref q8, .ref q9, .ref q10, .ref q11, .ref q12, .ref q13, .null, .null, .null, .null, .null, .null, .null, .int 0, .null, .null, .null])), (q1, .inl (cI, 6, .inl (fun _ => 0))), (q2, .inl (cI, 6, .inl (fun _ => 0))), (q3, .inl (cI, 6, .inl (fun _ => 0))), (q4, .inl (cI, 6, .inl (fun _ => 0))), (q5, .inl (cI, 48, .inl (fun _ => 0))), (q6, .inl (cI, 48, .inl (fun _ => 0))), (q7, .inl (cI, 48, .inl (fun _ => 0))), (q8, .inl (cI, 60, .inl (fun _ => 0))), (q9, .inl (cI, 60, .inl (fun _ => 0))), (q10, .inl (cI, 60, .inl (fun _ => 0))), (q11, .inl (cI, 60, .inl (fun _ => 0))), (q12, .inl (cI, 60, .inl (fun _ => 0))), (q13, .inl (cI, 60, .inl (fun _ => 0))), (q14, .inl (cI, 6, .inl (fun _ => 0)))] := hD
  refine W.widen (k := 14) (n := 534) (Nat.le_of_ble_eq_true rfl) (Nat.le_of_ble_eq_true rfl) ?_
  refine va_putF (D := D) (ci := 7) (v := .ref q14) (ty := (.array .int)) (C := RX7) (T := TX7) (N := 27) hx hb hts cls7.1 tyX7 tyX7_ok nmX7 hown hK hP hD hS 0 rfl rfl 16 (by decide) (hts _ g3_77) (fun _ h9 => h9) rfl hin rfl (tyX7_ok 16 (by decide)) rfl rfl (Nat.le_of_ble_eq_true rfl) dX7_init_113 (fun H locs hP hD hS => ?_)
  have hP : va_P D vwCl [(h0, .inr (7, [.int 0, .int 0, .ref q1, .ref q2, .ref q3, .ref q4, .ref q5, .ref q6, .ref q7, .int 0, .ref q8, .ref q9, .ref q10, .ref q11, .ref q12, .ref q13, .ref q14, .null, .null, .null, .null, .null, .null, .int 0, .null, .null, .null])), (q1, .inl (cI, 6, .inl (fun _ => 0))), (q2, .inl (cI, 6, .inl (fun _ => 0))), (q3, .inl (cI, 6, .inl (fun _ => 0))), (q4, .inl (cI, 6, .inl (fun _ => 0))), (q5, .inl (cI, 48, .inl (fun _ => 0))), (q6, .inl (cI, 48, .inl (fun _ => 0))), (q7, .inl (cI, 48, .inl (fun _ => 0))), (q8, .inl (cI, 60, .inl (fun _ => 0))), (q9, .inl (cI, 60, .inl (fun _ => 0))), (q10, .inl (cI, 60, .inl (fun _ => 0))), (q11, .inl (cI, 60, .inl (fun _ => 0))), (q12, .inl (cI, 60, .inl (fun _ => 0))), (q13, .inl (cI, 60, .inl (fun _ => 0))), (q14, .inl (cI, 6, .inl (fun _ => 0)))] H := hP
  have hD : va_D A [(h0, .inr (7, [.int 0, .int 0, .ref q1, .ref q2, .ref q3, .ref q4, .ref q5, .ref q6, .ref q7, .int 0, .ref q8, .ref q9, .ref q10, .ref q11, .ref q12, .ref q13, .ref q14, .null, .null, .null, .null, .null, .null, .int 0, .null, .null, .null])), (q1, .inl (cI, 6, .inl (fun _ => 0))), (q2, .inl (cI, 6, .inl (fun _ => 0))), (q3, .inl (cI, 6, .inl (fun _ => 0))), (q4, .inl (cI, 6, .inl (fun _ => 0))), (q5, .inl (cI, 48, .inl (fun _ => 0))), (q6, .inl (cI, 48, .inl (fun _ => 0))), (q7, .inl (cI, 48, .inl (fun _ => 0))), (q8, .inl (cI, 60, .inl (fun _ => 0))), (q9, .inl (cI, 60, .inl (fun _ => 0))), (q10, .inl (cI, 60, .inl (fun _ => 0))), (q11, .inl (cI, 60, .inl (fun _ => 0))), (q12, .inl (cI, 60, .inl (fun _ => 0))), (q13, .inl (cI, 60, .inl (fun _ => 0))), (q14, .inl (cI, 6, .inl (fun _ => 0)))] := hD
  refine lv_aload_n hx hb dX7_init_116 rfl (lv_at hl 0 rfl) ?_
  refine lv_bipush (v := (48 : Int32)) hx hb dX7_init_117 (by decide) ?_
  refine va_newa (atype := .int) (ty := .int) (N' := 48) (a0 := (48, .inl (fun _ => 0))) hx hb (hts _ g1_57) rfl hK hP hD hS hA (fun _ => rfl) (by decide) (by decide +kernel) (by decide) (Nat.le_of_ble_eq_true rfl) (Nat.le_of_ble_eq_true rfl) dX7_init_119 (fun q15 cA H hK1 hP hD hS => ?_)
  obtain rfl : cI = cA := ra_int hK hK1
  have hP : va_P D vwCl [(h0, .inr (7, [.int 0, .int 0, .ref q1, .ref q2, .ref q3, .ref q4, .ref q5, .ref q6, .ref q7, .int 0, .ref q8, .ref q9, .ref q10, .ref q11, .ref q12, .ref q13, .ref q14, .null, .null, .null, .null, .null, .null, .int 0, .null, .null, .null])), (q1, .inl (cI, 6, .inl (fun _ => 0))), (q2, .inl (cI, 6, .inl (fun _ => 0))), (q3, .inl (cI, 6, .inl (fun _ => 0))), (q4, .inl (cI, 6, .inl (fun _ => 0))), (q5, .inl (cI, 48, .inl (fun _ => 0))), (q6, .inl (cI, 48, .inl (fun _ => 0))), (q7, .inl (cI, 48, .inl (fun _ => 0))), (q8, .inl (cI, 60, .inl (fun _ => 0))), (q9, .inl (cI, 60, .inl (fun _ => 0))), (q10, .inl (cI, 60, .inl (fun _ => 0))), (q11, .inl (cI, 60, .inl (fun _ => 0))), (q12, .inl (cI, 60, .inl (fun _ => 0))), (q13, .inl (cI, 60, .inl (fun _ => 0))), (q14, .inl (cI, 6, .inl (fun _ => 0))), (q15, .inl (cI, 48, .inl (fun _ => 0)))] H := hP
  have hD : va_D A [(h0, .inr (7, [.int 0, .int 0, .ref q1, .ref q2, .ref q3, .ref q4, .ref q5, .ref q6, .ref q7, .int 0, .ref q8, .ref q9, .ref q10, .ref q11, .ref q12, .ref q13, .ref q14, .null, .null, .null, .null, .null, .null, .int 0, .null, .null, .null])), (q1, .inl (cI, 6, .inl (fun _ => 0))), (q2, .inl (cI, 6, .inl (fun _ => 0))), (q3, .inl (cI, 6, .inl (fun _ => 0))), (q4, .inl (cI, 6, .inl (fun _ => 0))), (q5, .inl (cI, 48, .inl (fun _ => 0))), (q6, .inl (cI, 48, .inl (fun _ => 0))), (q7, .inl (cI, 48, .inl (fun _ => 0))), (q8, .inl (cI, 60, .inl (fun _ => 0))), (q9, .inl (cI, 60, .inl (fun _ => 0))), (q10, .inl (cI, 60, .inl (fun _ => 0))), (q11, .inl (cI, 60, .inl (fun _ => 0))), (q12, .inl (cI, 60, .inl (fun _ => 0))), (q13, .inl (cI, 60, .inl (fun _ => 0))), (q14, .inl (cI, 6, .inl (fun _ => 0))), (q15, .inl (cI, 48, .inl (fun _ => 0)))] := hD
  refine W.widen (k := 15) (n := 582) (Nat.le_of_ble_eq_true rfl) (Nat.le_of_ble_eq_true rfl) ?_
  refine va_putF (D := D) (ci := 7) (v := .ref q15) (ty := (.array .int)) (C := RX7) (T := TX7) (N := 27) hx hb hts cls7.1 tyX7 tyX7_ok nmX7 hown hK hP hD hS 0 rfl rfl 17 (by decide) (hts _ g3_78) (fun _ h9 => h9) rfl hin rfl (tyX7_ok 17 (by decide)) rfl rfl (Nat.le_of_ble_eq_true rfl) dX7_init_121 (fun H locs hP hD hS => ?_)
  have hP : va_P D vwCl [(h0, .inr (7, [.int 0, .int 0, .ref q1, .ref q2, .ref q3, .ref q4, .ref q5, .ref q6, .ref q7, .int 0, .ref q8, .ref q9, .ref q10, .ref q11, .ref q12, .ref q13, .ref q14, .ref q15, .null, .null, .null, .null, .null, .int 0, .null, .null, .null])), (q1, .inl (cI, 6, .inl (fun _ => 0))), (q2, .inl (cI, 6, .inl (fun _ => 0))), (q3, .inl (cI, 6, .inl (fun _ => 0))), (q4, .inl (cI, 6, .inl (fun _ => 0))), (q5, .inl (cI, 48, .inl (fun _ => 0))), (q6, .inl (cI, 48, .inl (fun _ => 0))), (q7, .inl (cI, 48, .inl (fun _ => 0))), (q8, .inl (cI, 60, .inl (fun _ => 0))), (q9, .inl (cI, 60, .inl (fun _ => 0))), (q10, .inl (cI, 60, .inl (fun _ => 0))), (q11, .inl (cI, 60, .inl (fun _ => 0))), (q12, .inl (cI, 60, .inl (fun _ => 0))), (q13, .inl (cI, 60, .inl (fun _ => 0))), (q14, .inl (cI, 6, .inl (fun _ => 0))), (q15, .inl (cI, 48, .inl (fun _ => 0)))] H := hP
  have hD : va_D A [(h0, .inr (7, [.int 0, .int 0, .ref q1, .ref q2, .ref q3, .ref q4, .ref q5, .ref q6, .ref q7, .int 0, .ref q8, .ref q9, .ref q10, .ref q11, .ref q12, .ref q13, .ref q14, .ref q15, .null, .null, .null, .null, .null, .int 0, .null, .null, .null])), (q1, .inl (cI, 6, .inl (fun _ => 0))), (q2, .inl (cI, 6, .inl (fun _ => 0))), (q3, .inl (cI, 6, .inl (fun _ => 0))), (q4, .inl (cI, 6, .inl (fun _ => 0))), (q5, .inl (cI, 48, .inl (fun _ => 0))), (q6, .inl (cI, 48, .inl (fun _ => 0))), (q7, .inl (cI, 48, .inl (fun _ => 0))), (q8, .inl (cI, 60, .inl (fun _ => 0))), (q9, .inl (cI, 60, .inl (fun _ => 0))), (q10, .inl (cI, 60, .inl (fun _ => 0))), (q11, .inl (cI, 60, .inl (fun _ => 0))), (q12, .inl (cI, 60, .inl (fun _ => 0))), (q13, .inl (cI, 60, .inl (fun _ => 0))), (q14, .inl (cI, 6, .inl (fun _ => 0))), (q15, .inl (cI, 48, .inl (fun _ => 0)))] := hD
  refine lv_aload_n hx hb dX7_init_124 rfl (lv_at hl 0 rfl) ?_
  refine lv_bipush (v := (54 : Int32)) hx hb dX7_init_125 (by decide) ?_
  refine va_newa (atype := .long) (ty := .long) (N' := 54) (a0 := (54, .inr (.inl (fun _ => 0)))) hx hb (hts _ g3_143) rfl hK hP hD hS hA (fun _ => rfl) (by decide) (by decide +kernel) (by decide) (Nat.le_of_ble_eq_true rfl) (Nat.le_of_ble_eq_true rfl) dX7_init_127 (fun q16 cA H hK1 hP hD hS => ?_)
  obtain rfl : cJ = cA := ra_long hK hK1
  have hP : va_P D vwCl [(h0, .inr (7, [.int 0, .int 0, .ref q1, .ref q2, .ref q3, .ref q4, .ref q5, .ref q6, .ref q7, .int 0, .ref q8, .ref q9, .ref q10, .ref q11, .ref q12, .ref q13, .ref q14, .ref q15, .null, .null, .null, .null, .null, .int 0, .null, .null, .null])), (q1, .inl (cI, 6, .inl (fun _ => 0))), (q2, .inl (cI, 6, .inl (fun _ => 0))), (q3, .inl (cI, 6, .inl (fun _ => 0))), (q4, .inl (cI, 6, .inl (fun _ => 0))), (q5, .inl (cI, 48, .inl (fun _ => 0))), (q6, .inl (cI, 48, .inl (fun _ => 0))), (q7, .inl (cI, 48, .inl (fun _ => 0))), (q8, .inl (cI, 60, .inl (fun _ => 0))), (q9, .inl (cI, 60, .inl (fun _ => 0))), (q10, .inl (cI, 60, .inl (fun _ => 0))), (q11, .inl (cI, 60, .inl (fun _ => 0))), (q12, .inl (cI, 60, .inl (fun _ => 0))), (q13, .inl (cI, 60, .inl (fun _ => 0))), (q14, .inl (cI, 6, .inl (fun _ => 0))), (q15, .inl (cI, 48, .inl (fun _ => 0))), (q16, .inl (cJ, 54, .inr (.inl (fun _ => 0))))] H := hP
  have hD : va_D A [(h0, .inr (7, [.int 0, .int 0, .ref q1, .ref q2, .ref q3, .ref q4, .ref q5, .ref q6, .ref q7, .int 0, .ref q8, .ref q9, .ref q10, .ref q11, .ref q12, .ref q13, .ref q14, .ref q15, .null, .null, .null, .null, .null, .int 0, .null, .null, .null])), (q1, .inl (cI, 6, .inl (fun _ => 0))), (q2, .inl (cI, 6, .inl (fun _ => 0))), (q3, .inl (cI, 6, .inl (fun _ => 0))), (q4, .inl (cI, 6, .inl (fun _ => 0))), (q5, .inl (cI, 48, .inl (fun _ => 0))), (q6, .inl (cI, 48, .inl (fun _ => 0))), (q7, .inl (cI, 48, .inl (fun _ => 0))), (q8, .inl (cI, 60, .inl (fun _ => 0))), (q9, .inl (cI, 60, .inl (fun _ => 0))), (q10, .inl (cI, 60, .inl (fun _ => 0))), (q11, .inl (cI, 60, .inl (fun _ => 0))), (q12, .inl (cI, 60, .inl (fun _ => 0))), (q13, .inl (cI, 60, .inl (fun _ => 0))), (q14, .inl (cI, 6, .inl (fun _ => 0))), (q15, .inl (cI, 48, .inl (fun _ => 0))), (q16, .inl (cJ, 54, .inr (.inl (fun _ => 0))))] := hD
  refine W.widen (k := 16) (n := 636) (Nat.le_of_ble_eq_true rfl) (Nat.le_of_ble_eq_true rfl) ?_
  refine va_putF (D := D) (ci := 7) (v := .ref q16) (ty := (.array .long)) (C := RX7) (T := TX7) (N := 27) hx hb hts cls7.1 tyX7 tyX7_ok nmX7 hown hK hP hD hS 0 rfl rfl 18 (by decide) (hts _ g3_79) (fun _ h9 => h9) rfl hin rfl (tyX7_ok 18 (by decide)) rfl rfl (Nat.le_of_ble_eq_true rfl) dX7_init_129 (fun H locs hP hD hS => ?_)
  have hP : va_P D vwCl [(h0, .inr (7, [.int 0, .int 0, .ref q1, .ref q2, .ref q3, .ref q4, .ref q5, .ref q6, .ref q7, .int 0, .ref q8, .ref q9, .ref q10, .ref q11, .ref q12, .ref q13, .ref q14, .ref q15, .ref q16, .null, .null, .null, .null, .int 0, .null, .null, .null])), (q1, .inl (cI, 6, .inl (fun _ => 0))), (q2, .inl (cI, 6, .inl (fun _ => 0))), (q3, .inl (cI, 6, .inl (fun _ => 0))), (q4, .inl (cI, 6, .inl (fun _ => 0))), (q5, .inl (cI, 48, .inl (fun _ => 0))), (q6, .inl (cI, 48, .inl (fun _ => 0))), (q7, .inl (cI, 48, .inl (fun _ => 0))), (q8, .inl (cI, 60, .inl (fun _ => 0))), (q9, .inl (cI, 60, .inl (fun _ => 0))), (q10, .inl (cI, 60, .inl (fun _ => 0))), (q11, .inl (cI, 60, .inl (fun _ => 0))), (q12, .inl (cI, 60, .inl (fun _ => 0))), (q13, .inl (cI, 60, .inl (fun _ => 0))), (q14, .inl (cI, 6, .inl (fun _ => 0))), (q15, .inl (cI, 48, .inl (fun _ => 0))), (q16, .inl (cJ, 54, .inr (.inl (fun _ => 0))))] H := hP
  have hD : va_D A [(h0, .inr (7, [.int 0, .int 0, .ref q1, .ref q2, .ref q3, .ref q4, .ref q5, .ref q6, .ref q7, .int 0, .ref q8, .ref q9, .ref q10, .ref q11, .ref q12, .ref q13, .ref q14, .ref q15, .ref q16, .null, .null, .null, .null, .int 0, .null, .null, .null])), (q1, .inl (cI, 6, .inl (fun _ => 0))), (q2, .inl (cI, 6, .inl (fun _ => 0))), (q3, .inl (cI, 6, .inl (fun _ => 0))), (q4, .inl (cI, 6, .inl (fun _ => 0))), (q5, .inl (cI, 48, .inl (fun _ => 0))), (q6, .inl (cI, 48, .inl (fun _ => 0))), (q7, .inl (cI, 48, .inl (fun _ => 0))), (q8, .inl (cI, 60, .inl (fun _ => 0))), (q9, .inl (cI, 60, .inl (fun _ => 0))), (q10, .inl (cI, 60, .inl (fun _ => 0))), (q11, .inl (cI, 60, .inl (fun _ => 0))), (q12, .inl (cI, 60, .inl (fun _ => 0))), (q13, .inl (cI, 60, .inl (fun _ => 0))), (q14, .inl (cI, 6, .inl (fun _ => 0))), (q15, .inl (cI, 48, .inl (fun _ => 0))), (q16, .inl (cJ, 54, .inr (.inl (fun _ => 0))))] := hD
  refine lv_aload_n hx hb dX7_init_132 rfl (lv_at hl 0 rfl) ?_
  refine lv_bipush (v := (54 : Int32)) hx hb dX7_init_133 (by decide) ?_
  refine va_newa (atype := .long) (ty := .long) (N' := 54) (a0 := (54, .inr (.inl (fun _ => 0)))) hx hb (hts _ g3_143) rfl hK hP hD hS hA (fun _ => rfl) (by decide) (by decide +kernel) (by decide) (Nat.le_of_ble_eq_true rfl) (Nat.le_of_ble_eq_true rfl) dX7_init_135 (fun q17 cA H hK1 hP hD hS => ?_)
  obtain rfl : cJ = cA := ra_long hK hK1
  have hP : va_P D vwCl [(h0, .inr (7, [.int 0, .int 0, .ref q1, .ref q2, .ref q3, .ref q4, .ref q5, .ref q6, .ref q7, .int 0, .ref q8, .ref q9, .ref q10, .ref q11, .ref q12, .ref q13, .ref q14, .ref q15, .ref q16, .null, .null, .null, .null, .int 0, .null, .null, .null])), (q1, .inl (cI, 6, .inl (fun _ => 0))), (q2, .inl (cI, 6, .inl (fun _ => 0))), (q3, .inl (cI, 6, .inl (fun _ => 0))), (q4, .inl (cI, 6, .inl (fun _ => 0))), (q5, .inl (cI, 48, .inl (fun _ => 0))), (q6, .inl (cI, 48, .inl (fun _ => 0))), (q7, .inl (cI, 48, .inl (fun _ => 0))), (q8, .inl (cI, 60, .inl (fun _ => 0))), (q9, .inl (cI, 60, .inl (fun _ => 0))), (q10, .inl (cI, 60, .inl (fun _ => 0))), (q11, .inl (cI, 60, .inl (fun _ => 0))), (q12, .inl (cI, 60, .inl (fun _ => 0))), (q13, .inl (cI, 60, .inl (fun _ => 0))), (q14, .inl (cI, 6, .inl (fun _ => 0))), (q15, .inl (cI, 48, .inl (fun _ => 0))), (q16, .inl (cJ, 54, .inr (.inl (fun _ => 0)))), (q17, .inl (cJ, 54, .inr (.inl (fun _ => 0))))] H := hP
  have hD : va_D A [(h0, .inr (7, [.int 0, .int 0, .ref q1, .ref q2, .ref q3, .ref q4, .ref q5, .ref q6, .ref q7, .int 0, .ref q8, .ref q9, .ref q10, .ref q11, .ref q12, .ref q13, .ref q14, .ref q15, .ref q16, .null, .null, .null, .null, .int 0, .null, .null, .null])), (q1, .inl (cI, 6, .inl (fun _ => 0))), (q2, .inl (cI, 6, .inl (fun _ => 0))), (q3, .inl (cI, 6, .inl (fun _ => 0))), (q4, .inl (cI, 6, .inl (fun _ => 0))), (q5, .inl (cI, 48, .inl (fun _ => 0))), (q6, .inl (cI, 48, .inl (fun _ => 0))), (q7, .inl (cI, 48, .inl (fun _ => 0))), (q8, .inl (cI, 60, .inl (fun _ => 0))), (q9, .inl (cI, 60, .inl (fun _ => 0))), (q10, .inl (cI, 60, .inl (fun _ => 0))), (q11, .inl (cI, 60, .inl (fun _ => 0))), (q12, .inl (cI, 60, .inl (fun _ => 0))), (q13, .inl (cI, 60, .inl (fun _ => 0))), (q14, .inl (cI, 6, .inl (fun _ => 0))), (q15, .inl (cI, 48, .inl (fun _ => 0))), (q16, .inl (cJ, 54, .inr (.inl (fun _ => 0)))), (q17, .inl (cJ, 54, .inr (.inl (fun _ => 0))))] := hD
  refine W.widen (k := 17) (n := 690) (Nat.le_of_ble_eq_true rfl) (Nat.le_of_ble_eq_true rfl) ?_
  refine va_putF (D := D) (ci := 7) (v := .ref q17) (ty := (.array .long)) (C := RX7) (T := TX7) (N := 27) hx hb hts cls7.1 tyX7 tyX7_ok nmX7 hown hK hP hD hS 0 rfl rfl 19 (by decide) (hts _ g3_80) (fun _ h9 => h9) rfl hin rfl (tyX7_ok 19 (by decide)) rfl rfl (Nat.le_of_ble_eq_true rfl) dX7_init_137 (fun H locs hP hD hS => ?_)
  have hP : va_P D vwCl [(h0, .inr (7, [.int 0, .int 0, .ref q1, .ref q2, .ref q3, .ref q4, .ref q5, .ref q6, .ref q7, .int 0, .ref q8, .ref q9, .ref q10, .ref q11, .ref q12, .ref q13, .ref q14, .ref q15, .ref q16, .ref q17, .null, .null, .null, .int 0, .null, .null, .null])), (q1, .inl (cI, 6, .inl (fun _ => 0))), (q2, .inl (cI, 6, .inl (fun _ => 0))), (q3, .inl (cI, 6, .inl (fun _ => 0))), (q4, .inl (cI, 6, .inl (fun _ => 0))), (q5, .inl (cI, 48, .inl (fun _ => 0))), (q6, .inl (cI, 48, .inl (fun _ => 0))), (q7, .inl (cI, 48, .inl (fun _ => 0))), (q8, .inl (cI, 60, .inl (fun _ => 0))), (q9, .inl (cI, 60, .inl (fun _ => 0))), (q10, .inl (cI, 60, .inl (fun _ => 0))), (q11, .inl (cI, 60, .inl (fun _ => 0))), (q12, .inl (cI, 60, .inl (fun _ => 0))), (q13, .inl (cI, 60, .inl (fun _ => 0))), (q14, .inl (cI, 6, .inl (fun _ => 0))), (q15, .inl (cI, 48, .inl (fun _ => 0))), (q16, .inl (cJ, 54, .inr (.inl (fun _ => 0)))), (q17, .inl (cJ, 54, .inr (.inl (fun _ => 0))))] H := hP
  have hD : va_D A [(h0, .inr (7, [.int 0, .int 0, .ref q1, .ref q2, .ref q3, .ref q4, .ref q5, .ref q6, .ref q7, .int 0, .ref q8, .ref q9, .ref q10, .ref q11, .ref q12, .ref q13, .ref q14, .ref q15, .ref q16, .ref q17, .null, .null, .null, .int 0, .null, .null, .null])), (q1, .inl (cI, 6, .inl (fun _ => 0))), (q2, .inl (cI, 6, .inl (fun _ => 0))), (q3, .inl (cI, 6, .inl (fun _ => 0))), (q4, .inl (cI, 6, .inl (fun _ => 0))), (q5, .inl (cI, 48, .inl (fun _ => 0))), (q6, .inl (cI, 48, .inl (fun _ => 0))), (q7, .inl (cI, 48, .inl (fun _ => 0))), (q8, .inl (cI, 60, .inl (fun _ => 0))), (q9, .inl (cI, 60, .inl (fun _ => 0))), (q10, .inl (cI, 60, .inl (fun _ => 0))), (q11, .inl (cI, 60, .inl (fun _ => 0))), (q12, .inl (cI, 60, .inl (fun _ => 0))), (q13, .inl (cI, 60, .inl (fun _ => 0))), (q14, .inl (cI, 6, .inl (fun _ => 0))), (q15, .inl (cI, 48, .inl (fun _ => 0))), (q16, .inl (cJ, 54, .inr (.inl (fun _ => 0)))), (q17, .inl (cJ, 54, .inr (.inl (fun _ => 0))))] := hD
  refine lv_aload_n hx hb dX7_init_140 rfl (lv_at hl 0 rfl) ?_
  refine lv_bipush (v := (54 : Int32)) hx hb dX7_init_141 (by decide) ?_
  refine va_newa (atype := .int) (ty := .int) (N' := 54) (a0 := (54, .inl (fun _ => 0))) hx hb (hts _ g1_57) rfl hK hP hD hS hA (fun _ => rfl) (by decide) (by decide +kernel) (by decide) (Nat.le_of_ble_eq_true rfl) (Nat.le_of_ble_eq_true rfl) dX7_init_143 (fun q18 cA H hK1 hP hD hS => ?_)
  obtain rfl : cI = cA := ra_int hK hK1
  have hP : va_P D vwCl [(h0, .inr (7, [.int 0, .int 0, .ref q1, .ref q2, .ref q3, .ref q4, .ref q5, .ref q6, .ref q7, .int 0, .ref q8, .ref q9, .ref q10, .ref q11, .ref q12, .ref q13, .ref q14, .ref q15, .ref q16, .ref q17, .null, .null, .null, .int 0, .null, .null, .null])), (q1, .inl (cI, 6, .inl (fun _ => 0))), (q2, .inl (cI, 6, .inl (fun _ => 0))), (q3, .inl (cI, 6, .inl (fun _ => 0))), (q4, .inl (cI, 6, .inl (fun _ => 0))), (q5, .inl (cI, 48, .inl (fun _ => 0))), (q6, .inl (cI, 48, .inl (fun _ => 0))), (q7, .inl (cI, 48, .inl (fun _ => 0))), (q8, .inl (cI, 60, .inl (fun _ => 0))), (q9, .inl (cI, 60, .inl (fun _ => 0))), (q10, .inl (cI, 60, .inl (fun _ => 0))), (q11, .inl (cI, 60, .inl (fun _ => 0))), (q12, .inl (cI, 60, .inl (fun _ => 0))), (q13, .inl (cI, 60, .inl (fun _ => 0))), (q14, .inl (cI, 6, .inl (fun _ => 0))), (q15, .inl (cI, 48, .inl (fun _ => 0))), (q16, .inl (cJ, 54, .inr (.inl (fun _ => 0)))), (q17, .inl (cJ, 54, .inr (.inl (fun _ => 0)))), (q18, .inl (cI, 54, .inl (fun _ => 0)))] H := hP
  have hD : va_D A [(h0, .inr (7, [.int 0, .int 0, .ref q1, .ref q2, .ref q3, .ref q4, .ref q5, .ref q6, .ref q7, .int 0, .ref q8, .ref q9, .ref q10, .ref q11, .ref q12, .ref q13, .ref q14, .ref q15, .ref q16, .ref q17, .null, .null, .null, .int 0, .null, .null, .null])), (q1, .inl (cI, 6, .inl (fun _ => 0))), (q2, .inl (cI, 6, .inl (fun _ => 0))), (q3, .inl (cI, 6, .inl (fun _ => 0))), (q4, .inl (cI, 6, .inl (fun _ => 0))), (q5, .inl (cI, 48, .inl (fun _ => 0))), (q6, .inl (cI, 48, .inl (fun _ => 0))), (q7, .inl (cI, 48, .inl (fun _ => 0))), (q8, .inl (cI, 60, .inl (fun _ => 0))), (q9, .inl (cI, 60, .inl (fun _ => 0))), (q10, .inl (cI, 60, .inl (fun _ => 0))), (q11, .inl (cI, 60, .inl (fun _ => 0))), (q12, .inl (cI, 60, .inl (fun _ => 0))), (q13, .inl (cI, 60, .inl (fun _ => 0))), (q14, .inl (cI, 6, .inl (fun _ => 0))), (q15, .inl (cI, 48, .inl (fun _ => 0))), (q16, .inl (cJ, 54, .inr (.inl (fun _ => 0)))), (q17, .inl (cJ, 54, .inr (.inl (fun _ => 0)))), (q18, .inl (cI, 54, .inl (fun _ => 0)))] := hD
  refine W.widen (k := 18) (n := 744) (Nat.le_of_ble_eq_true rfl) (Nat.le_of_ble_eq_true rfl) ?_
  refine va_putF (D := D) (ci := 7) (v := .ref q18) (ty := (.array .int)) (C := RX7) (T := TX7) (N := 27) hx hb hts cls7.1 tyX7 tyX7_ok nmX7 hown hK hP hD hS 0 rfl rfl 20 (by decide) (hts _ g3_81) (fun _ h9 => h9) rfl hin rfl (tyX7_ok 20 (by decide)) rfl rfl (Nat.le_of_ble_eq_true rfl) dX7_init_145 (fun H locs hP hD hS => ?_)
  have hP : va_P D vwCl [(h0, .inr (7, [.int 0, .int 0, .ref q1, .ref q2, .ref q3, .ref q4, .ref q5, .ref q6, .ref q7, .int 0, .ref q8, .ref q9, .ref q10, .ref q11, .ref q12, .ref q13, .ref q14, .ref q15, .ref q16, .ref q17, .ref q18, .null, .null, .int 0, .null, .null, .null])), (q1, .inl (cI, 6, .inl (fun _ => 0))), (q2, .inl (cI, 6, .inl (fun _ => 0))), (q3, .inl (cI, 6, .inl (fun _ => 0))), (q4, .inl (cI, 6, .inl (fun _ => 0))), (q5, .inl (cI, 48, .inl (fun _ => 0))), (q6, .inl (cI, 48, .inl (fun _ => 0))), (q7, .inl (cI, 48, .inl (fun _ => 0))), (q8, .inl (cI, 60, .inl (fun _ => 0))), (q9, .inl (cI, 60, .inl (fun _ => 0))), (q10, .inl (cI, 60, .inl (fun _ => 0))), (q11, .inl (cI, 60, .inl (fun _ => 0))), (q12, .inl (cI, 60, .inl (fun _ => 0))), (q13, .inl (cI, 60, .inl (fun _ => 0))), (q14, .inl (cI, 6, .inl (fun _ => 0))), (q15, .inl (cI, 48, .inl (fun _ => 0))), (q16, .inl (cJ, 54, .inr (.inl (fun _ => 0)))), (q17, .inl (cJ, 54, .inr (.inl (fun _ => 0)))), (q18, .inl (cI, 54, .inl (fun _ => 0)))] H := hP
  have hD : va_D A [(h0, .inr (7, [.int 0, .int 0, .ref q1, .ref q2, .ref q3, .ref q4, .ref q5, .ref q6, .ref q7, .int 0, .ref q8, .ref q9, .ref q10, .ref q11, .ref q12, .ref q13, .ref q14, .ref q15, .ref q16, .ref q17, .ref q18, .null, .null, .int 0, .null, .null, .null])), (q1, .inl (cI, 6, .inl (fun _ => 0))), (q2, .inl (cI, 6, .inl (fun _ => 0))), (q3, .inl (cI, 6, .inl (fun _ => 0))), (q4, .inl (cI, 6, .inl (fun _ => 0))), (q5, .inl (cI, 48, .inl (fun _ => 0))), (q6, .inl (cI, 48, .inl (fun _ => 0))), (q7, .inl (cI, 48, .inl (fun _ => 0))), (q8, .inl (cI, 60, .inl (fun _ => 0))), (q9, .inl (cI, 60, .inl (fun _ => 0))), (q10, .inl (cI, 60, .inl (fun _ => 0))), (q11, .inl (cI, 60, .inl (fun _ => 0))), (q12, .inl (cI, 60, .inl (fun _ => 0))), (q13, .inl (cI, 60, .inl (fun _ => 0))), (q14, .inl (cI, 6, .inl (fun _ => 0))), (q15, .inl (cI, 48, .inl (fun _ => 0))), (q16, .inl (cJ, 54, .inr (.inl (fun _ => 0)))), (q17, .inl (cJ, 54, .inr (.inl (fun _ => 0)))), (q18, .inl (cI, 54, .inl (fun _ => 0)))] := hD
  refine lv_aload_n hx hb dX7_init_148 rfl (lv_at hl 0 rfl) ?_
  refine lv_iconst (v := (4 : Int32)) hx hb dX7_init_149 (by decide) ?_
  refine va_newa (atype := .long) (ty := .long) (N' := 4) (a0 := (4, .inr (.inl (fun _ => 0)))) hx hb (hts _ g3_143) rfl hK hP hD hS hA (fun _ => rfl) (by decide) (by decide +kernel) (by decide) (Nat.le_of_ble_eq_true rfl) (Nat.le_of_ble_eq_true rfl) dX7_init_150 (fun q19 cA H hK1 hP hD hS => ?_)
  obtain rfl : cJ = cA := ra_long hK hK1
  have hP : va_P D vwCl [(h0, .inr (7, [.int 0, .int 0, .ref q1, .ref q2, .ref q3, .ref q4, .ref q5, .ref q6, .ref q7, .int 0, .ref q8, .ref q9, .ref q10, .ref q11, .ref q12, .ref q13, .ref q14, .ref q15, .ref q16, .ref q17, .ref q18, .null, .null, .int 0, .null, .null, .null])), (q1, .inl (cI, 6, .inl (fun _ => 0))), (q2, .inl (cI, 6, .inl (fun _ => 0))), (q3, .inl (cI, 6, .inl (fun _ => 0))), (q4, .inl (cI, 6, .inl (fun _ => 0))), (q5, .inl (cI, 48, .inl (fun _ => 0))), (q6, .inl (cI, 48, .inl (fun _ => 0))), (q7, .inl (cI, 48, .inl (fun _ => 0))), (q8, .inl (cI, 60, .inl (fun _ => 0))), (q9, .inl (cI, 60, .inl (fun _ => 0))), (q10, .inl (cI, 60, .inl (fun _ => 0))), (q11, .inl (cI, 60, .inl (fun _ => 0))), (q12, .inl (cI, 60, .inl (fun _ => 0))), (q13, .inl (cI, 60, .inl (fun _ => 0))), (q14, .inl (cI, 6, .inl (fun _ => 0))), (q15, .inl (cI, 48, .inl (fun _ => 0))), (q16, .inl (cJ, 54, .inr (.inl (fun _ => 0)))), (q17, .inl (cJ, 54, .inr (.inl (fun _ => 0)))), (q18, .inl (cI, 54, .inl (fun _ => 0))), (q19, .inl (cJ, 4, .inr (.inl (fun _ => 0))))] H := hP
  have hD : va_D A [(h0, .inr (7, [.int 0, .int 0, .ref q1, .ref q2, .ref q3, .ref q4, .ref q5, .ref q6, .ref q7, .int 0, .ref q8, .ref q9, .ref q10, .ref q11, .ref q12, .ref q13, .ref q14, .ref q15, .ref q16, .ref q17, .ref q18, .null, .null, .int 0, .null, .null, .null])), (q1, .inl (cI, 6, .inl (fun _ => 0))), (q2, .inl (cI, 6, .inl (fun _ => 0))), (q3, .inl (cI, 6, .inl (fun _ => 0))), (q4, .inl (cI, 6, .inl (fun _ => 0))), (q5, .inl (cI, 48, .inl (fun _ => 0))), (q6, .inl (cI, 48, .inl (fun _ => 0))), (q7, .inl (cI, 48, .inl (fun _ => 0))), (q8, .inl (cI, 60, .inl (fun _ => 0))), (q9, .inl (cI, 60, .inl (fun _ => 0))), (q10, .inl (cI, 60, .inl (fun _ => 0))), (q11, .inl (cI, 60, .inl (fun _ => 0))), (q12, .inl (cI, 60, .inl (fun _ => 0))), (q13, .inl (cI, 60, .inl (fun _ => 0))), (q14, .inl (cI, 6, .inl (fun _ => 0))), (q15, .inl (cI, 48, .inl (fun _ => 0))), (q16, .inl (cJ, 54, .inr (.inl (fun _ => 0)))), (q17, .inl (cJ, 54, .inr (.inl (fun _ => 0)))), (q18, .inl (cI, 54, .inl (fun _ => 0))), (q19, .inl (cJ, 4, .inr (.inl (fun _ => 0))))] := hD
  refine W.widen (k := 19) (n := 748) (Nat.le_of_ble_eq_true rfl) (Nat.le_of_ble_eq_true rfl) ?_
  refine va_putF (D := D) (ci := 7) (v := .ref q19) (ty := (.array .long)) (C := RX7) (T := TX7) (N := 27) hx hb hts cls7.1 tyX7 tyX7_ok nmX7 hown hK hP hD hS 0 rfl rfl 21 (by decide) (hts _ g3_82) (fun _ h9 => h9) rfl hin rfl (tyX7_ok 21 (by decide)) rfl rfl (Nat.le_of_ble_eq_true rfl) dX7_init_152 (fun H locs hP hD hS => ?_)
  have hP : va_P D vwCl [(h0, .inr (7, [.int 0, .int 0, .ref q1, .ref q2, .ref q3, .ref q4, .ref q5, .ref q6, .ref q7, .int 0, .ref q8, .ref q9, .ref q10, .ref q11, .ref q12, .ref q13, .ref q14, .ref q15, .ref q16, .ref q17, .ref q18, .ref q19, .null, .int 0, .null, .null, .null])), (q1, .inl (cI, 6, .inl (fun _ => 0))), (q2, .inl (cI, 6, .inl (fun _ => 0))), (q3, .inl (cI, 6, .inl (fun _ => 0))), (q4, .inl (cI, 6, .inl (fun _ => 0))), (q5, .inl (cI, 48, .inl (fun _ => 0))), (q6, .inl (cI, 48, .inl (fun _ => 0))), (q7, .inl (cI, 48, .inl (fun _ => 0))), (q8, .inl (cI, 60, .inl (fun _ => 0))), (q9, .inl (cI, 60, .inl (fun _ => 0))), (q10, .inl (cI, 60, .inl (fun _ => 0))), (q11, .inl (cI, 60, .inl (fun _ => 0))), (q12, .inl (cI, 60, .inl (fun _ => 0))), (q13, .inl (cI, 60, .inl (fun _ => 0))), (q14, .inl (cI, 6, .inl (fun _ => 0))), (q15, .inl (cI, 48, .inl (fun _ => 0))), (q16, .inl (cJ, 54, .inr (.inl (fun _ => 0)))), (q17, .inl (cJ, 54, .inr (.inl (fun _ => 0)))), (q18, .inl (cI, 54, .inl (fun _ => 0))), (q19, .inl (cJ, 4, .inr (.inl (fun _ => 0))))] H := hP
  have hD : va_D A [(h0, .inr (7, [.int 0, .int 0, .ref q1, .ref q2, .ref q3, .ref q4, .ref q5, .ref q6, .ref q7, .int 0, .ref q8, .ref q9, .ref q10, .ref q11, .ref q12, .ref q13, .ref q14, .ref q15, .ref q16, .ref q17, .ref q18, .ref q19, .null, .int 0, .null, .null, .null])), (q1, .inl (cI, 6, .inl (fun _ => 0))), (q2, .inl (cI, 6, .inl (fun _ => 0))), (q3, .inl (cI, 6, .inl (fun _ => 0))), (q4, .inl (cI, 6, .inl (fun _ => 0))), (q5, .inl (cI, 48, .inl (fun _ => 0))), (q6, .inl (cI, 48, .inl (fun _ => 0))), (q7, .inl (cI, 48, .inl (fun _ => 0))), (q8, .inl (cI, 60, .inl (fun _ => 0))), (q9, .inl (cI, 60, .inl (fun _ => 0))), (q10, .inl (cI, 60, .inl (fun _ => 0))), (q11, .inl (cI, 60, .inl (fun _ => 0))), (q12, .inl (cI, 60, .inl (fun _ => 0))), (q13, .inl (cI, 60, .inl (fun _ => 0))), (q14, .inl (cI, 6, .inl (fun _ => 0))), (q15, .inl (cI, 48, .inl (fun _ => 0))), (q16, .inl (cJ, 54, .inr (.inl (fun _ => 0)))), (q17, .inl (cJ, 54, .inr (.inl (fun _ => 0)))), (q18, .inl (cI, 54, .inl (fun _ => 0))), (q19, .inl (cJ, 4, .inr (.inl (fun _ => 0))))] := hD
  refine lv_aload_n hx hb dX7_init_155 rfl (lv_at hl 0 rfl) ?_
  refine lv_iconst (v := (4 : Int32)) hx hb dX7_init_156 (by decide) ?_
  refine va_newa (atype := .long) (ty := .long) (N' := 4) (a0 := (4, .inr (.inl (fun _ => 0)))) hx hb (hts _ g3_143) rfl hK hP hD hS hA (fun _ => rfl) (by decide) (by decide +kernel) (by decide) (Nat.le_of_ble_eq_true rfl) (Nat.le_of_ble_eq_true rfl) dX7_init_157 (fun q20 cA H hK1 hP hD hS => ?_)
  obtain rfl : cJ = cA := ra_long hK hK1
  have hP : va_P D vwCl [(h0, .inr (7, [.int 0, .int 0, .ref q1, .ref q2, .ref q3, .ref q4, .ref q5, .ref q6, .ref q7, .int 0, .ref q8, .ref q9, .ref q10, .ref q11, .ref q12, .ref q13, .ref q14, .ref q15, .ref q16, .ref q17, .ref q18, .ref q19, .null, .int 0, .null, .null, .null])), (q1, .inl (cI, 6, .inl (fun _ => 0))), (q2, .inl (cI, 6, .inl (fun _ => 0))), (q3, .inl (cI, 6, .inl (fun _ => 0))), (q4, .inl (cI, 6, .inl (fun _ => 0))), (q5, .inl (cI, 48, .inl (fun _ => 0))), (q6, .inl (cI, 48, .inl (fun _ => 0))), (q7, .inl (cI, 48, .inl (fun _ => 0))), (q8, .inl (cI, 60, .inl (fun _ => 0))), (q9, .inl (cI, 60, .inl (fun _ => 0))), (q10, .inl (cI, 60, .inl (fun _ => 0))), (q11, .inl (cI, 60, .inl (fun _ => 0))), (q12, .inl (cI, 60, .inl (fun _ => 0))), (q13, .inl (cI, 60, .inl (fun _ => 0))), (q14, .inl (cI, 6, .inl (fun _ => 0))), (q15, .inl (cI, 48, .inl (fun _ => 0))), (q16, .inl (cJ, 54, .inr (.inl (fun _ => 0)))), (q17, .inl (cJ, 54, .inr (.inl (fun _ => 0)))), (q18, .inl (cI, 54, .inl (fun _ => 0))), (q19, .inl (cJ, 4, .inr (.inl (fun _ => 0)))), (q20, .inl (cJ, 4, .inr (.inl (fun _ => 0))))] H := hP
  have hD : va_D A [(h0, .inr (7, [.int 0, .int 0, .ref q1, .ref q2, .ref q3, .ref q4, .ref q5, .ref q6, .ref q7, .int 0, .ref q8, .ref q9, .ref q10, .ref q11, .ref q12, .ref q13, .ref q14, .ref q15, .ref q16, .ref q17, .ref q18, .ref q19, .null, .int 0, .null, .null, .null])), (q1, .inl (cI, 6, .inl (fun _ => 0))), (q2, .inl (cI, 6, .inl (fun _ => 0))), (q3, .inl (cI, 6, .inl (fun _ => 0))), (q4, .inl (cI, 6, .inl (fun _ => 0))), (q5, .inl (cI, 48, .inl (fun _ => 0))), (q6, .inl (cI, 48, .inl (fun _ => 0))), (q7, .inl (cI, 48, .inl (fun _ => 0))), (q8, .inl (cI, 60, .inl (fun _ => 0))), (q9, .inl (cI, 60, .inl (fun _ => 0))), (q10, .inl (cI, 60, .inl (fun _ => 0))), (q11, .inl (cI, 60, .inl (fun _ => 0))), (q12, .inl (cI, 60, .inl (fun _ => 0))), (q13, .inl (cI, 60, .inl (fun _ => 0))), (q14, .inl (cI, 6, .inl (fun _ => 0))), (q15, .inl (cI, 48, .inl (fun _ => 0))), (q16, .inl (cJ, 54, .inr (.inl (fun _ => 0)))), (q17, .inl (cJ, 54, .inr (.inl (fun _ => 0)))), (q18, .inl (cI, 54, .inl (fun _ => 0))), (q19, .inl (cJ, 4, .inr (.inl (fun _ => 0)))), (q20, .inl (cJ, 4, .inr (.inl (fun _ => 0))))] := hD
  refine W.widen (k := 20) (n := 752) (Nat.le_of_ble_eq_true rfl) (Nat.le_of_ble_eq_true rfl) ?_
  refine va_putF (D := D) (ci := 7) (v := .ref q20) (ty := (.array .long)) (C := RX7) (T := TX7) (N := 27) hx hb hts cls7.1 tyX7 tyX7_ok nmX7 hown hK hP hD hS 0 rfl rfl 22 (by decide) (hts _ g3_83) (fun _ h9 => h9) rfl hin rfl (tyX7_ok 22 (by decide)) rfl rfl (Nat.le_of_ble_eq_true rfl) dX7_init_159 (fun H locs hP hD hS => ?_)
  have hP : va_P D vwCl [(h0, .inr (7, [.int 0, .int 0, .ref q1, .ref q2, .ref q3, .ref q4, .ref q5, .ref q6, .ref q7, .int 0, .ref q8, .ref q9, .ref q10, .ref q11, .ref q12, .ref q13, .ref q14, .ref q15, .ref q16, .ref q17, .ref q18, .ref q19, .ref q20, .int 0, .null, .null, .null])), (q1, .inl (cI, 6, .inl (fun _ => 0))), (q2, .inl (cI, 6, .inl (fun _ => 0))), (q3, .inl (cI, 6, .inl (fun _ => 0))), (q4, .inl (cI, 6, .inl (fun _ => 0))), (q5, .inl (cI, 48, .inl (fun _ => 0))), (q6, .inl (cI, 48, .inl (fun _ => 0))), (q7, .inl (cI, 48, .inl (fun _ => 0))), (q8, .inl (cI, 60, .inl (fun _ => 0))), (q9, .inl (cI, 60, .inl (fun _ => 0))), (q10, .inl (cI, 60, .inl (fun _ => 0))), (q11, .inl (cI, 60, .inl (fun _ => 0))), (q12, .inl (cI, 60, .inl (fun _ => 0))), (q13, .inl (cI, 60, .inl (fun _ => 0))), (q14, .inl (cI, 6, .inl (fun _ => 0))), (q15, .inl (cI, 48, .inl (fun _ => 0))), (q16, .inl (cJ, 54, .inr (.inl (fun _ => 0)))), (q17, .inl (cJ, 54, .inr (.inl (fun _ => 0)))), (q18, .inl (cI, 54, .inl (fun _ => 0))), (q19, .inl (cJ, 4, .inr (.inl (fun _ => 0)))), (q20, .inl (cJ, 4, .inr (.inl (fun _ => 0))))] H := hP
  have hD : va_D A [(h0, .inr (7, [.int 0, .int 0, .ref q1, .ref q2, .ref q3, .ref q4, .ref q5, .ref q6, .ref q7, .int 0, .ref q8, .ref q9, .ref q10, .ref q11, .ref q12, .ref q13, .ref q14, .ref q15, .ref q16, .ref q17, .ref q18, .ref q19, .ref q20, .int 0, .null, .null, .null])), (q1, .inl (cI, 6, .inl (fun _ => 0))), (q2, .inl (cI, 6, .inl (fun _ => 0))), (q3, .inl (cI, 6, .inl (fun _ => 0))), (q4, .inl (cI, 6, .inl (fun _ => 0))), (q5, .inl (cI, 48, .inl (fun _ => 0))), (q6, .inl (cI, 48, .inl (fun _ => 0))), (q7, .inl (cI, 48, .inl (fun _ => 0))), (q8, .inl (cI, 60, .inl (fun _ => 0))), (q9, .inl (cI, 60, .inl (fun _ => 0))), (q10, .inl (cI, 60, .inl (fun _ => 0))), (q11, .inl (cI, 60, .inl (fun _ => 0))), (q12, .inl (cI, 60, .inl (fun _ => 0))), (q13, .inl (cI, 60, .inl (fun _ => 0))), (q14, .inl (cI, 6, .inl (fun _ => 0))), (q15, .inl (cI, 48, .inl (fun _ => 0))), (q16, .inl (cJ, 54, .inr (.inl (fun _ => 0)))), (q17, .inl (cJ, 54, .inr (.inl (fun _ => 0)))), (q18, .inl (cI, 54, .inl (fun _ => 0))), (q19, .inl (cJ, 4, .inr (.inl (fun _ => 0)))), (q20, .inl (cJ, 4, .inr (.inl (fun _ => 0))))] := hD
  refine lv_aload_n hx hb dX7_init_162 rfl (lv_at hl 0 rfl) ?_
  refine lv_bipush (v := (8 : Int32)) hx hb dX7_init_163 (by decide) ?_
  refine va_newa (atype := .int) (ty := .int) (N' := 8) (a0 := (8, .inl (fun _ => 0))) hx hb (hts _ g1_57) rfl hK hP hD hS hA (fun _ => rfl) (by decide) (by decide +kernel) (by decide) (Nat.le_of_ble_eq_true rfl) (Nat.le_of_ble_eq_true rfl) dX7_init_165 (fun q21 cA H hK1 hP hD hS => ?_)
  obtain rfl : cI = cA := ra_int hK hK1
  have hP : va_P D vwCl [(h0, .inr (7, [.int 0, .int 0, .ref q1, .ref q2, .ref q3, .ref q4, .ref q5, .ref q6, .ref q7, .int 0, .ref q8, .ref q9, .ref q10, .ref q11, .ref q12, .ref q13, .ref q14, .ref q15, .ref q16, .ref q17, .ref q18, .ref q19, .ref q20, .int 0, .null, .null, .null])), (q1, .inl (cI, 6, .inl (fun _ => 0))), (q2, .inl (cI, 6, .inl (fun _ => 0))), (q3, .inl (cI, 6, .inl (fun _ => 0))), (q4, .inl (cI, 6, .inl (fun _ => 0))), (q5, .inl (cI, 48, .inl (fun _ => 0))), (q6, .inl (cI, 48, .inl (fun _ => 0))), (q7, .inl (cI, 48, .inl (fun _ => 0))), (q8, .inl (cI, 60, .inl (fun _ => 0))), (q9, .inl (cI, 60, .inl (fun _ => 0))), (q10, .inl (cI, 60, .inl (fun _ => 0))), (q11, .inl (cI, 60, .inl (fun _ => 0))), (q12, .inl (cI, 60, .inl (fun _ => 0))), (q13, .inl (cI, 60, .inl (fun _ => 0))), (q14, .inl (cI, 6, .inl (fun _ => 0))), (q15, .inl (cI, 48, .inl (fun _ => 0))), (q16, .inl (cJ, 54, .inr (.inl (fun _ => 0)))), (q17, .inl (cJ, 54, .inr (.inl (fun _ => 0)))), (q18, .inl (cI, 54, .inl (fun _ => 0))), (q19, .inl (cJ, 4, .inr (.inl (fun _ => 0)))), (q20, .inl (cJ, 4, .inr (.inl (fun _ => 0)))), (q21, .inl (cI, 8, .inl (fun _ => 0)))] H := hP
  have hD : va_D A [(h0, .inr (7, [.int 0, .int 0, .ref q1, .ref q2, .ref q3, .ref q4, .ref q5, .ref q6, .ref q7, .int 0, .ref q8, .ref q9, .ref q10, .ref q11, .ref q12, .ref q13, .ref q14, .ref q15, .ref q16, .ref q17, .ref q18, .ref q19, .ref q20, .int 0, .null, .null, .null])), (q1, .inl (cI, 6, .inl (fun _ => 0))), (q2, .inl (cI, 6, .inl (fun _ => 0))), (q3, .inl (cI, 6, .inl (fun _ => 0))), (q4, .inl (cI, 6, .inl (fun _ => 0))), (q5, .inl (cI, 48, .inl (fun _ => 0))), (q6, .inl (cI, 48, .inl (fun _ => 0))), (q7, .inl (cI, 48, .inl (fun _ => 0))), (q8, .inl (cI, 60, .inl (fun _ => 0))), (q9, .inl (cI, 60, .inl (fun _ => 0))), (q10, .inl (cI, 60, .inl (fun _ => 0))), (q11, .inl (cI, 60, .inl (fun _ => 0))), (q12, .inl (cI, 60, .inl (fun _ => 0))), (q13, .inl (cI, 60, .inl (fun _ => 0))), (q14, .inl (cI, 6, .inl (fun _ => 0))), (q15, .inl (cI, 48, .inl (fun _ => 0))), (q16, .inl (cJ, 54, .inr (.inl (fun _ => 0)))), (q17, .inl (cJ, 54, .inr (.inl (fun _ => 0)))), (q18, .inl (cI, 54, .inl (fun _ => 0))), (q19, .inl (cJ, 4, .inr (.inl (fun _ => 0)))), (q20, .inl (cJ, 4, .inr (.inl (fun _ => 0)))), (q21, .inl (cI, 8, .inl (fun _ => 0)))] := hD
  refine W.widen (k := 21) (n := 760) (Nat.le_of_ble_eq_true rfl) (Nat.le_of_ble_eq_true rfl) ?_
  refine va_putF (D := D) (ci := 7) (v := .ref q21) (ty := (.array .int)) (C := RX7) (T := TX7) (N := 27) hx hb hts cls7.1 tyX7 tyX7_ok nmX7 hown hK hP hD hS 0 rfl rfl 24 (by decide) (hts _ g3_85) (fun _ h9 => h9) rfl hin rfl (tyX7_ok 24 (by decide)) rfl rfl (Nat.le_of_ble_eq_true rfl) dX7_init_167 (fun H locs hP hD hS => ?_)
  have hP : va_P D vwCl [(h0, .inr (7, [.int 0, .int 0, .ref q1, .ref q2, .ref q3, .ref q4, .ref q5, .ref q6, .ref q7, .int 0, .ref q8, .ref q9, .ref q10, .ref q11, .ref q12, .ref q13, .ref q14, .ref q15, .ref q16, .ref q17, .ref q18, .ref q19, .ref q20, .int 0, .ref q21, .null, .null])), (q1, .inl (cI, 6, .inl (fun _ => 0))), (q2, .inl (cI, 6, .inl (fun _ => 0))), (q3, .inl (cI, 6, .inl (fun _ => 0))), (q4, .inl (cI, 6, .inl (fun _ => 0))), (q5, .inl (cI, 48, .inl (fun _ => 0))), (q6, .inl (cI, 48, .inl (fun _ => 0))), (q7, .inl (cI, 48, .inl (fun _ => 0))), (q8, .inl (cI, 60, .inl (fun _ => 0))), (q9, .inl (cI, 60, .inl (fun _ => 0))), (q10, .inl (cI, 60, .inl (fun _ => 0))), (q11, .inl (cI, 60, .inl (fun _ => 0))), (q12, .inl (cI, 60, .inl (fun _ => 0))), (q13, .inl (cI, 60, .inl (fun _ => 0))), (q14, .inl (cI, 6, .inl (fun _ => 0))), (q15, .inl (cI, 48, .inl (fun _ => 0))), (q16, .inl (cJ, 54, .inr (.inl (fun _ => 0)))), (q17, .inl (cJ, 54, .inr (.inl (fun _ => 0)))), (q18, .inl (cI, 54, .inl (fun _ => 0))), (q19, .inl (cJ, 4, .inr (.inl (fun _ => 0)))), (q20, .inl (cJ, 4, .inr (.inl (fun _ => 0)))), (q21, .inl (cI, 8, .inl (fun _ => 0)))] H := hP
  have hD : va_D A [(h0, .inr (7, [.int 0, .int 0, .ref q1, .ref q2, .ref q3, .ref q4, .ref q5, .ref q6, .ref q7, .int 0, .ref q8, .ref q9, .ref q10, .ref q11, .ref q12, .ref q13, .ref q14, .ref q15, .ref q16, .ref q17, .ref q18, .ref q19, .ref q20, .int 0, .ref q21, .null, .null])), (q1, .inl (cI, 6, .inl (fun _ => 0))), (q2, .inl (cI, 6, .inl (fun _ => 0))), (q3, .inl (cI, 6, .inl (fun _ => 0))), (q4, .inl (cI, 6, .inl (fun _ => 0))), (q5, .inl (cI, 48, .inl (fun _ => 0))), (q6, .inl (cI, 48, .inl (fun _ => 0))), (q7, .inl (cI, 48, .inl (fun _ => 0))), (q8, .inl (cI, 60, .inl (fun _ => 0))), (q9, .inl (cI, 60, .inl (fun _ => 0))), (q10, .inl (cI, 60, .inl (fun _ => 0))), (q11, .inl (cI, 60, .inl (fun _ => 0))), (q12, .inl (cI, 60, .inl (fun _ => 0))), (q13, .inl (cI, 60, .inl (fun _ => 0))), (q14, .inl (cI, 6, .inl (fun _ => 0))), (q15, .inl (cI, 48, .inl (fun _ => 0))), (q16, .inl (cJ, 54, .inr (.inl (fun _ => 0)))), (q17, .inl (cJ, 54, .inr (.inl (fun _ => 0)))), (q18, .inl (cI, 54, .inl (fun _ => 0))), (q19, .inl (cJ, 4, .inr (.inl (fun _ => 0)))), (q20, .inl (cJ, 4, .inr (.inl (fun _ => 0)))), (q21, .inl (cI, 8, .inl (fun _ => 0)))] := hD
  refine lv_aload_n hx hb dX7_init_170 rfl (lv_at hl 0 rfl) ?_
  refine lv_bipush (v := (8 : Int32)) hx hb dX7_init_171 (by decide) ?_
  refine va_newa (atype := .int) (ty := .int) (N' := 8) (a0 := (8, .inl (fun _ => 0))) hx hb (hts _ g1_57) rfl hK hP hD hS hA (fun _ => rfl) (by decide) (by decide +kernel) (by decide) (Nat.le_of_ble_eq_true rfl) (Nat.le_of_ble_eq_true rfl) dX7_init_173 (fun q22 cA H hK1 hP hD hS => ?_)
  obtain rfl : cI = cA := ra_int hK hK1
  have hP : va_P D vwCl [(h0, .inr (7, [.int 0, .int 0, .ref q1, .ref q2, .ref q3, .ref q4, .ref q5, .ref q6, .ref q7, .int 0, .ref q8, .ref q9, .ref q10, .ref q11, .ref q12, .ref q13, .ref q14, .ref q15, .ref q16, .ref q17, .ref q18, .ref q19, .ref q20, .int 0, .ref q21, .null, .null])), (q1, .inl (cI, 6, .inl (fun _ => 0))), (q2, .inl (cI, 6, .inl (fun _ => 0))), (q3, .inl (cI, 6, .inl (fun _ => 0))), (q4, .inl (cI, 6, .inl (fun _ => 0))), (q5, .inl (cI, 48, .inl (fun _ => 0))), (q6, .inl (cI, 48, .inl (fun _ => 0))), (q7, .inl (cI, 48, .inl (fun _ => 0))), (q8, .inl (cI, 60, .inl (fun _ => 0))), (q9, .inl (cI, 60, .inl (fun _ => 0))), (q10, .inl (cI, 60, .inl (fun _ => 0))), (q11, .inl (cI, 60, .inl (fun _ => 0))), (q12, .inl (cI, 60, .inl (fun _ => 0))), (q13, .inl (cI, 60, .inl (fun _ => 0))), (q14, .inl (cI, 6, .inl (fun _ => 0))), (q15, .inl (cI, 48, .inl (fun _ => 0))), (q16, .inl (cJ, 54, .inr (.inl (fun _ => 0)))), (q17, .inl (cJ, 54, .inr (.inl (fun _ => 0)))), (q18, .inl (cI, 54, .inl (fun _ => 0))), (q19, .inl (cJ, 4, .inr (.inl (fun _ => 0)))), (q20, .inl (cJ, 4, .inr (.inl (fun _ => 0)))), (q21, .inl (cI, 8, .inl (fun _ => 0))), (q22, .inl (cI, 8, .inl (fun _ => 0)))] H := hP
  have hD : va_D A [(h0, .inr (7, [.int 0, .int 0, .ref q1, .ref q2, .ref q3, .ref q4, .ref q5, .ref q6, .ref q7, .int 0, .ref q8, .ref q9, .ref q10, .ref q11, .ref q12, .ref q13, .ref q14, .ref q15, .ref q16, .ref q17, .ref q18, .ref q19, .ref q20, .int 0, .ref q21, .null, .null])), (q1, .inl (cI, 6, .inl (fun _ => 0))), (q2, .inl (cI, 6, .inl (fun _ => 0))), (q3, .inl (cI, 6, .inl (fun _ => 0))), (q4, .inl (cI, 6, .inl (fun _ => 0))), (q5, .inl (cI, 48, .inl (fun _ => 0))), (q6, .inl (cI, 48, .inl (fun _ => 0))), (q7, .inl (cI, 48, .inl (fun _ => 0))), (q8, .inl (cI, 60, .inl (fun _ => 0))), (q9, .inl (cI, 60, .inl (fun _ => 0))), (q10, .inl (cI, 60, .inl (fun _ => 0))), (q11, .inl (cI, 60, .inl (fun _ => 0))), (q12, .inl (cI, 60, .inl (fun _ => 0))), (q13, .inl (cI, 60, .inl (fun _ => 0))), (q14, .inl (cI, 6, .inl (fun _ => 0))), (q15, .inl (cI, 48, .inl (fun _ => 0))), (q16, .inl (cJ, 54, .inr (.inl (fun _ => 0)))), (q17, .inl (cJ, 54, .inr (.inl (fun _ => 0)))), (q18, .inl (cI, 54, .inl (fun _ => 0))), (q19, .inl (cJ, 4, .inr (.inl (fun _ => 0)))), (q20, .inl (cJ, 4, .inr (.inl (fun _ => 0)))), (q21, .inl (cI, 8, .inl (fun _ => 0))), (q22, .inl (cI, 8, .inl (fun _ => 0)))] := hD
  refine W.widen (k := 22) (n := 768) (Nat.le_of_ble_eq_true rfl) (Nat.le_of_ble_eq_true rfl) ?_
  refine va_putF (D := D) (ci := 7) (v := .ref q22) (ty := (.array .int)) (C := RX7) (T := TX7) (N := 27) hx hb hts cls7.1 tyX7 tyX7_ok nmX7 hown hK hP hD hS 0 rfl rfl 25 (by decide) (hts _ g3_86) (fun _ h9 => h9) rfl hin rfl (tyX7_ok 25 (by decide)) rfl rfl (Nat.le_of_ble_eq_true rfl) dX7_init_175 (fun H locs hP hD hS => ?_)
  have hP : va_P D vwCl [(h0, .inr (7, [.int 0, .int 0, .ref q1, .ref q2, .ref q3, .ref q4, .ref q5, .ref q6, .ref q7, .int 0, .ref q8, .ref q9, .ref q10, .ref q11, .ref q12, .ref q13, .ref q14, .ref q15, .ref q16, .ref q17, .ref q18, .ref q19, .ref q20, .int 0, .ref q21, .ref q22, .null])), (q1, .inl (cI, 6, .inl (fun _ => 0))), (q2, .inl (cI, 6, .inl (fun _ => 0))), (q3, .inl (cI, 6, .inl (fun _ => 0))), (q4, .inl (cI, 6, .inl (fun _ => 0))), (q5, .inl (cI, 48, .inl (fun _ => 0))), (q6, .inl (cI, 48, .inl (fun _ => 0))), (q7, .inl (cI, 48, .inl (fun _ => 0))), (q8, .inl (cI, 60, .inl (fun _ => 0))), (q9, .inl (cI, 60, .inl (fun _ => 0))), (q10, .inl (cI, 60, .inl (fun _ => 0))), (q11, .inl (cI, 60, .inl (fun _ => 0))), (q12, .inl (cI, 60, .inl (fun _ => 0))), (q13, .inl (cI, 60, .inl (fun _ => 0))), (q14, .inl (cI, 6, .inl (fun _ => 0))), (q15, .inl (cI, 48, .inl (fun _ => 0))), (q16, .inl (cJ, 54, .inr (.inl (fun _ => 0)))), (q17, .inl (cJ, 54, .inr (.inl (fun _ => 0)))), (q18, .inl (cI, 54, .inl (fun _ => 0))), (q19, .inl (cJ, 4, .inr (.inl (fun _ => 0)))), (q20, .inl (cJ, 4, .inr (.inl (fun _ => 0)))), (q21, .inl (cI, 8, .inl (fun _ => 0))), (q22, .inl (cI, 8, .inl (fun _ => 0)))] H := hP
  have hD : va_D A [(h0, .inr (7, [.int 0, .int 0, .ref q1, .ref q2, .ref q3, .ref q4, .ref q5, .ref q6, .ref q7, .int 0, .ref q8, .ref q9, .ref q10, .ref q11, .ref q12, .ref q13, .ref q14, .ref q15, .ref q16, .ref q17, .ref q18, .ref q19, .ref q20, .int 0, .ref q21, .ref q22, .null])), (q1, .inl (cI, 6, .inl (fun _ => 0))), (q2, .inl (cI, 6, .inl (fun _ => 0))), (q3, .inl (cI, 6, .inl (fun _ => 0))), (q4, .inl (cI, 6, .inl (fun _ => 0))), (q5, .inl (cI, 48, .inl (fun _ => 0))), (q6, .inl (cI, 48, .inl (fun _ => 0))), (q7, .inl (cI, 48, .inl (fun _ => 0))), (q8, .inl (cI, 60, .inl (fun _ => 0))), (q9, .inl (cI, 60, .inl (fun _ => 0))), (q10, .inl (cI, 60, .inl (fun _ => 0))), (q11, .inl (cI, 60, .inl (fun _ => 0))), (q12, .inl (cI, 60, .inl (fun _ => 0))), (q13, .inl (cI, 60, .inl (fun _ => 0))), (q14, .inl (cI, 6, .inl (fun _ => 0))), (q15, .inl (cI, 48, .inl (fun _ => 0))), (q16, .inl (cJ, 54, .inr (.inl (fun _ => 0)))), (q17, .inl (cJ, 54, .inr (.inl (fun _ => 0)))), (q18, .inl (cI, 54, .inl (fun _ => 0))), (q19, .inl (cJ, 4, .inr (.inl (fun _ => 0)))), (q20, .inl (cJ, 4, .inr (.inl (fun _ => 0)))), (q21, .inl (cI, 8, .inl (fun _ => 0))), (q22, .inl (cI, 8, .inl (fun _ => 0)))] := hD
  refine lv_aload_n hx hb dX7_init_178 rfl (lv_at hl 0 rfl) ?_
  refine lv_bipush (v := (8 : Int32)) hx hb dX7_init_179 (by decide) ?_
  refine va_newa (atype := .int) (ty := .int) (N' := 8) (a0 := (8, .inl (fun _ => 0))) hx hb (hts _ g1_57) rfl hK hP hD hS hA (fun _ => rfl) (by decide) (by decide +kernel) (by decide) (Nat.le_of_ble_eq_true rfl) (Nat.le_of_ble_eq_true rfl) dX7_init_181 (fun q23 cA H hK1 hP hD hS => ?_)
  obtain rfl : cI = cA := ra_int hK hK1
  have hP : va_P D vwCl [(h0, .inr (7, [.int 0, .int 0, .ref q1, .ref q2, .ref q3, .ref q4, .ref q5, .ref q6, .ref q7, .int 0, .ref q8, .ref q9, .ref q10, .ref q11, .ref q12, .ref q13, .ref q14, .ref q15, .ref q16, .ref q17, .ref q18, .ref q19, .ref q20, .int 0, .ref q21, .ref q22, .null])), (q1, .inl (cI, 6, .inl (fun _ => 0))), (q2, .inl (cI, 6, .inl (fun _ => 0))), (q3, .inl (cI, 6, .inl (fun _ => 0))), (q4, .inl (cI, 6, .inl (fun _ => 0))), (q5, .inl (cI, 48, .inl (fun _ => 0))), (q6, .inl (cI, 48, .inl (fun _ => 0))), (q7, .inl (cI, 48, .inl (fun _ => 0))), (q8, .inl (cI, 60, .inl (fun _ => 0))), (q9, .inl (cI, 60, .inl (fun _ => 0))), (q10, .inl (cI, 60, .inl (fun _ => 0))), (q11, .inl (cI, 60, .inl (fun _ => 0))), (q12, .inl (cI, 60, .inl (fun _ => 0))), (q13, .inl (cI, 60, .inl (fun _ => 0))), (q14, .inl (cI, 6, .inl (fun _ => 0))), (q15, .inl (cI, 48, .inl (fun _ => 0))), (q16, .inl (cJ, 54, .inr (.inl (fun _ => 0)))), (q17, .inl (cJ, 54, .inr (.inl (fun _ => 0)))), (q18, .inl (cI, 54, .inl (fun _ => 0))), (q19, .inl (cJ, 4, .inr (.inl (fun _ => 0)))), (q20, .inl (cJ, 4, .inr (.inl (fun _ => 0)))), (q21, .inl (cI, 8, .inl (fun _ => 0))), (q22, .inl (cI, 8, .inl (fun _ => 0))), (q23, .inl (cI, 8, .inl (fun _ => 0)))] H := hP
  have hD : va_D A [(h0, .inr (7, [.int 0, .int 0, .ref q1, .ref q2, .ref q3, .ref q4, .ref q5, .ref q6, .ref q7, .int 0, .ref q8, .ref q9, .ref q10, .ref q11, .ref q12, .ref q13, .ref q14, .ref q15, .ref q16, .ref q17, .ref q18, .ref q19, .ref q20, .int 0, .ref q21, .ref q22, .null])), (q1, .inl (cI, 6, .inl (fun _ => 0))), (q2, .inl (cI, 6, .inl (fun _ => 0))), (q3, .inl (cI, 6, .inl (fun _ => 0))), (q4, .inl (cI, 6, .inl (fun _ => 0))), (q5, .inl (cI, 48, .inl (fun _ => 0))), (q6, .inl (cI, 48, .inl (fun _ => 0))), (q7, .inl (cI, 48, .inl (fun _ => 0))), (q8, .inl (cI, 60, .inl (fun _ => 0))), (q9, .inl (cI, 60, .inl (fun _ => 0))), (q10, .inl (cI, 60, .inl (fun _ => 0))), (q11, .inl (cI, 60, .inl (fun _ => 0))), (q12, .inl (cI, 60, .inl (fun _ => 0))), (q13, .inl (cI, 60, .inl (fun _ => 0))), (q14, .inl (cI, 6, .inl (fun _ => 0))), (q15, .inl (cI, 48, .inl (fun _ => 0))), (q16, .inl (cJ, 54, .inr (.inl (fun _ => 0)))), (q17, .inl (cJ, 54, .inr (.inl (fun _ => 0)))), (q18, .inl (cI, 54, .inl (fun _ => 0))), (q19, .inl (cJ, 4, .inr (.inl (fun _ => 0)))), (q20, .inl (cJ, 4, .inr (.inl (fun _ => 0)))), (q21, .inl (cI, 8, .inl (fun _ => 0))), (q22, .inl (cI, 8, .inl (fun _ => 0))), (q23, .inl (cI, 8, .inl (fun _ => 0)))] := hD
  refine W.widen (k := 23) (n := 776) (Nat.le_of_ble_eq_true rfl) (Nat.le_of_ble_eq_true rfl) ?_
  refine va_putF (D := D) (ci := 7) (v := .ref q23) (ty := (.array .int)) (C := RX7) (T := TX7) (N := 27) hx hb hts cls7.1 tyX7 tyX7_ok nmX7 hown hK hP hD hS 0 rfl rfl 26 (by decide) (hts _ g3_87) (fun _ h9 => h9) rfl hin rfl (tyX7_ok 26 (by decide)) rfl rfl (Nat.le_of_ble_eq_true rfl) dX7_init_183 (fun H locs hP hD hS => ?_)
  have hP : va_P D vwCl [(h0, .inr (7, [.int 0, .int 0, .ref q1, .ref q2, .ref q3, .ref q4, .ref q5, .ref q6, .ref q7, .int 0, .ref q8, .ref q9, .ref q10, .ref q11, .ref q12, .ref q13, .ref q14, .ref q15, .ref q16, .ref q17, .ref q18, .ref q19, .ref q20, .int 0, .ref q21, .ref q22, .ref q23])), (q1, .inl (cI, 6, .inl (fun _ => 0))), (q2, .inl (cI, 6, .inl (fun _ => 0))), (q3, .inl (cI, 6, .inl (fun _ => 0))), (q4, .inl (cI, 6, .inl (fun _ => 0))), (q5, .inl (cI, 48, .inl (fun _ => 0))), (q6, .inl (cI, 48, .inl (fun _ => 0))), (q7, .inl (cI, 48, .inl (fun _ => 0))), (q8, .inl (cI, 60, .inl (fun _ => 0))), (q9, .inl (cI, 60, .inl (fun _ => 0))), (q10, .inl (cI, 60, .inl (fun _ => 0))), (q11, .inl (cI, 60, .inl (fun _ => 0))), (q12, .inl (cI, 60, .inl (fun _ => 0))), (q13, .inl (cI, 60, .inl (fun _ => 0))), (q14, .inl (cI, 6, .inl (fun _ => 0))), (q15, .inl (cI, 48, .inl (fun _ => 0))), (q16, .inl (cJ, 54, .inr (.inl (fun _ => 0)))), (q17, .inl (cJ, 54, .inr (.inl (fun _ => 0)))), (q18, .inl (cI, 54, .inl (fun _ => 0))), (q19, .inl (cJ, 4, .inr (.inl (fun _ => 0)))), (q20, .inl (cJ, 4, .inr (.inl (fun _ => 0)))), (q21, .inl (cI, 8, .inl (fun _ => 0))), (q22, .inl (cI, 8, .inl (fun _ => 0))), (q23, .inl (cI, 8, .inl (fun _ => 0)))] H := hP
  have hD : va_D A [(h0, .inr (7, [.int 0, .int 0, .ref q1, .ref q2, .ref q3, .ref q4, .ref q5, .ref q6, .ref q7, .int 0, .ref q8, .ref q9, .ref q10, .ref q11, .ref q12, .ref q13, .ref q14, .ref q15, .ref q16, .ref q17, .ref q18, .ref q19, .ref q20, .int 0, .ref q21, .ref q22, .ref q23])), (q1, .inl (cI, 6, .inl (fun _ => 0))), (q2, .inl (cI, 6, .inl (fun _ => 0))), (q3, .inl (cI, 6, .inl (fun _ => 0))), (q4, .inl (cI, 6, .inl (fun _ => 0))), (q5, .inl (cI, 48, .inl (fun _ => 0))), (q6, .inl (cI, 48, .inl (fun _ => 0))), (q7, .inl (cI, 48, .inl (fun _ => 0))), (q8, .inl (cI, 60, .inl (fun _ => 0))), (q9, .inl (cI, 60, .inl (fun _ => 0))), (q10, .inl (cI, 60, .inl (fun _ => 0))), (q11, .inl (cI, 60, .inl (fun _ => 0))), (q12, .inl (cI, 60, .inl (fun _ => 0))), (q13, .inl (cI, 60, .inl (fun _ => 0))), (q14, .inl (cI, 6, .inl (fun _ => 0))), (q15, .inl (cI, 48, .inl (fun _ => 0))), (q16, .inl (cJ, 54, .inr (.inl (fun _ => 0)))), (q17, .inl (cJ, 54, .inr (.inl (fun _ => 0)))), (q18, .inl (cI, 54, .inl (fun _ => 0))), (q19, .inl (cJ, 4, .inr (.inl (fun _ => 0)))), (q20, .inl (cJ, 4, .inr (.inl (fun _ => 0)))), (q21, .inl (cI, 8, .inl (fun _ => 0))), (q22, .inl (cI, 8, .inl (fun _ => 0))), (q23, .inl (cI, 8, .inl (fun _ => 0)))] := hD
  refine lv_aload_n hx hb dX7_init_186 rfl (lv_at hl 0 rfl) ?_
  refine lv_bipush (v := (100 : Int32)) hx hb dX7_init_187 (by decide) ?_
  refine va_put (D := D) (ci := 7) (v := .int (100 : Int32)) (ty := .int) (C := RX7) (T := TX7) (N := 27) hx hb hts cls7.1 tyX7 tyX7_ok nmX7 hown hK hP hD hS 0 rfl rfl 0 (by decide) (hts _ g3_61) (fun _ h9 => h9) rfl (tyX7_ok 0 (by decide)) rfl rfl (Nat.le_of_ble_eq_true rfl) dX7_init_189 (fun H locs hP hD hS => ?_)
  have hP : va_P D vwCl [(h0, .inr (7, [.int (100 : Int32), .int 0, .ref q1, .ref q2, .ref q3, .ref q4, .ref q5, .ref q6, .ref q7, .int 0, .ref q8, .ref q9, .ref q10, .ref q11, .ref q12, .ref q13, .ref q14, .ref q15, .ref q16, .ref q17, .ref q18, .ref q19, .ref q20, .int 0, .ref q21, .ref q22, .ref q23])), (q1, .inl (cI, 6, .inl (fun _ => 0))), (q2, .inl (cI, 6, .inl (fun _ => 0))), (q3, .inl (cI, 6, .inl (fun _ => 0))), (q4, .inl (cI, 6, .inl (fun _ => 0))), (q5, .inl (cI, 48, .inl (fun _ => 0))), (q6, .inl (cI, 48, .inl (fun _ => 0))), (q7, .inl (cI, 48, .inl (fun _ => 0))), (q8, .inl (cI, 60, .inl (fun _ => 0))), (q9, .inl (cI, 60, .inl (fun _ => 0))), (q10, .inl (cI, 60, .inl (fun _ => 0))), (q11, .inl (cI, 60, .inl (fun _ => 0))), (q12, .inl (cI, 60, .inl (fun _ => 0))), (q13, .inl (cI, 60, .inl (fun _ => 0))), (q14, .inl (cI, 6, .inl (fun _ => 0))), (q15, .inl (cI, 48, .inl (fun _ => 0))), (q16, .inl (cJ, 54, .inr (.inl (fun _ => 0)))), (q17, .inl (cJ, 54, .inr (.inl (fun _ => 0)))), (q18, .inl (cI, 54, .inl (fun _ => 0))), (q19, .inl (cJ, 4, .inr (.inl (fun _ => 0)))), (q20, .inl (cJ, 4, .inr (.inl (fun _ => 0)))), (q21, .inl (cI, 8, .inl (fun _ => 0))), (q22, .inl (cI, 8, .inl (fun _ => 0))), (q23, .inl (cI, 8, .inl (fun _ => 0)))] H := hP
  have hD : va_D A [(h0, .inr (7, [.int (100 : Int32), .int 0, .ref q1, .ref q2, .ref q3, .ref q4, .ref q5, .ref q6, .ref q7, .int 0, .ref q8, .ref q9, .ref q10, .ref q11, .ref q12, .ref q13, .ref q14, .ref q15, .ref q16, .ref q17, .ref q18, .ref q19, .ref q20, .int 0, .ref q21, .ref q22, .ref q23])), (q1, .inl (cI, 6, .inl (fun _ => 0))), (q2, .inl (cI, 6, .inl (fun _ => 0))), (q3, .inl (cI, 6, .inl (fun _ => 0))), (q4, .inl (cI, 6, .inl (fun _ => 0))), (q5, .inl (cI, 48, .inl (fun _ => 0))), (q6, .inl (cI, 48, .inl (fun _ => 0))), (q7, .inl (cI, 48, .inl (fun _ => 0))), (q8, .inl (cI, 60, .inl (fun _ => 0))), (q9, .inl (cI, 60, .inl (fun _ => 0))), (q10, .inl (cI, 60, .inl (fun _ => 0))), (q11, .inl (cI, 60, .inl (fun _ => 0))), (q12, .inl (cI, 60, .inl (fun _ => 0))), (q13, .inl (cI, 60, .inl (fun _ => 0))), (q14, .inl (cI, 6, .inl (fun _ => 0))), (q15, .inl (cI, 48, .inl (fun _ => 0))), (q16, .inl (cJ, 54, .inr (.inl (fun _ => 0)))), (q17, .inl (cJ, 54, .inr (.inl (fun _ => 0)))), (q18, .inl (cI, 54, .inl (fun _ => 0))), (q19, .inl (cJ, 4, .inr (.inl (fun _ => 0)))), (q20, .inl (cJ, 4, .inr (.inl (fun _ => 0)))), (q21, .inl (cI, 8, .inl (fun _ => 0))), (q22, .inl (cI, 8, .inl (fun _ => 0))), (q23, .inl (cI, 8, .inl (fun _ => 0)))] := hD
  exact W.vret hx hb hr (fun t ht hW => ⟨⟨(fun k => [h0, q1, q2, q3, q4, q5, q6, q7, q8, q9, q10, q11, q12, q13, q14, q15, q16, q17, q18, q19, q20, q21, q22, q23].getD k 0), rfl, rfl, by show va_P D vwCl _ t.heap; rw [ht]; exact hP, hD⟩, hS.F ht⟩) hS.2.2 dX7_init_192
end
section
-- ===== what is made on the way: a Figure with its three rows, a Move =====
def wrow (σ : St) (t : Nat) (f : Nat → Int32) : St := (va_up σ.1 t f, σ.2)
def Ext (w0 w : Wp) (b : Nat) : Prop := (wA w = wA w0 ∧ wD w = wD w0 ∧ wcI w = wcI w0 ∧ wcJ w = wcJ w0 ∧ wcF w = wcF w0 ∧ wcM w = wcM w0) ∧ (∀ c, wK w0 c ≠ 0 → wa w c = wa w0 c ∧ wK w c = wK w0 c ∧ wl w c = wl w0 c) ∧ ∀ c, wK w c ≠ 0 → wK w0 c ≠ 0 ∨ (b ≤ c ∧ c < b + 4)
theorem Ext.refl (w : Wp) (b : Nat) : Ext w w b := ⟨⟨rfl, rfl, rfl, rfl, rfl, rfl⟩, fun _ _ => ⟨rfl, rfl, rfl⟩, fun _ h => Or.inl h⟩
/-- an answer in a world that has grown -/
def QE (w0 : Wp) (b : Nat) (σ : St) (r : Int32) : QI := va_Qi (fun r' (w' : Wp) => r' = r ∧ Ext w0 w' b ∧ CW w') (fun w' t => Wd w' σ t.heap) (wA w0)
/-- a world in which the tag t has another kind, length and address -/
def setw (w : Wp) (t k n q : Nat) : Wp := (wA w, va_up (wa w) t q, va_up (wK w) t k, va_up (wl w) t n, wD w, wcI w, wcJ w, wcF w, wcM w)
theorem up_keep {f : Nat → Nat} {c t k v : Nat} (h : f c = k) (hk : k ≠ 0) (ht : f t = 0) : va_up f t v c = k := by
  rw [va_up_ne]
  · exact h
  · intro e; subst e; omega
theorem up_keepl {f g : Nat → Nat} {c t k n v : Nat} (h : f c = k) (hk : k ≠ 0) (ht : f t = 0) (hg : g c = n) : va_up g t v c = n := by
  rw [va_up_ne]
  · exact hg
  · intro e; subst e; omega
theorem CW.fresh {w : Wp} {t k n q : Nat} (h : CW w) (ht : wK w t = 0) (h1 : k ≠ 1) (h3 : k ≠ 3) : CW (setw w t k n q) := by
  have key : ∀ c m, wK w c = m → m ≠ 0 → va_up (wK w) t k c = m := fun c m a b => up_keep a b ht
  have keyl : ∀ c m i, wK w c = m → m ≠ 0 → wl w c = i → va_up (wl w) t n c = i := fun c m i a b e => up_keepl a b ht e
  refine ⟨up_keep (CK0 h) (by decide) ht, up_keep (CK1 h) (by decide) ht, up_keepl (CK1 h) (by decide) ht (CL1 h), up_keep (CK2 h) (by decide) ht, up_keep (CK3 h) (by decide) ht, up_keepl (CK3 h) (by decide) ht (CL3 h), up_keep (CK4 h) (by decide) ht, up_keep (CK5 h) (by decide) ht, up_keepl (CK5 h) (by decide) ht (CL5 h), up_keep (CK6 h) (by decide) ht, up_keepl (CK6 h) (by decide) ht (CL6 h), up_keep (CK7 h) (by decide) ht, up_keep (CK8 h) (by decide) ht, up_keepl (CK8 h) (by decide) ht (CL8 h), up_keep (CK9 h) (by decide) ht, up_keepl (CK9 h) (by decide) ht (CL9 h), up_keep (CK10 h) (by decide) ht, up_keepl (CK10 h) (by decide) ht (CL10 h), up_keep (CK11 h) (by decide) ht, up_keepl (CK11 h) (by decide) ht (CL11 h), up_keep (CK12 h) (by decide) ht, up_keep (CK13 h) (by decide) ht, up_keepl (CK13 h) (by decide) ht (CL13 h), up_keep (CK14 h) (by decide) ht, up_keepl (CK14 h) (by decide) ht (CL14 h), up_keep (CK15 h) (by decide) ht, up_keepl (CK15 h) (by decide) ht (CL15 h), up_keep (CK16 h) (by decide) ht, up_keepl (CK16 h) (by decide) ht (CL16 h), up_keep (CK17 h) (by decide) ht, up_keep (CK18 h) (by decide) ht, fun c hc => ?_, fun c hc => ?_⟩
  · have hc : va_up (wK w) t k c = 1 := hc
    have e : c ≠ t := fun e => by rw [e, va_up_self] at hc; exact h1 hc
    rw [va_up_ne _ _ e] at hc
    exact ⟨key _ 9 (CFk1 h hc) (by decide), keyl _ 9 8 (CFk1 h hc) (by decide) (CFl1 h hc), key _ 9 (CFk2 h hc) (by decide), keyl _ 9 8 (CFk2 h hc) (by decide) (CFl2 h hc), key _ 9 (CFk3 h hc) (by decide), keyl _ 9 8 (CFk3 h hc) (by decide) (CFl3 h hc)⟩
  · have hc : va_up (wK w) t k c = 3 := hc
    have e : c ≠ t := fun e => by rw [e, va_up_self] at hc; exact h3 hc
    rw [va_up_ne _ _ e] at hc
    exact ⟨key _ 9 (CPk1 h hc) (by decide), keyl _ 9 8 (CPk1 h hc) (by decide) (CPl1 h hc), key _ 9 (CPk2 h hc) (by decide), keyl _ 9 9 (CPk2 h hc) (by decide) (CPl2 h hc), key _ 9 (CPk3 h hc) (by decide), keyl _ 9 9 (CPk3 h hc) (by decide) (CPl3 h hc), key _ 9 (CPk4 h hc) (by decide), keyl _ 9 9 (CPk4 h hc) (by decide) (CPl4 h hc)⟩
/-- a cell looks the same in a world that differs only from b on -/
theorem ce_ext {w w' : Wp} {c b : Nat} {i : Nat → Int32} {l : Nat → Int64} {r : Nat → Option Nat} (hc : c + 24 ≤ b) (ha : ∀ x, x < b → wa w' x = wa w x) (hK : wK w' c = wK w c) (hl : wl w' c = wl w c) (h1 : wcI w' = wcI w) (h2 : wcJ w' = wcJ w) (h3 : wcF w' = wcF w) (h4 : wcM w' = wcM w) (hr : wK w c = 11 ∨ wK w c = 12 → ∀ j t', r j = some t' → t' < b) : ce w' c i l r = ce w c i l r := by
  have e : ∀ k, k < 24 → rf w' (c + k) = rf w (c + k) := fun k hk => congrArg Value.ref (ha _ (by omega))
  have er : (wK w c = 11 ∨ wK w c = 12) → (fun j => (r j).map (wa w')) = (fun j => (r j).map (wa w)) := fun h => by
    funext j
    cases hj : r j with
    | none => rfl
    | some t' => simp only [Option.map_some]; rw [ha t' (hr h j t' hj)]
  unfold ce
  rw [hK, hl, h1, h2, h3, h4]
  unfold fs0 fs1 fs2 fs3 fs4 fs5 fs6 fs7
  rw [e 1 (by decide), e 2 (by decide), e 3 (by decide), e 4 (by decide), e 5 (by decide), e 6 (by decide), e 7 (by decide), e 8 (by decide), e 9 (by decide), e 10 (by decide), e 11 (by decide), e 12 (by decide), e 13 (by decide), e 14 (by decide), e 15 (by decide), e 16 (by decide), e 17 (by decide), e 18 (by decide), e 19 (by decide), e 20 (by decide), e 21 (by decide), e 22 (by decide), e 23 (by decide)]
  split <;> first | rfl | skip
  · rw [er (Or.inl (by assumption))]
  · rw [er (Or.inr (by assumption))]
/-- the tags from b on are free -/
def Fre (w : Wp) (b : Nat) : Prop := ∀ c, wK w c ≠ 0 → c + 24 ≤ b
theorem Fre.z {w : Wp} {b c : Nat} (h : Fre w b) (hc : b ≤ c) : wK w c = 0 := Classical.byContradiction fun e => by have := h c e; omega
theorem Wd.lt {w : Wp} {σ : St} {H : Heap} (h : Wd w σ H) {c : Nat} (hc : wK w c ≠ 0) : wa w c < H.size := ((h.1 c hc).1).lt
/-- a world that differs from b on -/
theorem Wd.grow {w w' : Wp} {σ σ' : St} {H H1 : Heap} (b : Nat) (h : Wd w σ H) (hs : wA w' = wA w ∧ wD w' = wD w ∧ wcI w' = wcI w ∧ wcJ w' = wcJ w ∧ wcF w' = wcF w ∧ wcM w' = wcM w) (hkb : wK w b ≠ 1 ∧ wK w b ≠ 2) (hold : ∀ c, wK w c ≠ 0 → c ≠ b → c + 24 ≤ b) (hsm : ∀ c, c < b → wK w' c = wK w c ∧ wl w' c = wl w c ∧ wa w' c = wa w c ∧ σ'.1 c = σ.1 c ∧ σ'.2.1 c = σ.2.1 c ∧ σ'.2.2 c = σ.2.2 c)
    (hnew : ∀ c, b ≤ c → wK w' c ≠ 0 → va_at (wD w') vwCl (wa w' c, ceS w' c σ') H1 ∧ wA w' (wa w' c) ∧ wK w' c ≠ 11 ∧ wK w' c ≠ 12) (ho : ∀ c, wK w c ≠ 0 → c ≠ b → H1[wa w c]? = H[wa w c]?) (hinj : ∀ t t', wK w' t ≠ 0 → wK w' t' ≠ 0 → b ≤ t → wa w' t = wa w' t' → t = t') : Wd w' σ' H1 := by
  obtain ⟨sA, sD, s1, s2, s3, s4⟩ := hs
  have old : ∀ c, c < b → wK w' c ≠ 0 → wK w c ≠ 0 ∧ c ≠ b := fun c hc hk => ⟨by rw [← (hsm c hc).1]; exact hk, by omega⟩
  have typ : ∀ t', wK w t' = 1 ∨ wK w t' = 2 → t' < b := fun t' ht => by
    have h0 : wK w t' ≠ 0 := by rcases ht with ht | ht <;> rw [ht] <;> decide
    have h1 : t' ≠ b := fun e => by subst e; rcases ht with ht | ht; exact hkb.1 ht; exact hkb.2 ht
    have := hold t' h0 h1
    omega
  refine ⟨fun c hc => ?_, ?_, ?_, ?_⟩
  · by_cases e : c < b
    · obtain ⟨k1, k2⟩ := old c e hc
      obtain ⟨g1, g2, g3, g4, g5, g6⟩ := hsm c e
      have q := h.1 c k1
      have ec : ceS w' c σ' = ceS w c σ := by
        show ce w' c (σ'.1 c) (σ'.2.1 c) (σ'.2.2 c) = _
        rw [g4, g5, g6]
        refine ce_ext (b := b) (hold c k1 k2) (fun x hx => (hsm x hx).2.2.1) g1 g2 s1 s2 s3 s4 (fun hh j t' hj => typ t' ?_)
        rcases hh with hh | hh
        · exact Or.inl (h.2.1 c j t' hh hj)
        · exact Or.inr (h.2.2.1 c j t' hh hj)
      rw [ec, g3, sD, sA]
      exact ⟨q.1.kept (ho c k1 k2), q.2⟩
    · obtain ⟨a1, a2, -⟩ := hnew c (by omega) hc
      exact ⟨a1, a2⟩
  · intro c j t' h2 h3
    have e : c < b := Nat.not_le.mp fun e => (hnew c e (by rw [h2]; decide)).2.2.1 h2
    obtain ⟨g1, g2, g3, g4, g5, g6⟩ := hsm c e
    rw [g1] at h2
    rw [g6] at h3
    have h4 := h.2.1 c j t' h2 h3
    rw [(hsm t' (typ t' (Or.inl h4))).1]
    exact h4
  · intro c j t' h2 h3
    have e : c < b := Nat.not_le.mp fun e => (hnew c e (by rw [h2]; decide)).2.2.2 h2
    obtain ⟨g1, g2, g3, g4, g5, g6⟩ := hsm c e
    rw [g1] at h2
    rw [g6] at h3
    have h4 := h.2.2.1 c j t' h2 h3
    rw [(hsm t' (typ t' (Or.inr h4))).1]
    exact h4
  · intro c c' hc hc' e
    by_cases e1 : b ≤ c
    · exact hinj c c' hc hc' e1 e
    · by_cases e2 : b ≤ c'
      · exact (hinj c' c hc' hc e2 e.symm).symm
      · rw [(hsm c (by omega)).2.2.1, (hsm c' (by omega)).2.2.1] at e
        exact h.2.2.2 c c' (old c (by omega) hc).1 (old c' (by omega) hc').1 e
section ALLOC
variable {X : Cx} {w w0 : Wp} {cc : ByteArray} {nL : Nat} {own : String} {ret : Option FieldType} {rm : Room} {Q : QI} {σ : St} {pc b : Nat}
def addX (X : Cx) (k n : Nat) : Cx := (xp X, xl X, xe X, xR X, xs X, xm X, xa X, xb X, xM X, xc X, xQ X, xcl X + k, xsl X + n)
theorem J.conv {lv lv' : List (Nat × Value)} {st st' : List Value} (h1 : lv = lv') (h2 : st = st') (k : J X w nL σ pc lv' st') : J X w nL σ pc lv st := by rw [h1, h2]; exact k
/-- new: a raw object at the tag b (kind 13: a Figure, 14: a Move) -/
theorem r_new (hX : OK X w cc nL own ret rm Q) (hW : CW w) (hE : Ext w0 w b) (hF : Fre w b) {C : String} {T : u_T} {N ci kd index : Nat} {fs : List Value} (hC : CI ci C T N) (hk : kd = 13 ∧ ci = 0 ∨ kd = 14 ∧ ci = 1) (hce : ∀ w' i l r, wK w' b = kd → ce w' b i l r = .inr (ci, fs)) (ty : Nat → FieldType) (hty : ∀ k, k < N → parseFieldDescriptor (T k).2.2.1 = some (ty k)) (hfs : ∀ j, j < N → defaultValue (ty j) = vp_V fs j) (hl : Cond.classLink own index C ∈ GT) (hins : Cond.instantiable C N ∈ GT) (hini : Cond.initialized C ∈ GT) (h1 : xcl X + 1 ≤ rm.cells) (h2 : xsl X + N ≤ rm.slots) (hdg : decode cc pc = .ok (.new index, 3)) (lvf : Wp → List (Nat × Value)) (stf : Wp → List Value) (hlv : ∀ w' : Wp, (∀ c, wK w c ≠ 0 → wa w' c = wa w c) → lvf w = lvf w' ∧ stf w = stf w')
    (kk : ∀ (X' : Cx) (w' : Wp), (xcl X' = xcl X + 1 ∧ xsl X' = xsl X + N) → OK X' w' cc nL own ret rm Q → CW w' → Ext w0 w' b → wK w' b = kd → Fre w b → (∀ c, wK w' c ≠ 0 → c = b ∨ wK w c ≠ 0) → J X' w' nL σ (pc + 3) (lvf w') (rf w' b :: stf w')) : J X w nL σ pc (lvf w) (stf w) := fun H locs ls a bS c => by
  have hK := hX.2.2.2.2.2.1.1
  have hKn := hK.1 ci _ hC.2.1
  have hbz : wK w b = 0 := hF.z (Nat.le_refl _)
  refine W.newcK hX.1 hX.2.1 hX.2.2.2.1 (hX.2.2.2.2.1 _ hl) (hX.2.2.2.2.1 _ hins) (hX.2.2.2.2.1 _ hini) rfl hdg (by rw [hX.2.2.2.2.2.2.2.2.1]; exact h1) (by rw [hX.2.2.2.2.2.2.2.2.1]; exact h2) hKn.2.1 rfl fun H1 kC hkC e1 z1 o1 => ?_
  have hne : kd ≠ 0 ∧ kd ≠ 1 ∧ kd ≠ 3 ∧ kd ≠ 11 ∧ kd ≠ 12 := by rcases hk with ⟨e, -⟩ | ⟨e, -⟩ <;> rw [e] <;> decide
  have hKb : wK (setw w b kd 0 H.size) b = kd := va_up_self _ _ _
  have hoth : ∀ x, x ≠ b → wK (setw w b kd 0 H.size) x = wK w x := fun x e => va_up_ne _ _ e
  have hadr : ∀ x, x ≠ b → wa (setw w b kd 0 H.size) x = wa w x := fun x e => va_up_ne _ _ e
  have hab : wa (setw w b kd 0 H.size) b = H.size := va_up_self _ _ _
  have hnb : ∀ x, wK w x ≠ 0 → x ≠ b := fun x hx e => by rw [e] at hx; exact hx hbz
  have hlive : ∀ x, wK (setw w b kd 0 H.size) x ≠ 0 → x = b ∨ wK w x ≠ 0 := fun x hx => by
    by_cases e : x = b
    · exact Or.inl e
    · rw [hoth x e] at hx; exact Or.inr hx
  have hAq : wA w H.size := hX.2.2.2.2.2.1.2.2.2 _ bS.1
  have hat : va_at (wD w) vwCl (H.size, .inr (ci, fs)) H1 := ⟨_, hC.2.1, (u_born ty hX.2.2.2.2.1 hC.1 hKn hkC e1 hty).to hfs⟩
  have hWd : Wd (setw w b kd 0 H.size) σ H1 := by
    refine a.grow b ⟨rfl, rfl, rfl, rfl, rfl, rfl⟩ ⟨by rw [hbz]; decide, by rw [hbz]; decide⟩ (fun c h _ => hF c h) (fun c hc => ⟨hoth c (by omega), va_up_ne _ _ (by omega), hadr c (by omega), rfl, rfl, rfl⟩) (fun c hc h => ?_) (fun c h _ => o1 _ (a.lt h)) (fun t t' ht ht' hbt e => ?_)
    · have e : c = b := (hlive c h).elim id (fun q => by have := hF c q; omega)
      subst e
      rw [hab, show ceS (setw w c kd 0 H.size) c σ = _ from hce _ _ _ _ hKb, hKb]
      exact ⟨hat, hAq, hne.2.2.2⟩
    · have et : t = b := (hlive t ht).elim id (fun q => by have := hF t q; omega)
      subst et
      rcases hlive t' ht' with q | q
      · exact q.symm
      · rw [hab, hadr t' (hnb t' q)] at e
        have := a.lt q
        omega
  have hJ := kk (addX X 1 N) (setw w b kd 0 H.size) ⟨rfl, rfl⟩ (by
      obtain ⟨g1, g2, g3, g4, g5, g6, g7, g8, g9, g10, g11, g12⟩ := hX
      exact ⟨g1, g2, g3, g4, g5, g6, g7, g8, g9, g10, h1, h2⟩) (hW.fresh hbz hne.2.1 hne.2.2.1) ⟨hE.1, fun c hc => by
        obtain ⟨q1, q2, q3⟩ := hE.2.1 c hc
        have hcb : c ≠ b := hnb c (by rw [q2]; exact hc)
        exact ⟨(hadr c hcb).trans q1, (hoth c hcb).trans q2, (va_up_ne _ _ hcb).trans q3⟩, fun c hc => by
        rcases hlive c hc with e | q
        · exact Or.inr ⟨by omega, by omega⟩
        · exact hE.2.2 c q⟩ hKb hF hlive
  obtain ⟨el, es⟩ := hlv (setw w b kd 0 H.size) (fun c hc => hadr c (hnb c hc))
  rw [el] at c
  rw [es]
  have hab2 : (rf (setw w b kd 0 H.size) b) = .ref H.size := congrArg Value.ref hab
  rw [hab2] at hJ
  exact hJ H1 locs ls hWd ⟨Nat.le_trans bS.1 (by omega), fun x g1 g2 => (o1 x (Nat.lt_of_lt_of_le g1 bS.1)).trans (bS.2.1 x g1 g2), bS.2.2⟩ c
end ALLOC
end
