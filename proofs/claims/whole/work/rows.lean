section
-- ===== PART A: goes FIRST, ahead of the names: the tables' words, and 'selects' of the private methods out of them =====
/-- a private method of a class that the tables say can be made, by its rows of tables_1 -/
def lw_okq (q : MethodName × Nat) : Prop := (q.1.cls ≠ "java/lang/invoke/MethodHandle" ∧ q.1.cls ≠ "java/lang/invoke/VarHandle") ∧ Cond.instantiable q.1.cls q.2 ∈ tables_1 ∧ Cond.privateMethod q.1 ∈ tables_1 ∧ Cond.instanceMethod q.1 ∈ tables_1
theorem lw_p0 : lw_okq (⟨"LeakCarousel", "remember", "()V"⟩, 6) := ⟨⟨by decide +kernel, by decide +kernel⟩, List.mem_of_getElem? (i := 15) (by decide +kernel), List.mem_of_getElem? (i := 289) (by decide +kernel), List.mem_of_getElem? (i := 290) (by decide +kernel)⟩
theorem lw_p1 : lw_okq (⟨"LeakCarousel", "dropOldest", "()V"⟩, 6) := ⟨⟨by decide +kernel, by decide +kernel⟩, List.mem_of_getElem? (i := 15) (by decide +kernel), List.mem_of_getElem? (i := 293) (by decide +kernel), List.mem_of_getElem? (i := 294) (by decide +kernel)⟩
theorem lw_p2 : lw_okq (⟨"LeakCarousel", "doSteps", "(I)I"⟩, 6) := ⟨⟨by decide +kernel, by decide +kernel⟩, List.mem_of_getElem? (i := 15) (by decide +kernel), List.mem_of_getElem? (i := 375) (by decide +kernel), List.mem_of_getElem? (i := 376) (by decide +kernel)⟩
theorem lw_p3 : lw_okq (⟨"LeakCarousel$Carousel", "endTest", "(LLeakCarousel$Head;)Z"⟩, 10) := ⟨⟨by decide +kernel, by decide +kernel⟩, List.mem_of_getElem? (i := 23) (by decide +kernel), List.mem_of_getElem? (i := 384) (by decide +kernel), List.mem_of_getElem? (i := 385) (by decide +kernel)⟩
theorem lw_p4 : lw_okq (⟨"LeakCarousel$Carousel", "valueOf", "(DLLeakCarousel$Part;LLeakCarousel$Head;)D"⟩, 10) := ⟨⟨by decide +kernel, by decide +kernel⟩, List.mem_of_getElem? (i := 23) (by decide +kernel), List.mem_of_getElem? (i := 392) (by decide +kernel), List.mem_of_getElem? (i := 393) (by decide +kernel)⟩
theorem lw_p5 : lw_okq (⟨"LeakCarousel$Carousel", "judge", "(LLeakCarousel$Part;LLeakCarousel$Head;)V"⟩, 10) := ⟨⟨by decide +kernel, by decide +kernel⟩, List.mem_of_getElem? (i := 23) (by decide +kernel), List.mem_of_getElem? (i := 396) (by decide +kernel), List.mem_of_getElem? (i := 397) (by decide +kernel)⟩
theorem lw_p6 : lw_okq (⟨"LeakCarousel$Carousel", "causeAgainst", "(LLeakCarousel$Part;LLeakCarousel$Head;)I"⟩, 10) := ⟨⟨by decide +kernel, by decide +kernel⟩, List.mem_of_getElem? (i := 23) (by decide +kernel), List.mem_of_getElem? (i := 400) (by decide +kernel), List.mem_of_getElem? (i := 401) (by decide +kernel)⟩
theorem lw_p7 : lw_okq (⟨"LeakCarousel$Carousel", "putInFront", "(LLeakCarousel$Part;)V"⟩, 10) := ⟨⟨by decide +kernel, by decide +kernel⟩, List.mem_of_getElem? (i := 23) (by decide +kernel), List.mem_of_getElem? (i := 405) (by decide +kernel), List.mem_of_getElem? (i := 406) (by decide +kernel)⟩
theorem lw_p8 : lw_okq (⟨"LeakCarousel$Carousel", "load", "(LLeakCarousel$Head;)V"⟩, 10) := ⟨⟨by decide +kernel, by decide +kernel⟩, List.mem_of_getElem? (i := 23) (by decide +kernel), List.mem_of_getElem? (i := 414) (by decide +kernel), List.mem_of_getElem? (i := 415) (by decide +kernel)⟩
theorem lw_p9 : lw_okq (⟨"LeakCarousel$Carousel", "takeFromRow", "(LLeakCarousel$Part;)V"⟩, 10) := ⟨⟨by decide +kernel, by decide +kernel⟩, List.mem_of_getElem? (i := 23) (by decide +kernel), List.mem_of_getElem? (i := 422) (by decide +kernel), List.mem_of_getElem? (i := 423) (by decide +kernel)⟩
theorem lw_p10 : lw_okq (⟨"LeakCarousel$Carousel", "leakAwayFrom", "(LLeakCarousel$Head;)V"⟩, 10) := ⟨⟨by decide +kernel, by decide +kernel⟩, List.mem_of_getElem? (i := 23) (by decide +kernel), List.mem_of_getElem? (i := 430) (by decide +kernel), List.mem_of_getElem? (i := 431) (by decide +kernel)⟩
theorem lw_p11 : lw_okq (⟨"LeakCarousel$Text", "signAt", "(I)I"⟩, 2) := ⟨⟨by decide +kernel, by decide +kernel⟩, List.mem_of_getElem? (i := 251) (by decide +kernel), List.mem_of_getElem? (i := 454) (by decide +kernel), List.mem_of_getElem? (i := 455) (by decide +kernel)⟩
theorem lw_p12 : lw_okq (⟨"LeakCarousel$Text", "behindLeak", "(I)I"⟩, 2) := ⟨⟨by decide +kernel, by decide +kernel⟩, List.mem_of_getElem? (i := 251) (by decide +kernel), List.mem_of_getElem? (i := 458) (by decide +kernel), List.mem_of_getElem? (i := 459) (by decide +kernel)⟩
theorem lw_p13 : lw_okq (⟨"LeakCarousel$Text", "behindDigits", "(II)I"⟩, 2) := ⟨⟨by decide +kernel, by decide +kernel⟩, List.mem_of_getElem? (i := 251) (by decide +kernel), List.mem_of_getElem? (i := 462) (by decide +kernel), List.mem_of_getElem? (i := 463) (by decide +kernel)⟩
theorem lw_p14 : lw_okq (⟨"LeakCarousel$Text", "isDigitAt", "(I)Z"⟩, 2) := ⟨⟨by decide +kernel, by decide +kernel⟩, List.mem_of_getElem? (i := 251) (by decide +kernel), List.mem_of_getElem? (i := 466) (by decide +kernel), List.mem_of_getElem? (i := 467) (by decide +kernel)⟩
theorem lw_p15 : lw_okq (⟨"LeakCarousel$Text", "behindVolume", "(I)I"⟩, 2) := ⟨⟨by decide +kernel, by decide +kernel⟩, List.mem_of_getElem? (i := 251) (by decide +kernel), List.mem_of_getElem? (i := 470) (by decide +kernel), List.mem_of_getElem? (i := 471) (by decide +kernel)⟩
def lw_privs_1 : List (MethodName × Nat) := [(⟨"LeakCarousel", "remember", "()V"⟩, 6), (⟨"LeakCarousel", "dropOldest", "()V"⟩, 6), (⟨"LeakCarousel", "doSteps", "(I)I"⟩, 6), (⟨"LeakCarousel$Carousel", "endTest", "(LLeakCarousel$Head;)Z"⟩, 10), (⟨"LeakCarousel$Carousel", "valueOf", "(DLLeakCarousel$Part;LLeakCarousel$Head;)D"⟩, 10), (⟨"LeakCarousel$Carousel", "judge", "(LLeakCarousel$Part;LLeakCarousel$Head;)V"⟩, 10), (⟨"LeakCarousel$Carousel", "causeAgainst", "(LLeakCarousel$Part;LLeakCarousel$Head;)I"⟩, 10), (⟨"LeakCarousel$Carousel", "putInFront", "(LLeakCarousel$Part;)V"⟩, 10), (⟨"LeakCarousel$Carousel", "load", "(LLeakCarousel$Head;)V"⟩, 10), (⟨"LeakCarousel$Carousel", "takeFromRow", "(LLeakCarousel$Part;)V"⟩, 10), (⟨"LeakCarousel$Carousel", "leakAwayFrom", "(LLeakCarousel$Head;)V"⟩, 10), (⟨"LeakCarousel$Text", "signAt", "(I)I"⟩, 2), (⟨"LeakCarousel$Text", "behindLeak", "(I)I"⟩, 2), (⟨"LeakCarousel$Text", "behindDigits", "(II)I"⟩, 2), (⟨"LeakCarousel$Text", "isDigitAt", "(I)Z"⟩, 2), (⟨"LeakCarousel$Text", "behindVolume", "(I)I"⟩, 2)]
theorem lw_r1 : ∀ q ∈ lw_privs_1, lw_okq q := List.forall_mem_cons.mpr ⟨lw_p0, List.forall_mem_cons.mpr ⟨lw_p1, List.forall_mem_cons.mpr ⟨lw_p2, List.forall_mem_cons.mpr ⟨lw_p3, List.forall_mem_cons.mpr ⟨lw_p4, List.forall_mem_cons.mpr ⟨lw_p5, List.forall_mem_cons.mpr ⟨lw_p6, List.forall_mem_cons.mpr ⟨lw_p7, List.forall_mem_cons.mpr ⟨lw_p8, List.forall_mem_cons.mpr ⟨lw_p9, List.forall_mem_cons.mpr ⟨lw_p10, List.forall_mem_cons.mpr ⟨lw_p11, List.forall_mem_cons.mpr ⟨lw_p12, List.forall_mem_cons.mpr ⟨lw_p13, List.forall_mem_cons.mpr ⟨lw_p14, List.forall_mem_cons.mpr ⟨lw_p15, fun _ h => absurd h List.not_mem_nil⟩⟩⟩⟩⟩⟩⟩⟩⟩⟩⟩⟩⟩⟩⟩⟩
theorem lw_p16 : lw_okq (⟨"LeakCarousel$Text", "wholeIn", "(II)I"⟩, 2) := ⟨⟨by decide +kernel, by decide +kernel⟩, List.mem_of_getElem? (i := 251) (by decide +kernel), List.mem_of_getElem? (i := 482) (by decide +kernel), List.mem_of_getElem? (i := 483) (by decide +kernel)⟩
theorem lw_p17 : lw_okq (⟨"LeakCarousel", "stopWaiting", "()I"⟩, 6) := ⟨⟨by decide +kernel, by decide +kernel⟩, List.mem_of_getElem? (i := 15) (by decide +kernel), List.mem_of_getElem? (i := 546) (by decide +kernel), List.mem_of_getElem? (i := 547) (by decide +kernel)⟩
theorem lw_p18 : lw_okq (⟨"LeakCarousel", "clearHeads", "()I"⟩, 6) := ⟨⟨by decide +kernel, by decide +kernel⟩, List.mem_of_getElem? (i := 15) (by decide +kernel), List.mem_of_getElem? (i := 556) (by decide +kernel), List.mem_of_getElem? (i := 557) (by decide +kernel)⟩
theorem lw_p19 : lw_okq (⟨"LeakCarouselModel", "begin", "(I)V"⟩, 13) := ⟨⟨by decide +kernel, by decide +kernel⟩, List.mem_of_getElem? (i := 650) (by decide +kernel), List.mem_of_getElem? (i := 659) (by decide +kernel), List.mem_of_getElem? (i := 660) (by decide +kernel)⟩
theorem lw_p20 : lw_okq (⟨"LeakCarouselModel", "record", "()V"⟩, 13) := ⟨⟨by decide +kernel, by decide +kernel⟩, List.mem_of_getElem? (i := 650) (by decide +kernel), List.mem_of_getElem? (i := 712) (by decide +kernel), List.mem_of_getElem? (i := 713) (by decide +kernel)⟩
theorem lw_p21 : lw_okq (⟨"LeakCarouselModel", "noHead", "(I)Z"⟩, 13) := ⟨⟨by decide +kernel, by decide +kernel⟩, List.mem_of_getElem? (i := 650) (by decide +kernel), List.mem_of_getElem? (i := 734) (by decide +kernel), List.mem_of_getElem? (i := 735) (by decide +kernel)⟩
theorem lw_p22 : lw_okq (⟨"LeakCarouselModel", "ofHead", "(II)I"⟩, 13) := ⟨⟨by decide +kernel, by decide +kernel⟩, List.mem_of_getElem? (i := 650) (by decide +kernel), List.mem_of_getElem? (i := 738) (by decide +kernel), List.mem_of_getElem? (i := 739) (by decide +kernel)⟩
theorem lw_p23 : lw_okq (⟨"LeakCarouselModel", "partOn", "(I)I"⟩, 13) := ⟨⟨by decide +kernel, by decide +kernel⟩, List.mem_of_getElem? (i := 650) (by decide +kernel), List.mem_of_getElem? (i := 747) (by decide +kernel), List.mem_of_getElem? (i := 748) (by decide +kernel)⟩
theorem lw_p24 : lw_okq (⟨"LeakCarouselModel", "decayed", "(DIDI)D"⟩, 13) := ⟨⟨by decide +kernel, by decide +kernel⟩, List.mem_of_getElem? (i := 650) (by decide +kernel), List.mem_of_getElem? (i := 752) (by decide +kernel), List.mem_of_getElem? (i := 753) (by decide +kernel)⟩
theorem lw_p25 : lw_okq (⟨"LeakCarouselModel", "gain", "(I)D"⟩, 13) := ⟨⟨by decide +kernel, by decide +kernel⟩, List.mem_of_getElem? (i := 650) (by decide +kernel), List.mem_of_getElem? (i := 757) (by decide +kernel), List.mem_of_getElem? (i := 758) (by decide +kernel)⟩
theorem lw_p26 : lw_okq (⟨"LeakCarouselModel", "adds", "(III)V"⟩, 13) := ⟨⟨by decide +kernel, by decide +kernel⟩, List.mem_of_getElem? (i := 650) (by decide +kernel), List.mem_of_getElem? (i := 765) (by decide +kernel), List.mem_of_getElem? (i := 766) (by decide +kernel)⟩
theorem lw_p27 : lw_okq (⟨"LeakCarouselModel", "put", "(III)V"⟩, 13) := ⟨⟨by decide +kernel, by decide +kernel⟩, List.mem_of_getElem? (i := 650) (by decide +kernel), List.mem_of_getElem? (i := 769) (by decide +kernel), List.mem_of_getElem? (i := 770) (by decide +kernel)⟩
theorem lw_p28 : lw_okq (⟨"LeakCarouselModel", "toBack", "(I)V"⟩, 13) := ⟨⟨by decide +kernel, by decide +kernel⟩, List.mem_of_getElem? (i := 650) (by decide +kernel), List.mem_of_getElem? (i := 773) (by decide +kernel), List.mem_of_getElem? (i := 774) (by decide +kernel)⟩
theorem lw_p29 : lw_okq (⟨"LeakCarouselModel", "goes", "(I)I"⟩, 13) := ⟨⟨by decide +kernel, by decide +kernel⟩, List.mem_of_getElem? (i := 650) (by decide +kernel), List.mem_of_getElem? (i := 781) (by decide +kernel), List.mem_of_getElem? (i := 782) (by decide +kernel)⟩
theorem lw_p30 : lw_okq (⟨"LeakCarouselModel", "step", "()I"⟩, 13) := ⟨⟨by decide +kernel, by decide +kernel⟩, List.mem_of_getElem? (i := 650) (by decide +kernel), List.mem_of_getElem? (i := 785) (by decide +kernel), List.mem_of_getElem? (i := 786) (by decide +kernel)⟩
theorem lw_p31 : lw_okq (⟨"LeakCarouselModel", "ends", "(I)V"⟩, 13) := ⟨⟨by decide +kernel, by decide +kernel⟩, List.mem_of_getElem? (i := 650) (by decide +kernel), List.mem_of_getElem? (i := 789) (by decide +kernel), List.mem_of_getElem? (i := 790) (by decide +kernel)⟩
def lw_privs_2 : List (MethodName × Nat) := [(⟨"LeakCarousel$Text", "wholeIn", "(II)I"⟩, 2), (⟨"LeakCarousel", "stopWaiting", "()I"⟩, 6), (⟨"LeakCarousel", "clearHeads", "()I"⟩, 6), (⟨"LeakCarouselModel", "begin", "(I)V"⟩, 13), (⟨"LeakCarouselModel", "record", "()V"⟩, 13), (⟨"LeakCarouselModel", "noHead", "(I)Z"⟩, 13), (⟨"LeakCarouselModel", "ofHead", "(II)I"⟩, 13), (⟨"LeakCarouselModel", "partOn", "(I)I"⟩, 13), (⟨"LeakCarouselModel", "decayed", "(DIDI)D"⟩, 13), (⟨"LeakCarouselModel", "gain", "(I)D"⟩, 13), (⟨"LeakCarouselModel", "adds", "(III)V"⟩, 13), (⟨"LeakCarouselModel", "put", "(III)V"⟩, 13), (⟨"LeakCarouselModel", "toBack", "(I)V"⟩, 13), (⟨"LeakCarouselModel", "goes", "(I)I"⟩, 13), (⟨"LeakCarouselModel", "step", "()I"⟩, 13), (⟨"LeakCarouselModel", "ends", "(I)V"⟩, 13)]
theorem lw_r2 : ∀ q ∈ lw_privs_2, lw_okq q := List.forall_mem_cons.mpr ⟨lw_p16, List.forall_mem_cons.mpr ⟨lw_p17, List.forall_mem_cons.mpr ⟨lw_p18, List.forall_mem_cons.mpr ⟨lw_p19, List.forall_mem_cons.mpr ⟨lw_p20, List.forall_mem_cons.mpr ⟨lw_p21, List.forall_mem_cons.mpr ⟨lw_p22, List.forall_mem_cons.mpr ⟨lw_p23, List.forall_mem_cons.mpr ⟨lw_p24, List.forall_mem_cons.mpr ⟨lw_p25, List.forall_mem_cons.mpr ⟨lw_p26, List.forall_mem_cons.mpr ⟨lw_p27, List.forall_mem_cons.mpr ⟨lw_p28, List.forall_mem_cons.mpr ⟨lw_p29, List.forall_mem_cons.mpr ⟨lw_p30, List.forall_mem_cons.mpr ⟨lw_p31, fun _ h => absurd h List.not_mem_nil⟩⟩⟩⟩⟩⟩⟩⟩⟩⟩⟩⟩⟩⟩⟩⟩
theorem lw_p32 : lw_okq (⟨"LeakCarouselModel", "traced", "(II)D"⟩, 13) := ⟨⟨by decide +kernel, by decide +kernel⟩, List.mem_of_getElem? (i := 650) (by decide +kernel), List.mem_of_getElem? (i := 793) (by decide +kernel), List.mem_of_getElem? (i := 794) (by decide +kernel)⟩
theorem lw_p33 : lw_okq (⟨"LeakCarouselModel", "present", "(I)D"⟩, 13) := ⟨⟨by decide +kernel, by decide +kernel⟩, List.mem_of_getElem? (i := 650) (by decide +kernel), List.mem_of_getElem? (i := 797) (by decide +kernel), List.mem_of_getElem? (i := 798) (by decide +kernel)⟩
theorem lw_p34 : lw_okq (⟨"LeakCarouselModel", "ofPart", "(II)I"⟩, 13) := ⟨⟨by decide +kernel, by decide +kernel⟩, List.mem_of_getElem? (i := 650) (by decide +kernel), List.mem_of_getElem? (i := 801) (by decide +kernel), List.mem_of_getElem? (i := 802) (by decide +kernel)⟩
theorem lw_p35 : lw_okq (⟨"LeakCarouselModel", "factor", "(I)D"⟩, 13) := ⟨⟨by decide +kernel, by decide +kernel⟩, List.mem_of_getElem? (i := 650) (by decide +kernel), List.mem_of_getElem? (i := 805) (by decide +kernel), List.mem_of_getElem? (i := 806) (by decide +kernel)⟩
theorem lw_p36 : lw_okq (⟨"LeakCarouselModel", "more", "(II)V"⟩, 13) := ⟨⟨by decide +kernel, by decide +kernel⟩, List.mem_of_getElem? (i := 650) (by decide +kernel), List.mem_of_getElem? (i := 809) (by decide +kernel), List.mem_of_getElem? (i := 810) (by decide +kernel)⟩
theorem lw_p37 : lw_okq (⟨"LeakCarouselModel", "judged", "(ID)I"⟩, 13) := ⟨⟨by decide +kernel, by decide +kernel⟩, List.mem_of_getElem? (i := 650) (by decide +kernel), List.mem_of_getElem? (i := 813) (by decide +kernel), List.mem_of_getElem? (i := 814) (by decide +kernel)⟩
theorem lw_p38 : lw_okq (⟨"LeakCarouselModel", "rejects", "(II)V"⟩, 13) := ⟨⟨by decide +kernel, by decide +kernel⟩, List.mem_of_getElem? (i := 650) (by decide +kernel), List.mem_of_getElem? (i := 818) (by decide +kernel), List.mem_of_getElem? (i := 819) (by decide +kernel)⟩
theorem lw_p39 : lw_okq (⟨"LeakCarouselModel", "toFront", "(I)V"⟩, 13) := ⟨⟨by decide +kernel, by decide +kernel⟩, List.mem_of_getElem? (i := 650) (by decide +kernel), List.mem_of_getElem? (i := 822) (by decide +kernel), List.mem_of_getElem? (i := 823) (by decide +kernel)⟩
theorem lw_p40 : lw_okq (⟨"LeakCarouselModel", "fills", "(I)V"⟩, 13) := ⟨⟨by decide +kernel, by decide +kernel⟩, List.mem_of_getElem? (i := 650) (by decide +kernel), List.mem_of_getElem? (i := 826) (by decide +kernel), List.mem_of_getElem? (i := 827) (by decide +kernel)⟩
theorem lw_p41 : lw_okq (⟨"LeakCarouselModel", "takes", "(II)Z"⟩, 13) := ⟨⟨by decide +kernel, by decide +kernel⟩, List.mem_of_getElem? (i := 650) (by decide +kernel), List.mem_of_getElem? (i := 830) (by decide +kernel), List.mem_of_getElem? (i := 831) (by decide +kernel)⟩
theorem lw_p42 : lw_okq (⟨"LeakCarouselModel", "readsPart", "()Z"⟩, 13) := ⟨⟨by decide +kernel, by decide +kernel⟩, List.mem_of_getElem? (i := 650) (by decide +kernel), List.mem_of_getElem? (i := 846) (by decide +kernel), List.mem_of_getElem? (i := 847) (by decide +kernel)⟩
theorem lw_p43 : lw_okq (⟨"LeakCarouselModel", "isSign", "(C)Z"⟩, 13) := ⟨⟨by decide +kernel, by decide +kernel⟩, List.mem_of_getElem? (i := 650) (by decide +kernel), List.mem_of_getElem? (i := 850) (by decide +kernel), List.mem_of_getElem? (i := 851) (by decide +kernel)⟩
theorem lw_p44 : lw_okq (⟨"LeakCarouselModel", "number", "(II)I"⟩, 13) := ⟨⟨by decide +kernel, by decide +kernel⟩, List.mem_of_getElem? (i := 650) (by decide +kernel), List.mem_of_getElem? (i := 854) (by decide +kernel), List.mem_of_getElem? (i := 855) (by decide +kernel)⟩
theorem lw_p45 : lw_okq (⟨"LeakCarouselModel", "isWord", "(ICCCC)Z"⟩, 13) := ⟨⟨by decide +kernel, by decide +kernel⟩, List.mem_of_getElem? (i := 650) (by decide +kernel), List.mem_of_getElem? (i := 862) (by decide +kernel), List.mem_of_getElem? (i := 863) (by decide +kernel)⟩
theorem lw_p46 : lw_okq (⟨"LeakCarouselModel", "stops", "()I"⟩, 13) := ⟨⟨by decide +kernel, by decide +kernel⟩, List.mem_of_getElem? (i := 650) (by decide +kernel), List.mem_of_getElem? (i := 866) (by decide +kernel), List.mem_of_getElem? (i := 867) (by decide +kernel)⟩
theorem lw_p47 : lw_okq (⟨"LeakCarouselModel", "clears", "()I"⟩, 13) := ⟨⟨by decide +kernel, by decide +kernel⟩, List.mem_of_getElem? (i := 650) (by decide +kernel), List.mem_of_getElem? (i := 870) (by decide +kernel), List.mem_of_getElem? (i := 871) (by decide +kernel)⟩
def lw_privs_3 : List (MethodName × Nat) := [(⟨"LeakCarouselModel", "traced", "(II)D"⟩, 13), (⟨"LeakCarouselModel", "present", "(I)D"⟩, 13), (⟨"LeakCarouselModel", "ofPart", "(II)I"⟩, 13), (⟨"LeakCarouselModel", "factor", "(I)D"⟩, 13), (⟨"LeakCarouselModel", "more", "(II)V"⟩, 13), (⟨"LeakCarouselModel", "judged", "(ID)I"⟩, 13), (⟨"LeakCarouselModel", "rejects", "(II)V"⟩, 13), (⟨"LeakCarouselModel", "toFront", "(I)V"⟩, 13), (⟨"LeakCarouselModel", "fills", "(I)V"⟩, 13), (⟨"LeakCarouselModel", "takes", "(II)Z"⟩, 13), (⟨"LeakCarouselModel", "readsPart", "()Z"⟩, 13), (⟨"LeakCarouselModel", "isSign", "(C)Z"⟩, 13), (⟨"LeakCarouselModel", "number", "(II)I"⟩, 13), (⟨"LeakCarouselModel", "isWord", "(ICCCC)Z"⟩, 13), (⟨"LeakCarouselModel", "stops", "()I"⟩, 13), (⟨"LeakCarouselModel", "clears", "()I"⟩, 13)]
theorem lw_r3 : ∀ q ∈ lw_privs_3, lw_okq q := List.forall_mem_cons.mpr ⟨lw_p32, List.forall_mem_cons.mpr ⟨lw_p33, List.forall_mem_cons.mpr ⟨lw_p34, List.forall_mem_cons.mpr ⟨lw_p35, List.forall_mem_cons.mpr ⟨lw_p36, List.forall_mem_cons.mpr ⟨lw_p37, List.forall_mem_cons.mpr ⟨lw_p38, List.forall_mem_cons.mpr ⟨lw_p39, List.forall_mem_cons.mpr ⟨lw_p40, List.forall_mem_cons.mpr ⟨lw_p41, List.forall_mem_cons.mpr ⟨lw_p42, List.forall_mem_cons.mpr ⟨lw_p43, List.forall_mem_cons.mpr ⟨lw_p44, List.forall_mem_cons.mpr ⟨lw_p45, List.forall_mem_cons.mpr ⟨lw_p46, List.forall_mem_cons.mpr ⟨lw_p47, fun _ h => absurd h List.not_mem_nil⟩⟩⟩⟩⟩⟩⟩⟩⟩⟩⟩⟩⟩⟩⟩⟩
theorem lw_p48 : lw_okq (⟨"LeakCarouselModel", "onHeads", "()I"⟩, 13) := ⟨⟨by decide +kernel, by decide +kernel⟩, List.mem_of_getElem? (i := 650) (by decide +kernel), List.mem_of_getElem? (i := 874) (by decide +kernel), List.mem_of_getElem? (i := 875) (by decide +kernel)⟩
theorem lw_p49 : lw_okq (⟨"LeakCarouselModel", "noPart", "(I)Z"⟩, 13) := ⟨⟨by decide +kernel, by decide +kernel⟩, List.mem_of_getElem? (i := 650) (by decide +kernel), List.mem_of_getElem? (i := 920) (by decide +kernel), List.mem_of_getElem? (i := 921) (by decide +kernel)⟩
theorem lw_p50 : lw_okq (⟨"LeakCarouselModel", "placeOf", "(I)I"⟩, 13) := ⟨⟨by decide +kernel, by decide +kernel⟩, List.mem_of_getElem? (i := 650) (by decide +kernel), List.mem_of_getElem? (i := 924) (by decide +kernel), List.mem_of_getElem? (i := 925) (by decide +kernel)⟩
theorem lw_p51 : lw_okq (⟨"LeakCarouselModel", "inState", "(I)I"⟩, 13) := ⟨⟨by decide +kernel, by decide +kernel⟩, List.mem_of_getElem? (i := 650) (by decide +kernel), List.mem_of_getElem? (i := 963) (by decide +kernel), List.mem_of_getElem? (i := 964) (by decide +kernel)⟩
def lw_privs_4 : List (MethodName × Nat) := [(⟨"LeakCarouselModel", "onHeads", "()I"⟩, 13), (⟨"LeakCarouselModel", "noPart", "(I)Z"⟩, 13), (⟨"LeakCarouselModel", "placeOf", "(I)I"⟩, 13), (⟨"LeakCarouselModel", "inState", "(I)I"⟩, 13)]
theorem lw_r4 : ∀ q ∈ lw_privs_4, lw_okq q := List.forall_mem_cons.mpr ⟨lw_p48, List.forall_mem_cons.mpr ⟨lw_p49, List.forall_mem_cons.mpr ⟨lw_p50, List.forall_mem_cons.mpr ⟨lw_p51, fun _ h => absurd h List.not_mem_nil⟩⟩⟩⟩
def lw_privs : List (MethodName × Nat) := lw_privs_1 ++ (lw_privs_2 ++ (lw_privs_3 ++ (lw_privs_4)))
def lw_tbl : List Cond := k2_sels lw_privs ++ tables_1
theorem lw_privs_ok : ∀ q ∈ lw_privs, lw_okq q := by
  show ∀ q ∈ lw_privs_1 ++ (lw_privs_2 ++ (lw_privs_3 ++ (lw_privs_4))), lw_okq q
  exact List.forall_mem_append.mpr ⟨lw_r1, List.forall_mem_append.mpr ⟨lw_r2, List.forall_mem_append.mpr ⟨lw_r3, lw_r4⟩⟩⟩
/-- the streams that the claim lets the run draw from -/
abbrev lw_cs : List Choice := [Jvm.Choice.named "NaN.bits", Jvm.Choice.named "NaN.copy"]
theorem lw_bits : nanBits ∈ lw_cs := by first | decide | exact List.mem_cons_self | simp [lw_cs, nanBits]
-- ===== end of PART A; then your names; then what follows =====
end
section
/-! ===== BEGIN words of one list among another's, by their places ===== -/
theorem goodIn_r {big : List Cond} (ws : List Cond) (ps : List Nat) (hp : ws = ps.filterMap (fun i => big[i]?)) (h : ws.all goodWord = true) : GoodIn big ws := by
  intro w hw
  have h1 := List.all_eq_true.mp h w hw
  rw [hp] at hw
  obtain ⟨i, -, hi⟩ := List.mem_filterMap.mp hw
  have hm : w ∈ big := by first | exact List.mem_of_getElem? hi | exact List.getElem?_mem hi
  exact ⟨hm, good_of_word h1⟩
theorem goodIn_app {big a b : List Cond} (ha : GoodIn big a) (hb : GoodIn big b) : GoodIn big (a ++ b) := fun w h => (List.mem_append.mp h).elim (ha w) (hb w)
theorem goodIn_ca {big a b : List Cond} {c : Cond} (ha : GoodIn big (c :: a)) (hb : GoodIn big b) : GoodIn big (c :: (a ++ b)) := fun w h => (List.mem_cons.mp h).elim (fun e => ha w (List.mem_cons.mpr (Or.inl e))) (fun h => (List.mem_append.mp h).elim (fun h => ha w (List.mem_cons.mpr (Or.inr h))) (hb w))
theorem goodIn_sub {big ws : List Cond} (hm : ∀ w ∈ ws, w ∈ big) (h : ws.all goodWord = true) : GoodIn big ws := fun w hw => ⟨hm w hw, good_of_word (List.all_eq_true.mp h w hw)⟩
/-! ===== END ===== -/

/-! ===== BEGIN printed: names, fields, word lists, decode rows ===== -/
def RX0 : String := "LeakCarousel$Carousel"
def TX0 : u_T := fun k => match k with
  | 0 => ("LeakCarousel$Carousel", "filling", "LLeakCarousel$Pressure;", true)
  | 1 => ("LeakCarousel$Carousel", "lower", "LLeakCarousel$Pressure;", true)
  | 2 => ("LeakCarousel$Carousel", "upper", "LLeakCarousel$Pressure;", true)
  | 3 => ("LeakCarousel$Carousel", "heads", "[LLeakCarousel$Head;", true)
  | 4 => ("LeakCarousel$Carousel", "parts", "[LLeakCarousel$Part;", true)
  | 5 => ("LeakCarousel$Carousel", "interval", "I", false)
  | 6 => ("LeakCarousel$Carousel", "headCount", "I", false)
  | 7 => ("LeakCarousel$Carousel", "partCount", "I", false)
  | 8 => ("LeakCarousel$Carousel", "steps", "I", false)
  | _ => ("LeakCarousel$Carousel", "station", "I", false)
def tyX0 : Nat → FieldType := fun k => match k with
  | 0 => .object "LeakCarousel$Pressure"
  | 1 => .object "LeakCarousel$Pressure"
  | 2 => .object "LeakCarousel$Pressure"
  | 3 => .array (.object "LeakCarousel$Head")
  | 4 => .array (.object "LeakCarousel$Part")
  | 5 => .int
  | 6 => .int
  | 7 => .int
  | 8 => .int
  | _ => .int
abbrev wsX00 : List Cond := u_ws RX0 TX0 10
theorem nmX0 : ∀ a, a < 10 → ∀ b, b < 10 → a ≠ b → (TX0 a).2.1 ≠ (TX0 b).2.1 := by decide +kernel
theorem tyX0_ok : ∀ k, k < 10 → parseFieldDescriptor (TX0 k).2.2.1 = some (tyX0 k) := by decide +kernel
abbrev cX0_init : ByteArray := prog_2_method_1_code
def yX0_init : MethodName := ⟨RX0, "<init>", "()V"⟩
abbrev cX0_begin : ByteArray := prog_2_method_2_code
def yX0_begin : MethodName := ⟨RX0, "begin", "(I)V"⟩
abbrev cX0_copyOf : ByteArray := prog_2_method_3_code
def yX0_copyOf : MethodName := ⟨RX0, "copyOf", "(LLeakCarousel$Carousel;)V"⟩
abbrev cX0_headAt : ByteArray := prog_2_method_4_code
def yX0_headAt : MethodName := ⟨RX0, "headAt", "(I)LLeakCarousel$Head;"⟩
abbrev cX0_partAt : ByteArray := prog_2_method_5_code
def yX0_partAt : MethodName := ⟨RX0, "partAt", "(I)LLeakCarousel$Part;"⟩
abbrev cX0_pressureAt : ByteArray := prog_2_method_6_code
def yX0_pressureAt : MethodName := ⟨RX0, "pressureAt", "(I)LLeakCarousel$Pressure;"⟩
abbrev cX0_addPart : ByteArray := prog_2_method_7_code
def yX0_addPart : MethodName := ⟨RX0, "addPart", "(ZII)I"⟩
abbrev cX0_putInFront : ByteArray := prog_2_method_8_code
def yX0_putInFront : MethodName := ⟨RX0, "putInFront", "(LLeakCarousel$Part;)V"⟩
abbrev cX0_takeFromRow : ByteArray := prog_2_method_9_code
def yX0_takeFromRow : MethodName := ⟨RX0, "takeFromRow", "(LLeakCarousel$Part;)V"⟩
abbrev cX0_rejectWaiting : ByteArray := prog_2_method_10_code
def yX0_rejectWaiting : MethodName := ⟨RX0, "rejectWaiting", "()V"⟩
abbrev cX0_takeFromHeads : ByteArray := prog_2_method_11_code
def yX0_takeFromHeads : MethodName := ⟨RX0, "takeFromHeads", "()V"⟩
abbrev cX0_step : ByteArray := prog_2_method_12_code
def yX0_step : MethodName := ⟨RX0, "step", "()Z"⟩
abbrev cX0_stepsUntil : ByteArray := prog_2_method_13_code
def yX0_stepsUntil : MethodName := ⟨RX0, "stepsUntil", "(LLeakCarousel$Head;)I"⟩
abbrev cX0_endTest : ByteArray := prog_2_method_14_code
def yX0_endTest : MethodName := ⟨RX0, "endTest", "(LLeakCarousel$Head;)Z"⟩
abbrev cX0_judge : ByteArray := prog_2_method_15_code
def yX0_judge : MethodName := ⟨RX0, "judge", "(LLeakCarousel$Part;LLeakCarousel$Head;)V"⟩
abbrev cX0_causeAgainst : ByteArray := prog_2_method_16_code
def yX0_causeAgainst : MethodName := ⟨RX0, "causeAgainst", "(LLeakCarousel$Part;LLeakCarousel$Head;)I"⟩
abbrev cX0_load : ByteArray := prog_2_method_17_code
def yX0_load : MethodName := ⟨RX0, "load", "(LLeakCarousel$Head;)V"⟩
abbrev cX0_leakAwayFrom : ByteArray := prog_2_method_18_code
def yX0_leakAwayFrom : MethodName := ⟨RX0, "leakAwayFrom", "(LLeakCarousel$Head;)V"⟩
abbrev cX0_valueOf : ByteArray := prog_2_method_19_code
def yX0_valueOf : MethodName := ⟨RX0, "valueOf", "(DLLeakCarousel$Part;LLeakCarousel$Head;)D"⟩
abbrev cX0_valueToCome : ByteArray := prog_2_method_20_code
def yX0_valueToCome : MethodName := ⟨RX0, "valueToCome", "(LLeakCarousel$Part;LLeakCarousel$Head;)D"⟩
abbrev cX0_calibrateWith : ByteArray := prog_2_method_21_code
def yX0_calibrateWith : MethodName := ⟨RX0, "calibrateWith", "(LLeakCarousel$Head;I)V"⟩
abbrev cX0_partsIn : ByteArray := prog_2_method_22_code
def yX0_partsIn : MethodName := ⟨RX0, "partsIn", "(I)I"⟩
abbrev cX0_partsRejectedFor : ByteArray := prog_2_method_23_code
def yX0_partsRejectedFor : MethodName := ⟨RX0, "partsRejectedFor", "(I)I"⟩
abbrev cX0_testsEnded : ByteArray := prog_2_method_24_code
def yX0_testsEnded : MethodName := ⟨RX0, "testsEnded", "()I"⟩
abbrev cX0_testsRepeated : ByteArray := prog_2_method_25_code
def yX0_testsRepeated : MethodName := ⟨RX0, "testsRepeated", "()I"⟩
def RX1 : String := "LeakCarousel$Head"
def TX1 : u_T := fun k => match k with
  | 0 => ("LeakCarousel$Head", "number", "I", true)
  | 1 => ("LeakCarousel$Head", "gain", "D", false)
  | 2 => ("LeakCarousel$Head", "factor", "D", false)
  | 3 => ("LeakCarousel$Head", "wear", "I", false)
  | 4 => ("LeakCarousel$Head", "fixture", "I", false)
  | 5 => ("LeakCarousel$Head", "testsSince", "I", false)
  | 6 => ("LeakCarousel$Head", "part", "I", false)
  | 7 => ("LeakCarousel$Head", "filled", "D", false)
  | 8 => ("LeakCarousel$Head", "pressure", "D", false)
  | 9 => ("LeakCarousel$Head", "stepsSince", "I", false)
  | 10 => ("LeakCarousel$Head", "tests", "I", false)
  | 11 => ("LeakCarousel$Head", "accepted", "I", false)
  | 12 => ("LeakCarousel$Head", "rejected", "I", false)
  | _ => ("LeakCarousel$Head", "retests", "I", false)
def tyX1 : Nat → FieldType := fun k => match k with
  | 0 => .int
  | 1 => .double
  | 2 => .double
  | 3 => .int
  | 4 => .int
  | 5 => .int
  | 6 => .int
  | 7 => .double
  | 8 => .double
  | 9 => .int
  | 10 => .int
  | 11 => .int
  | 12 => .int
  | _ => .int
abbrev wsX10 : List Cond := u_ws RX1 TX1 14
theorem nmX1 : ∀ a, a < 14 → ∀ b, b < 14 → a ≠ b → (TX1 a).2.1 ≠ (TX1 b).2.1 := by decide +kernel
theorem tyX1_ok : ∀ k, k < 14 → parseFieldDescriptor (TX1 k).2.2.1 = some (tyX1 k) := by decide +kernel
abbrev cX1_init : ByteArray := prog_3_method_1_code
def yX1_init : MethodName := ⟨RX1, "<init>", "(I)V"⟩
abbrev cX1_begin : ByteArray := prog_3_method_2_code
def yX1_begin : MethodName := ⟨RX1, "begin", "()V"⟩
abbrev cX1_takes : ByteArray := prog_3_method_3_code
def yX1_takes : MethodName := ⟨RX1, "takes", "(LLeakCarousel$Part;)Z"⟩
abbrev cX1_fill : ByteArray := prog_3_method_4_code
def yX1_fill : MethodName := ⟨RX1, "fill", "(LLeakCarousel$Part;D)V"⟩
abbrev cX1_copyOf : ByteArray := prog_3_method_5_code
def yX1_copyOf : MethodName := ⟨RX1, "copyOf", "(LLeakCarousel$Head;)V"⟩
def RX2 : String := "LeakCarousel$Part"
def TX2 : u_T := fun k => match k with
  | 0 => ("LeakCarousel$Part", "number", "I", true)
  | 1 => ("LeakCarousel$Part", "pipe", "Z", false)
  | 2 => ("LeakCarousel$Part", "leak", "I", false)
  | 3 => ("LeakCarousel$Part", "volume", "I", false)
  | 4 => ("LeakCarousel$Part", "state", "I", false)
  | 5 => ("LeakCarousel$Part", "place", "I", false)
  | 6 => ("LeakCarousel$Part", "tests", "I", false)
  | 7 => ("LeakCarousel$Part", "retests", "I", false)
  | 8 => ("LeakCarousel$Part", "latestHead", "I", false)
  | 9 => ("LeakCarousel$Part", "latestValue", "D", false)
  | _ => ("LeakCarousel$Part", "cause", "I", false)
def tyX2 : Nat → FieldType := fun k => match k with
  | 0 => .int
  | 1 => .boolean
  | 2 => .int
  | 3 => .int
  | 4 => .int
  | 5 => .int
  | 6 => .int
  | 7 => .int
  | 8 => .int
  | 9 => .double
  | _ => .int
abbrev wsX20 : List Cond := u_ws RX2 TX2 11
theorem nmX2 : ∀ a, a < 11 → ∀ b, b < 11 → a ≠ b → (TX2 a).2.1 ≠ (TX2 b).2.1 := by decide +kernel
theorem tyX2_ok : ∀ k, k < 11 → parseFieldDescriptor (TX2 k).2.2.1 = some (tyX2 k) := by decide +kernel
abbrev cX2_init : ByteArray := prog_4_method_1_code
def yX2_init : MethodName := ⟨RX2, "<init>", "(I)V"⟩
abbrev cX2_beAbsent : ByteArray := prog_4_method_2_code
def yX2_beAbsent : MethodName := ⟨RX2, "beAbsent", "()V"⟩
abbrev cX2_begin : ByteArray := prog_4_method_3_code
def yX2_begin : MethodName := ⟨RX2, "begin", "(ZIII)V"⟩
abbrev cX2_rejectFor : ByteArray := prog_4_method_4_code
def yX2_rejectFor : MethodName := ⟨RX2, "rejectFor", "(I)V"⟩
abbrev cX2_copyOf : ByteArray := prog_4_method_5_code
def yX2_copyOf : MethodName := ⟨RX2, "copyOf", "(LLeakCarousel$Part;)V"⟩
def RX3 : String := "LeakCarousel$Pressure"
def TX3 : u_T := fun k => match k with
  | 0 => ("LeakCarousel$Pressure", "least", "J", true)
  | 1 => ("LeakCarousel$Pressure", "most", "J", true)
  | 2 => ("LeakCarousel$Pressure", "bits", "J", false)
  | _ => ("LeakCarousel$Pressure", "number", "D", false)
def tyX3 : Nat → FieldType := fun k => match k with
  | 0 => .long
  | 1 => .long
  | 2 => .long
  | _ => .double
abbrev wsX30 : List Cond := u_ws RX3 TX3 4
theorem nmX3 : ∀ a, a < 4 → ∀ b, b < 4 → a ≠ b → (TX3 a).2.1 ≠ (TX3 b).2.1 := by decide +kernel
theorem tyX3_ok : ∀ k, k < 4 → parseFieldDescriptor (TX3 k).2.2.1 = some (tyX3 k) := by decide +kernel
abbrev cX3_init : ByteArray := prog_5_method_1_code
def yX3_init : MethodName := ⟨RX3, "<init>", "(JJJ)V"⟩
abbrev cX3_become : ByteArray := prog_5_method_2_code
def yX3_become : MethodName := ⟨RX3, "become", "(J)V"⟩
abbrev cX3_copyOf : ByteArray := prog_5_method_3_code
def yX3_copyOf : MethodName := ⟨RX3, "copyOf", "(LLeakCarousel$Pressure;)V"⟩
def RX4 : String := "LeakCarousel$Text"
def TX4 : u_T := fun k => match k with
  | 0 => ("LeakCarousel$Text", "signs", "[C", true)
  | _ => ("LeakCarousel$Text", "length", "I", false)
def tyX4 : Nat → FieldType := fun k => match k with
  | 0 => .array .char
  | _ => .int
abbrev wsX40 : List Cond := u_ws RX4 TX4 2
theorem nmX4 : ∀ a, a < 2 → ∀ b, b < 2 → a ≠ b → (TX4 a).2.1 ≠ (TX4 b).2.1 := by decide +kernel
theorem tyX4_ok : ∀ k, k < 2 → parseFieldDescriptor (TX4 k).2.2.1 = some (tyX4 k) := by decide +kernel
abbrev cX4_init : ByteArray := prog_6_method_1_code
def yX4_init : MethodName := ⟨RX4, "<init>", "()V"⟩
abbrev cX4_append : ByteArray := prog_6_method_2_code
def yX4_append : MethodName := ⟨RX4, "append", "(C)I"⟩
abbrev cX4_reads : ByteArray := prog_6_method_3_code
def yX4_reads : MethodName := ⟨RX4, "reads", "(Ljava/lang/String;)Z"⟩
abbrev cX4_signAt : ByteArray := prog_6_method_4_code
def yX4_signAt : MethodName := ⟨RX4, "signAt", "(I)I"⟩
abbrev cX4_isDigitAt : ByteArray := prog_6_method_5_code
def yX4_isDigitAt : MethodName := ⟨RX4, "isDigitAt", "(I)Z"⟩
abbrev cX4_firstFault : ByteArray := prog_6_method_6_code
def yX4_firstFault : MethodName := ⟨RX4, "firstFault", "()I"⟩
abbrev cX4_behindLeak : ByteArray := prog_6_method_7_code
def yX4_behindLeak : MethodName := ⟨RX4, "behindLeak", "(I)I"⟩
abbrev cX4_behindVolume : ByteArray := prog_6_method_8_code
def yX4_behindVolume : MethodName := ⟨RX4, "behindVolume", "(I)I"⟩
abbrev cX4_behindDigits : ByteArray := prog_6_method_9_code
def yX4_behindDigits : MethodName := ⟨RX4, "behindDigits", "(II)I"⟩
abbrev cX4_partsTold : ByteArray := prog_6_method_10_code
def yX4_partsTold : MethodName := ⟨RX4, "partsTold", "()I"⟩
abbrev cX4_addPartsTo : ByteArray := prog_6_method_11_code
def yX4_addPartsTo : MethodName := ⟨RX4, "addPartsTo", "(LLeakCarousel$Carousel;I)V"⟩
abbrev cX4_wholeIn : ByteArray := prog_6_method_12_code
def yX4_wholeIn : MethodName := ⟨RX4, "wholeIn", "(II)I"⟩
def RX5 : String := "LeakCarousel"
def TX5 : u_T := fun k => match k with
  | 0 => ("LeakCarousel", "now", "LLeakCarousel$Carousel;", true)
  | 1 => ("LeakCarousel", "history", "[LLeakCarousel$Carousel;", true)
  | 2 => ("LeakCarousel", "snapshot", "LLeakCarousel$Carousel;", true)
  | 3 => ("LeakCarousel", "text", "LLeakCarousel$Text;", true)
  | 4 => ("LeakCarousel", "recorded", "I", false)
  | _ => ("LeakCarousel", "kept", "Z", false)
def tyX5 : Nat → FieldType := fun k => match k with
  | 0 => .object "LeakCarousel$Carousel"
  | 1 => .array (.object "LeakCarousel$Carousel")
  | 2 => .object "LeakCarousel$Carousel"
  | 3 => .object "LeakCarousel$Text"
  | 4 => .int
  | _ => .boolean
abbrev wsX50 : List Cond := u_ws RX5 TX5 6
theorem nmX5 : ∀ a, a < 6 → ∀ b, b < 6 → a ≠ b → (TX5 a).2.1 ≠ (TX5 b).2.1 := by decide +kernel
theorem tyX5_ok : ∀ k, k < 6 → parseFieldDescriptor (TX5 k).2.2.1 = some (tyX5 k) := by decide +kernel
abbrev cX5_init : ByteArray := prog_1_method_1_code
def yX5_init : MethodName := ⟨RX5, "<init>", "()V"⟩
abbrev cX5_build : ByteArray := prog_1_method_2_code
def yX5_build : MethodName := ⟨RX5, "build", "(I)I"⟩
abbrev cX5_setPressure : ByteArray := prog_1_method_3_code
def yX5_setPressure : MethodName := ⟨RX5, "setPressure", "(IJ)I"⟩
abbrev cX5_setInterval : ByteArray := prog_1_method_4_code
def yX5_setInterval : MethodName := ⟨RX5, "setInterval", "(I)I"⟩
abbrev cX5_equip : ByteArray := prog_1_method_5_code
def yX5_equip : MethodName := ⟨RX5, "equip", "(III)I"⟩
abbrev cX5_calibrate : ByteArray := prog_1_method_6_code
def yX5_calibrate : MethodName := ⟨RX5, "calibrate", "(II)I"⟩
abbrev cX5_add : ByteArray := prog_1_method_7_code
def yX5_add : MethodName := ⟨RX5, "add", "(ZII)I"⟩
abbrev cX5_run : ByteArray := prog_1_method_8_code
def yX5_run : MethodName := ⟨RX5, "run", "(I)I"⟩
abbrev cX5_type : ByteArray := prog_1_method_9_code
def yX5_type : MethodName := ⟨RX5, "type", "(C)I"⟩
abbrev cX5_clearText : ByteArray := prog_1_method_10_code
def yX5_clearText : MethodName := ⟨RX5, "clearText", "()I"⟩
abbrev cX5_readParts : ByteArray := prog_1_method_11_code
def yX5_readParts : MethodName := ⟨RX5, "readParts", "()I"⟩
abbrev cX5_perform : ByteArray := prog_1_method_12_code
def yX5_perform : MethodName := ⟨RX5, "perform", "()I"⟩
abbrev cX5_undo : ByteArray := prog_1_method_13_code
def yX5_undo : MethodName := ⟨RX5, "undo", "()I"⟩
abbrev cX5_keep : ByteArray := prog_1_method_14_code
def yX5_keep : MethodName := ⟨RX5, "keep", "()I"⟩
abbrev cX5_restore : ByteArray := prog_1_method_15_code
def yX5_restore : MethodName := ⟨RX5, "restore", "()I"⟩
abbrev cX5_head : ByteArray := prog_1_method_16_code
def yX5_head : MethodName := ⟨RX5, "head", "(II)I"⟩
abbrev cX5_gauge : ByteArray := prog_1_method_17_code
def yX5_gauge : MethodName := ⟨RX5, "gauge", "(II)D"⟩
abbrev cX5_display : ByteArray := prog_1_method_18_code
def yX5_display : MethodName := ⟨RX5, "display", "(I)I"⟩
abbrev cX5_part : ByteArray := prog_1_method_19_code
def yX5_part : MethodName := ⟨RX5, "part", "(II)I"⟩
abbrev cX5_fits : ByteArray := prog_1_method_20_code
def yX5_fits : MethodName := ⟨RX5, "fits", "(II)I"⟩
abbrev cX5_value : ByteArray := prog_1_method_21_code
def yX5_value : MethodName := ⟨RX5, "value", "(I)D"⟩
abbrev cX5_foretold : ByteArray := prog_1_method_22_code
def yX5_foretold : MethodName := ⟨RX5, "foretold", "(II)D"⟩
abbrev cX5_pressureBits : ByteArray := prog_1_method_23_code
def yX5_pressureBits : MethodName := ⟨RX5, "pressureBits", "(I)J"⟩
abbrev cX5_trace : ByteArray := prog_1_method_24_code
def yX5_trace : MethodName := ⟨RX5, "trace", "(II)D"⟩
abbrev cX5_count : ByteArray := prog_1_method_25_code
def yX5_count : MethodName := ⟨RX5, "count", "(I)I"⟩
abbrev cX5_remember : ByteArray := prog_1_method_26_code
def yX5_remember : MethodName := ⟨RX5, "remember", "()V"⟩
abbrev cX5_dropOldest : ByteArray := prog_1_method_27_code
def yX5_dropOldest : MethodName := ⟨RX5, "dropOldest", "()V"⟩
abbrev cX5_doSteps : ByteArray := prog_1_method_28_code
def yX5_doSteps : MethodName := ⟨RX5, "doSteps", "(I)I"⟩
abbrev cX5_stopWaiting : ByteArray := prog_1_method_29_code
def yX5_stopWaiting : MethodName := ⟨RX5, "stopWaiting", "()I"⟩
abbrev cX5_clearHeads : ByteArray := prog_1_method_30_code
def yX5_clearHeads : MethodName := ⟨RX5, "clearHeads", "()I"⟩
abbrev cX5_notANumber : ByteArray := prog_1_method_31_code
def yX5_notANumber : MethodName := ⟨RX5, "notANumber", "()D"⟩
abbrev cX5_decayed : ByteArray := prog_1_method_32_code
def yX5_decayed : MethodName := ⟨RX5, "decayed", "(DIII)D"⟩
abbrev cX5_numberOf : ByteArray := prog_1_method_33_code
def yX5_numberOf : MethodName := ⟨RX5, "numberOf", "(J)D"⟩
abbrev cX5_bitsOf : ByteArray := prog_1_method_34_code
def yX5_bitsOf : MethodName := ⟨RX5, "bitsOf", "(F)I"⟩
def RX6 : String := "LeakCarouselModel"
def TX6 : u_T := fun k => match k with
  | 0 => ("LeakCarouselModel", "now", "[I", true)
  | 1 => ("LeakCarouselModel", "history", "[I", true)
  | 2 => ("LeakCarouselModel", "slot", "[I", true)
  | 3 => ("LeakCarouselModel", "real", "[D", true)
  | 4 => ("LeakCarouselModel", "realHistory", "[D", true)
  | 5 => ("LeakCarouselModel", "realSlot", "[D", true)
  | 6 => ("LeakCarouselModel", "kept", "I", false)
  | 7 => ("LeakCarouselModel", "isFilled", "Z", false)
  | 8 => ("LeakCarouselModel", "typed", "I", false)
  | 9 => ("LeakCarouselModel", "text", "[C", true)
  | 10 => ("LeakCarouselModel", "at", "I", false)
  | 11 => ("LeakCarouselModel", "readMany", "I", false)
  | _ => ("LeakCarouselModel", "readPart", "[I", true)
def tyX6 : Nat → FieldType := fun k => match k with
  | 0 => .array .int
  | 1 => .array .int
  | 2 => .array .int
  | 3 => .array .double
  | 4 => .array .double
  | 5 => .array .double
  | 6 => .int
  | 7 => .boolean
  | 8 => .int
  | 9 => .array .char
  | 10 => .int
  | 11 => .int
  | _ => .array .int
abbrev wsX60 : List Cond := u_ws RX6 TX6 13
theorem nmX6 : ∀ a, a < 13 → ∀ b, b < 13 → a ≠ b → (TX6 a).2.1 ≠ (TX6 b).2.1 := by decide +kernel
theorem tyX6_ok : ∀ k, k < 13 → parseFieldDescriptor (TX6 k).2.2.1 = some (tyX6 k) := by decide +kernel
abbrev cX6_init : ByteArray := prog_8_method_1_code
def yX6_init : MethodName := ⟨RX6, "<init>", "()V"⟩
abbrev cX6_in : ByteArray := prog_8_method_2_code
def yX6_in : MethodName := ⟨RX6, "in", "(III)Z"⟩
abbrev cX6_begin : ByteArray := prog_8_method_3_code
def yX6_begin : MethodName := ⟨RX6, "begin", "(I)V"⟩
abbrev cX6_record : ByteArray := prog_8_method_4_code
def yX6_record : MethodName := ⟨RX6, "record", "()V"⟩
abbrev cX6_noHead : ByteArray := prog_8_method_5_code
def yX6_noHead : MethodName := ⟨RX6, "noHead", "(I)Z"⟩
abbrev cX6_noPart : ByteArray := prog_8_method_6_code
def yX6_noPart : MethodName := ⟨RX6, "noPart", "(I)Z"⟩
abbrev cX6_ofHead : ByteArray := prog_8_method_7_code
def yX6_ofHead : MethodName := ⟨RX6, "ofHead", "(II)I"⟩
abbrev cX6_more : ByteArray := prog_8_method_8_code
def yX6_more : MethodName := ⟨RX6, "more", "(II)V"⟩
abbrev cX6_ofPart : ByteArray := prog_8_method_9_code
def yX6_ofPart : MethodName := ⟨RX6, "ofPart", "(II)I"⟩
abbrev cX6_put : ByteArray := prog_8_method_10_code
def yX6_put : MethodName := ⟨RX6, "put", "(III)V"⟩
abbrev cX6_partOn : ByteArray := prog_8_method_11_code
def yX6_partOn : MethodName := ⟨RX6, "partOn", "(I)I"⟩
abbrev cX6_gain : ByteArray := prog_8_method_12_code
def yX6_gain : MethodName := ⟨RX6, "gain", "(I)D"⟩
abbrev cX6_factor : ByteArray := prog_8_method_13_code
def yX6_factor : MethodName := ⟨RX6, "factor", "(I)D"⟩
abbrev cX6_traced : ByteArray := prog_8_method_14_code
def yX6_traced : MethodName := ⟨RX6, "traced", "(II)D"⟩
abbrev cX6_present : ByteArray := prog_8_method_15_code
def yX6_present : MethodName := ⟨RX6, "present", "(I)D"⟩
abbrev cX6_build : ByteArray := prog_8_method_16_code
def yX6_build : MethodName := ⟨RX6, "build", "(I)I"⟩
abbrev cX6_setPressure : ByteArray := prog_8_method_17_code
def yX6_setPressure : MethodName := ⟨RX6, "setPressure", "(IJ)I"⟩
abbrev cX6_setInterval : ByteArray := prog_8_method_18_code
def yX6_setInterval : MethodName := ⟨RX6, "setInterval", "(I)I"⟩
abbrev cX6_equip : ByteArray := prog_8_method_19_code
def yX6_equip : MethodName := ⟨RX6, "equip", "(III)I"⟩
abbrev cX6_decayed : ByteArray := prog_8_method_20_code
def yX6_decayed : MethodName := ⟨RX6, "decayed", "(DIDI)D"⟩
abbrev cX6_calibrate : ByteArray := prog_8_method_21_code
def yX6_calibrate : MethodName := ⟨RX6, "calibrate", "(II)I"⟩
abbrev cX6_toBack : ByteArray := prog_8_method_22_code
def yX6_toBack : MethodName := ⟨RX6, "toBack", "(I)V"⟩
abbrev cX6_toFront : ByteArray := prog_8_method_23_code
def yX6_toFront : MethodName := ⟨RX6, "toFront", "(I)V"⟩
abbrev cX6_adds : ByteArray := prog_8_method_24_code
def yX6_adds : MethodName := ⟨RX6, "adds", "(III)V"⟩
abbrev cX6_add : ByteArray := prog_8_method_25_code
def yX6_add : MethodName := ⟨RX6, "add", "(ZII)I"⟩
abbrev cX6_takes : ByteArray := prog_8_method_26_code
def yX6_takes : MethodName := ⟨RX6, "takes", "(II)Z"⟩
abbrev cX6_rejects : ByteArray := prog_8_method_27_code
def yX6_rejects : MethodName := ⟨RX6, "rejects", "(II)V"⟩
abbrev cX6_judged : ByteArray := prog_8_method_28_code
def yX6_judged : MethodName := ⟨RX6, "judged", "(ID)I"⟩
abbrev cX6_ends : ByteArray := prog_8_method_29_code
def yX6_ends : MethodName := ⟨RX6, "ends", "(I)V"⟩
abbrev cX6_fills : ByteArray := prog_8_method_30_code
def yX6_fills : MethodName := ⟨RX6, "fills", "(I)V"⟩
abbrev cX6_step : ByteArray := prog_8_method_31_code
def yX6_step : MethodName := ⟨RX6, "step", "()I"⟩
abbrev cX6_goes : ByteArray := prog_8_method_32_code
def yX6_goes : MethodName := ⟨RX6, "goes", "(I)I"⟩
abbrev cX6_run : ByteArray := prog_8_method_33_code
def yX6_run : MethodName := ⟨RX6, "run", "(I)I"⟩
abbrev cX6_type : ByteArray := prog_8_method_34_code
def yX6_type : MethodName := ⟨RX6, "type", "(C)I"⟩
abbrev cX6_clearText : ByteArray := prog_8_method_35_code
def yX6_clearText : MethodName := ⟨RX6, "clearText", "()I"⟩
abbrev cX6_isSign : ByteArray := prog_8_method_36_code
def yX6_isSign : MethodName := ⟨RX6, "isSign", "(C)Z"⟩
abbrev cX6_number : ByteArray := prog_8_method_37_code
def yX6_number : MethodName := ⟨RX6, "number", "(II)I"⟩
abbrev cX6_readsPart : ByteArray := prog_8_method_38_code
def yX6_readsPart : MethodName := ⟨RX6, "readsPart", "()Z"⟩
abbrev cX6_readParts : ByteArray := prog_8_method_39_code
def yX6_readParts : MethodName := ⟨RX6, "readParts", "()I"⟩
abbrev cX6_isWord : ByteArray := prog_8_method_40_code
def yX6_isWord : MethodName := ⟨RX6, "isWord", "(ICCCC)Z"⟩
abbrev cX6_onHeads : ByteArray := prog_8_method_41_code
def yX6_onHeads : MethodName := ⟨RX6, "onHeads", "()I"⟩
abbrev cX6_stops : ByteArray := prog_8_method_42_code
def yX6_stops : MethodName := ⟨RX6, "stops", "()I"⟩
abbrev cX6_clears : ByteArray := prog_8_method_43_code
def yX6_clears : MethodName := ⟨RX6, "clears", "()I"⟩
abbrev cX6_perform : ByteArray := prog_8_method_44_code
def yX6_perform : MethodName := ⟨RX6, "perform", "()I"⟩
abbrev cX6_undo : ByteArray := prog_8_method_45_code
def yX6_undo : MethodName := ⟨RX6, "undo", "()I"⟩
abbrev cX6_keep : ByteArray := prog_8_method_46_code
def yX6_keep : MethodName := ⟨RX6, "keep", "()I"⟩
abbrev cX6_restore : ByteArray := prog_8_method_47_code
def yX6_restore : MethodName := ⟨RX6, "restore", "()I"⟩
abbrev cX6_nothing : ByteArray := prog_8_method_48_code
def yX6_nothing : MethodName := ⟨RX6, "nothing", "()D"⟩
abbrev cX6_head : ByteArray := prog_8_method_49_code
def yX6_head : MethodName := ⟨RX6, "head", "(II)I"⟩
abbrev cX6_gauge : ByteArray := prog_8_method_50_code
def yX6_gauge : MethodName := ⟨RX6, "gauge", "(II)D"⟩
abbrev cX6_display : ByteArray := prog_8_method_51_code
def yX6_display : MethodName := ⟨RX6, "display", "(I)I"⟩
abbrev cX6_placeOf : ByteArray := prog_8_method_52_code
def yX6_placeOf : MethodName := ⟨RX6, "placeOf", "(I)I"⟩
abbrev cX6_part : ByteArray := prog_8_method_53_code
def yX6_part : MethodName := ⟨RX6, "part", "(II)I"⟩
abbrev cX6_fits : ByteArray := prog_8_method_54_code
def yX6_fits : MethodName := ⟨RX6, "fits", "(II)I"⟩
abbrev cX6_value : ByteArray := prog_8_method_55_code
def yX6_value : MethodName := ⟨RX6, "value", "(I)D"⟩
abbrev cX6_foretold : ByteArray := prog_8_method_56_code
def yX6_foretold : MethodName := ⟨RX6, "foretold", "(II)D"⟩
abbrev cX6_pressureBits : ByteArray := prog_8_method_57_code
def yX6_pressureBits : MethodName := ⟨RX6, "pressureBits", "(I)J"⟩
abbrev cX6_trace : ByteArray := prog_8_method_58_code
def yX6_trace : MethodName := ⟨RX6, "trace", "(II)D"⟩
abbrev cX6_inState : ByteArray := prog_8_method_59_code
def yX6_inState : MethodName := ⟨RX6, "inState", "(I)I"⟩
abbrev cX6_count : ByteArray := prog_8_method_60_code
def yX6_count : MethodName := ⟨RX6, "count", "(I)I"⟩
def RJxe99ae : String := "java/lang/Double"
def TJxe99ae : u_T := fun k => match k with
  | _ => ("", "", "", false)
def tyJxe99ae : Nat → FieldType := fun k => match k with
  | _ => .int
abbrev wsJxe99ae0 : List Cond := u_ws RJxe99ae TJxe99ae 0
theorem nmJxe99ae : ∀ a, a < 0 → ∀ b, b < 0 → a ≠ b → (TJxe99ae a).2.1 ≠ (TJxe99ae b).2.1 := by decide +kernel
theorem tyJxe99ae_ok : ∀ k, k < 0 → parseFieldDescriptor (TJxe99ae k).2.2.1 = some (tyJxe99ae k) := by decide +kernel
abbrev cJxe99ae_isNaN_b9ae7 : ByteArray := prog_9_method_6_code
def yJxe99ae_isNaN_b9ae7 : MethodName := ⟨RJxe99ae, "isNaN", "(D)Z"⟩
abbrev cJxe99ae_doubleToLongBits_ccdee : ByteArray := prog_9_method_23_code
def yJxe99ae_doubleToLongBits_ccdee : MethodName := ⟨RJxe99ae, "doubleToLongBits", "(D)J"⟩
def RJxf58ca : String := "java/lang/Float"
def TJxf58ca : u_T := fun k => match k with
  | _ => ("", "", "", false)
def tyJxf58ca : Nat → FieldType := fun k => match k with
  | _ => .int
abbrev wsJxf58ca0 : List Cond := u_ws RJxf58ca TJxf58ca 0
theorem nmJxf58ca : ∀ a, a < 0 → ∀ b, b < 0 → a ≠ b → (TJxf58ca a).2.1 ≠ (TJxf58ca b).2.1 := by decide +kernel
theorem tyJxf58ca_ok : ∀ k, k < 0 → parseFieldDescriptor (TJxf58ca k).2.2.1 = some (tyJxf58ca k) := by decide +kernel
abbrev cJxf58ca_isNaN_12338 : ByteArray := prog_10_method_6_code
def yJxf58ca_isNaN_12338 : MethodName := ⟨RJxf58ca, "isNaN", "(F)Z"⟩
abbrev cJxf58ca_floatToIntBits_5c35a : ByteArray := prog_10_method_24_code
def yJxf58ca_floatToIntBits_5c35a : MethodName := ⟨RJxf58ca, "floatToIntBits", "(F)I"⟩
def RJ0 : String := "java/lang/String"
def TJ0 : u_T := fun k => match k with
  | _ => ("", "", "", false)
def tyJ0 : Nat → FieldType := fun k => match k with
  | _ => .int
abbrev wsJ00 : List Cond := u_ws RJ0 TJ0 0
theorem nmJ0 : ∀ a, a < 0 → ∀ b, b < 0 → a ≠ b → (TJ0 a).2.1 ≠ (TJ0 b).2.1 := by decide +kernel
theorem tyJ0_ok : ∀ k, k < 0 → parseFieldDescriptor (TJ0 k).2.2.1 = some (tyJ0 k) := by decide +kernel
abbrev cJ0_length_8abf5 : ByteArray := prog_11_method_54_code
def yJ0_length_8abf5 : MethodName := ⟨RJ0, "length", "()I"⟩
abbrev cJ0_charAt_5068e : ByteArray := prog_11_method_56_code
def yJ0_charAt_5068e : MethodName := ⟨RJ0, "charAt", "(I)C"⟩
abbrev cJ0_coder_7d493 : ByteArray := prog_11_method_152_code
def yJ0_coder_7d493 : MethodName := ⟨RJ0, "coder", "()B"⟩
abbrev cJ0_isLatin1_aae02 : ByteArray := prog_11_method_154_code
def yJ0_isLatin1_aae02 : MethodName := ⟨RJ0, "isLatin1", "()Z"⟩
abbrev cJ0_checkIndex_df160 : ByteArray := prog_11_method_155_code
def yJ0_checkIndex_df160 : MethodName := ⟨RJ0, "checkIndex", "(II)V"⟩
def RJ1 : String := "java/lang/StringLatin1"
def TJ1 : u_T := fun k => match k with
  | _ => ("", "", "", false)
def tyJ1 : Nat → FieldType := fun k => match k with
  | _ => .int
abbrev wsJ10 : List Cond := u_ws RJ1 TJ1 0
theorem nmJ1 : ∀ a, a < 0 → ∀ b, b < 0 → a ≠ b → (TJ1 a).2.1 ≠ (TJ1 b).2.1 := by decide +kernel
theorem tyJ1_ok : ∀ k, k < 0 → parseFieldDescriptor (TJ1 k).2.2.1 = some (tyJ1 k) := by decide +kernel
abbrev cJ1_charAt_3b067 : ByteArray := prog_12_method_2_code
def yJ1_charAt_3b067 : MethodName := ⟨RJ1, "charAt", "([BI)C"⟩
def RJ2 : String := "java/lang/StringUTF16"
def TJ2 : u_T := fun k => match k with
  | _ => ("", "", "", false)
def tyJ2 : Nat → FieldType := fun k => match k with
  | _ => .int
abbrev wsJ20 : List Cond := u_ws RJ2 TJ2 0
theorem nmJ2 : ∀ a, a < 0 → ∀ b, b < 0 → a ≠ b → (TJ2 a).2.1 ≠ (TJ2 b).2.1 := by decide +kernel
theorem tyJ2_ok : ∀ k, k < 0 → parseFieldDescriptor (TJ2 k).2.2.1 = some (tyJ2 k) := by decide +kernel
abbrev cJ2_getChar_3b067 : ByteArray := prog_13_method_5_code
def yJ2_getChar_3b067 : MethodName := ⟨RJ2, "getChar", "([BI)C"⟩
abbrev cJ2_length_9d52b : ByteArray := prog_13_method_6_code
def yJ2_length_9d52b : MethodName := ⟨RJ2, "length", "([B)I"⟩
abbrev cJ2_charAt_3b067 : ByteArray := prog_13_method_83_code
def yJ2_charAt_3b067 : MethodName := ⟨RJ2, "charAt", "([BI)C"⟩
abbrev cJ2_checkIndex_2214a : ByteArray := prog_13_method_91_code
def yJ2_checkIndex_2214a : MethodName := ⟨RJ2, "checkIndex", "(I[B)V"⟩
def RJ3 : String := "jdk/internal/util/Preconditions"
def TJ3 : u_T := fun k => match k with
  | _ => ("", "", "", false)
def tyJ3 : Nat → FieldType := fun k => match k with
  | _ => .int
abbrev wsJ30 : List Cond := u_ws RJ3 TJ3 0
theorem nmJ3 : ∀ a, a < 0 → ∀ b, b < 0 → a ≠ b → (TJ3 a).2.1 ≠ (TJ3 b).2.1 := by decide +kernel
theorem tyJ3_ok : ∀ k, k < 0 → parseFieldDescriptor (TJ3 k).2.2.1 = some (tyJ3 k) := by decide +kernel
abbrev cJ3_checkIndex_8e157 : ByteArray := prog_14_method_11_code
def yJ3_checkIndex_8e157 : MethodName := ⟨RJ3, "checkIndex", "(IILjava/util/function/BiFunction;)I"⟩
def RL : String := "LeakCarouselLaw"
abbrev cL_law : ByteArray := code
def yL_law : MethodName := ⟨RL, "law", "([I)Z"⟩
abbrev vwCl : List vw_C := [(RX0, TX0, 10), (RX1, TX1, 14), (RX2, TX2, 11), (RX3, TX3, 4), (RX4, TX4, 2), (RX5, TX5, 6), (RX6, TX6, 13)]
theorem inX0 : ∀ w ∈ wsX00, w ∈ lw_tbl := by decide +kernel
theorem inX1 : ∀ w ∈ wsX10, w ∈ lw_tbl := by decide +kernel
theorem inX2 : ∀ w ∈ wsX20, w ∈ lw_tbl := by decide +kernel
theorem inX3 : ∀ w ∈ wsX30, w ∈ lw_tbl := by decide +kernel
theorem inX4 : ∀ w ∈ wsX40, w ∈ lw_tbl := by decide +kernel
theorem inX5 : ∀ w ∈ wsX50, w ∈ lw_tbl := by decide +kernel
theorem inX6 : ∀ w ∈ wsX60, w ∈ lw_tbl := by decide +kernel
/-- the words of the tables that hold on at every state of the run -/
def lwG : List Cond := lw_tbl.filter goodWord
theorem lwG_of {w : Cond} (h : w ∈ lw_tbl) (g : goodWord w = true) : w ∈ lwG := List.mem_filter.mpr ⟨h, g⟩
theorem lwG_lay {C : String} {T : u_T} {N : Nat} (h : ∀ w ∈ u_ws C T N, w ∈ lw_tbl) (g : (u_ws C T N).all goodWord = true) : ∀ w ∈ u_ws C T N, w ∈ lwG := fun w hw => lwG_of (h w hw) (List.all_eq_true.mp g w hw)
theorem inlX0 : ∀ w ∈ wsX00, w ∈ lwG := lwG_lay inX0 (by decide +kernel)
theorem inlX1 : ∀ w ∈ wsX10, w ∈ lwG := lwG_lay inX1 (by decide +kernel)
theorem inlX2 : ∀ w ∈ wsX20, w ∈ lwG := lwG_lay inX2 (by decide +kernel)
theorem inlX3 : ∀ w ∈ wsX30, w ∈ lwG := lwG_lay inX3 (by decide +kernel)
theorem inlX4 : ∀ w ∈ wsX40, w ∈ lwG := lwG_lay inX4 (by decide +kernel)
theorem inlX5 : ∀ w ∈ wsX50, w ∈ lwG := lwG_lay inX5 (by decide +kernel)
theorem inlX6 : ∀ w ∈ wsX60, w ∈ lwG := lwG_lay inX6 (by decide +kernel)
theorem tb1 : ∀ w ∈ tables_1_1, w ∈ lw_tbl := fun _ h => List.mem_append_right _ (List.mem_append_left _ h)
theorem tb2 : ∀ w ∈ tables_1_2, w ∈ lw_tbl := fun _ h => List.mem_append_right _ (List.mem_append_right _ (List.mem_append_left _ h))
theorem tb3 : ∀ w ∈ tables_1_3, w ∈ lw_tbl := fun _ h => List.mem_append_right _ (List.mem_append_right _ (List.mem_append_right _ (List.mem_append_left _ h)))
theorem tb4 : ∀ w ∈ tables_1_4, w ∈ lw_tbl := fun _ h => List.mem_append_right _ (List.mem_append_right _ (List.mem_append_right _ (List.mem_append_right _ (List.mem_append_left _ h))))
theorem tb5 : ∀ w ∈ tables_1_5, w ∈ lw_tbl := fun _ h => List.mem_append_right _ (List.mem_append_right _ (List.mem_append_right _ (List.mem_append_right _ (List.mem_append_right _ (h)))))
theorem tb0 : ∀ w ∈ k2_sels lw_privs, w ∈ lw_tbl := fun _ h => List.mem_append_left _ h
end
section
/-! THE LAYER: one memory of numbers (M), one numbering of cells (1..457), one judgement G; every instruction has a row g_..; what a method needs stands in a predicate w_.. (printed by a program), and its contract says: from w_.., any post. -/
abbrev Mem : Type := (Nat → Nat → Int32) × (Nat → Nat → UInt64) × (Nat → Nat → Int64) × (Nat → Nat → Nat)
def gI (M : Mem) (r k : Nat) : Int32 := M.1 r k
def gD (M : Mem) (r k : Nat) : UInt64 := M.2.1 r k
def gL (M : Mem) (r k : Nat) : Int64 := M.2.2.1 r k
def gR (M : Mem) (r k : Nat) : Nat := M.2.2.2 r k
def sI (M : Mem) (r k : Nat) (v : Int32) : Mem := (fun a j => if a = r ∧ j = k then v else M.1 a j, M.2.1, M.2.2.1, M.2.2.2)
def sD (M : Mem) (r k : Nat) (v : UInt64) : Mem := (M.1, fun a j => if a = r ∧ j = k then v else M.2.1 a j, M.2.2.1, M.2.2.2)
def sL (M : Mem) (r k : Nat) (v : Int64) : Mem := (M.1, M.2.1, fun a j => if a = r ∧ j = k then v else M.2.2.1 a j, M.2.2.2)
def sR (M : Mem) (r k : Nat) (v : Nat) : Mem := (M.1, M.2.1, M.2.2.1, fun a j => if a = r ∧ j = k then v else M.2.2.2 a j)
def zr (M : Mem) (r : Nat) : Mem := (fun a j => if a = r then 0 else M.1 a j, fun a j => if a = r then 0 else M.2.1 a j, fun a j => if a = r then 0 else M.2.2.1 a j, fun a j => if a = r then 0 else M.2.2.2 a j)
abbrev AV : Type := Value ⊕ Nat
abbrev iV (x : Int32) : AV := .inl (.int x)
abbrev lV (x : Int64) : AV := .inl (.long x)
abbrev dV (x : UInt64) : AV := .inl (.double x)
abbrev fV (x : UInt32) : AV := .inl (.float x)
abbrev rV (r : Nat) : AV := .inr r
def rf (b r : Nat) : Value := if r = 0 then .null else .ref (b + r)
def toV (b : Nat) : AV → Value
  | .inl v => v
  | .inr r => rf b r
def catA : AV → Nat
  | .inl v => v.category
  | .inr _ => 1
theorem rf_or (b r : Nat) : (r = 0 ∧ rf b r = .null) ∨ (r ≠ 0 ∧ rf b r = .ref (b + r)) := by
  by_cases h : r = 0
  · exact Or.inl ⟨h, if_pos h⟩
  · exact Or.inr ⟨h, if_neg h⟩
theorem rf_pos {b r : Nat} (h : r ≠ 0) : rf b r = .ref (b + r) := if_neg h
theorem rf_cat (b r : Nat) : (rf b r).category = 1 := by
  rcases rf_or b r with ⟨-, h⟩ | ⟨-, h⟩ <;> rw [h] <;> rfl
theorem toV_cat (b : Nat) (a : AV) : (toV b a).category = catA a := by
  cases a with
  | inl v => rfl
  | inr r => exact rf_cat b r
/-- what kind of cell a number is, and how long an array: 0 to 6 the objects of vwCl, 7 int[], 8 double[], 9 char[], 10 Head[], 11 Part[], 12 Carousel[], 99 none -/
def kCar (j : Nat) : Nat × Nat := if j = 0 then (0, 0) else if j ≤ 3 then (3, 0) else if j = 4 then (10, 8) else if j ≤ 12 then (1, 0) else if j = 13 then (11, 60) else (2, 0)
def kd (r : Nat) : Nat × Nat :=
  if r = 0 then (99, 0) else if r = 1 then (5, 0) else if r ≤ 75 then kCar (r - 2) else if r = 76 then (12, 4) else if r ≤ 446 then kCar ((r - 77) % 74)
  else if r = 447 then (4, 0) else if r = 448 then (9, 60) else if r = 449 then (6, 0) else if r = 450 then (7, 632) else if r = 451 then (7, 2528) else if r = 452 then (7, 632)
  else if r = 453 then (8, 159) else if r = 454 then (8, 636) else if r = 455 then (8, 159) else if r = 456 then (9, 60) else if r = 457 then (7, 42) else (99, 0)
def fC (ci : Nat) : String := match ci with | 0 => RX0 | 1 => RX1 | 2 => RX2 | 3 => RX3 | 4 => RX4 | 5 => RX5 | _ => RX6
def fT (ci : Nat) : u_T := match ci with | 0 => TX0 | 1 => TX1 | 2 => TX2 | 3 => TX3 | 4 => TX4 | 5 => TX5 | _ => TX6
def fN (ci : Nat) : Nat := match ci with | 0 => 10 | 1 => 14 | 2 => 11 | 3 => 4 | 4 => 2 | 5 => 6 | _ => 13
def tyF (ci : Nat) : Nat → FieldType := match ci with | 0 => tyX0 | 1 => tyX1 | 2 => tyX2 | 3 => tyX3 | 4 => tyX4 | 5 => tyX5 | _ => tyX6
theorem cl_at {ci : Nat} (h : ci < 7) : vwCl[ci]? = some (fC ci, fT ci, fN ci) := by
  match ci, h with
  | 0, _ => rfl
  | 1, _ => rfl
  | 2, _ => rfl
  | 3, _ => rfl
  | 4, _ => rfl
  | 5, _ => rfl
  | 6, _ => rfl
theorem cl_ty {ci : Nat} (h : ci < 7) : ∀ k, k < fN ci → parseFieldDescriptor (fT ci k).2.2.1 = some (tyF ci k) := by
  match ci, h with
  | 0, _ => exact tyX0_ok
  | 1, _ => exact tyX1_ok
  | 2, _ => exact tyX2_ok
  | 3, _ => exact tyX3_ok
  | 4, _ => exact tyX4_ok
  | 5, _ => exact tyX5_ok
  | 6, _ => exact tyX6_ok
theorem cl_nm {ci : Nat} (h : ci < 7) : ∀ a, a < fN ci → ∀ b, b < fN ci → a ≠ b → (fT ci a).2.1 ≠ (fT ci b).2.1 := by
  match ci, h with
  | 0, _ => exact nmX0
  | 1, _ => exact nmX1
  | 2, _ => exact nmX2
  | 3, _ => exact nmX3
  | 4, _ => exact nmX4
  | 5, _ => exact nmX5
  | 6, _ => exact nmX6
theorem cl_in {ci : Nat} (h : ci < 7) : ∀ w ∈ u_ws (fC ci) (fT ci) (fN ci), w ∈ lwG := by
  match ci, h with
  | 0, _ => exact inlX0
  | 1, _ => exact inlX1
  | 2, _ => exact inlX2
  | 3, _ => exact inlX3
  | 4, _ => exact inlX4
  | 5, _ => exact inlX5
  | 6, _ => exact inlX6
/-- the class tables, where the array classes are, the place below the cells, the heap at the law's entry, where the four texts are -/
abbrev Gl : Type := va_G × (Nat → ClassId) × Nat × Heap × (Nat → Nat) × (Nat → Nat)
def fv (b : Nat) (M : Mem) (ty : FieldType) (r k : Nat) : Value := match ty with
  | .double => .double (gD M r k)
  | .long => .long (gL M r k)
  | .object _ => rf b (gR M r k)
  | .array _ => rf b (gR M r k)
  | _ => .int (gI M r k)
def av (b : Nat) (M : Mem) (k r j : Nat) : Value := if k = 8 then .double (gD M r j) else if k ≤ 9 then .int (gI M r j) else rf b (gR M r j)
def cellAt (E : Gl) (M : Mem) (r : Nat) (H : Heap) : Prop :=
  if (kd r).1 < 7 then t_OB (E.2.2.1 + r) (E.1.1 (kd r).1) (fN (kd r).1) (E.1.2 (kd r).1) H (fun j => fv E.2.2.1 M (tyF (kd r).1 j) r j)
  else H[E.2.2.1 + r]? = some (arrV (E.2.1 (kd r).1) (kd r).2 (fun j => av E.2.2.1 M (kd r).1 r j))
def Rep (E : Gl) (n : Nat) (M : Mem) (H : Heap) : Prop := H.size = E.2.2.1 + 1 + n ∧ (∀ q, q ≤ E.2.2.1 → H[q]? = E.2.2.2.1[q]?) ∧ ∀ r, 1 ≤ r → r ≤ n → cellAt E M r H
theorem lawGood : ∀ w ∈ lwG, (w.onTables && w.keeps) = true ∨ ∃ ty, w = .arrayClass ty := fun w h => good_of_word (List.mem_filter.mp h).2
abbrev arrTys (E : Gl) : List (ClassId × FieldType) := [(E.2.1 7, .int), (E.2.1 8, .double), (E.2.1 9, .char), (E.2.1 10, .object RX1), (E.2.1 11, .object RX2), (E.2.1 12, .object RX0)]
/-- the texts of the class: step, turn, stop, clear -/
def lenS : List Nat := [4, 4, 4, 5]
def bytS : List (List Int32) := [[115, 116, 101, 112], [116, 117, 114, 110], [115, 116, 111, 112], [99, 108, 101, 97, 114]]
/-- the cells that may change -/
def Ab (E : Gl) : Nat → Prop := fun q => E.2.2.1 < q
def KS (E : Gl) (U : State) : Prop := vk_S 4 lenS bytS E.2.2.2.2.1 E.2.2.2.2.2 (Ab E) U E.2.2.2.1 ∧ (vk_R RX5 120 "step" (E.2.2.2.2.1 0) U ∧ vk_R RX5 126 "turn" (E.2.2.2.2.1 1) U ∧ vk_R RX5 131 "stop" (E.2.2.2.2.1 2) U ∧ vk_R RX5 136 "clear" (E.2.2.2.2.1 3) U) ∧ va_Z "java/lang/String" "COMPACT_STRINGS" "Z" (.int 1) (Ab E) U E.2.2.2.1 ∧ va_Zq "jdk/internal/util/Preconditions" "SIOOBE_FORMATTER" "Ljava/util/function/BiFunction;" (Ab E) U E.2.2.2.1
theorem KS.moved {E : Gl} {s U : State} (hW : s.WarmedH U.vm) (h : KS E s) : KS E U := by
  obtain ⟨h1, ⟨h2, h3, h4, h5⟩, h6, h7⟩ := h
  exact ⟨vk_S.moved hW.alike h1, ⟨vk_R.warm hW h2, vk_R.warm hW h3, vk_R.warm hW h4, vk_R.warm hW h5⟩, va_Z.moved hW.alike h6, va_Zq.moved hW.alike h7⟩
def KK (E : Gl) (U : State) : Prop := va_K E.1 vwCl (arrTys E) U ∧ (∀ w ∈ lwG, ∀ a : Array Value, w.before a U = true) ∧ va_Nw (.methodLinkNest RX3 19 yX5_numberOf RX5) U ∧ va_Nw (.methodLinkNest RX0 200 yX5_decayed RX5) U ∧ va_AO RX0 U ∧ va_AO RX1 U ∧ va_AO RX2 U ∧ KS E U
theorem KK.moved {E : Gl} {s U : State} (hW : s.WarmedH U.vm) (h : KK E s) : KK E U := by
  obtain ⟨h1, h2, h3, h4, h5, h6, h7, h8⟩ := h
  exact ⟨va_K.moved hW.alike h1, fun w hw a => word_at (args := #[]) hW (lawGood w hw) (h2 w hw #[]), va_Nw.warmM hW h3, va_Nw.warmM hW h4, va_AO.moved hW.alike h5, va_AO.moved hW.alike h6, va_AO.moved hW.alike h7, KS.moved hW h8⟩
theorem KK.calls {E : Gl} {U : State} (g : JFrame) (mk : MethodId) (a : Array Value) (h : KK E U) : KK E (U.calling g mk a) := KK.moved (s := U) (U := U.calling g mk a) (State.WarmedH.refl U) h
def lvm (b : Nat) (lv : List (Nat × AV)) : List (Nat × Value) := lv.map fun q => (q.1, toV b q.2)
def keep1 (i : Nat) (lv : List (Nat × AV)) : List (Nat × AV) := lv.filter (fun q => !(q.1 == i) && !(q.1 + 1 == i && catA q.2 == 2))
def keep2 (i : Nat) (lv : List (Nat × AV)) : List (Nat × AV) := lv.filter (fun q => !(q.1 == i) && (!(q.1 == i + 1) && !(q.1 + 1 == i && catA q.2 == 2)))
theorem lvm_keep1 (b i : Nat) (lv : List (Nat × AV)) : (lvm b lv).filter (fun q => !(q.1 == i) && !(q.1 + 1 == i && q.2.category == 2)) = lvm b (keep1 i lv) := by
  unfold lvm keep1
  rw [List.filter_map]
  congr 1
  congr 1
  funext q
  show (!(q.1 == i) && !(q.1 + 1 == i && (toV b q.2).category == 2)) = _
  rw [toV_cat]
theorem lvm_keep2 (b i : Nat) (lv : List (Nat × AV)) : (lvm b lv).filter (fun q => !(q.1 == i) && (!(q.1 == i + 1) && !(q.1 + 1 == i && q.2.category == 2))) = lvm b (keep2 i lv) := by
  unfold lvm keep2
  rw [List.filter_map]
  congr 1
  congr 1
  funext q
  show (!(q.1 == i) && (!(q.1 == i + 1) && !(q.1 + 1 == i && (toV b q.2).category == 2))) = _
  rw [toV_cat]
theorem lvat {ls : Array Slot} {nL b j i : Nat} {lv : List (Nat × AV)} {a : AV} (h : lv_has ls nL (lvm b lv)) (hj : lv[j]? = some (i, a)) : ls[i]? = some (.val (toV b a)) :=
  lv_at h j (by unfold lvm; rw [List.getElem?_map, hj]; rfl)
section GR
variable {E : Gl} {p : Program} {l : Launch} {e : Env} {R : Room} {s : State} {m : MethodId} {args : Array Value} {below : List Frame} {meth : Method} {c : Code} {nL n : Nat} {M : Mem} {cells slots : Nat} {Q : State → Prop} {cc : ByteArray} {own : String} {pc : Nat} {lv lv' : List (Nat × AV)} {st : List AV}
def G (E : Gl) (p : Program) (l : Launch) (e : Env) (R : Room) (s : State) (m : MethodId) (args : Array Value) (below : List Frame) (meth : Method) (c : Code) (nL n : Nat) (M : Mem) (cells slots : Nat) (Q : State → Prop) (pc : Nat) (lv : List (Nat × AV)) (st : List AV) : Prop :=
  ∀ (H : Heap) (locs : List Loc) (ls : Array Slot) (d : Drawn), s.drawn.sameBut d lw_cs → Rep E n M H → (∀ q ∈ locs, Ab E q.base) → lv_has ls nL (lvm E.2.2.1 lv) → W p l e R (s.setDrawn d) m args below meth c H locs cells slots Q (F0 m pc ls (st.map (toV E.2.2.1)))
def CX (E : Gl) (p : Program) (s : State) (m : MethodId) (c : Code) (cc : ByteArray) (nL : Nat) (own : String) : Prop := p.tables.exec = Jvm.exec ∧ c.code = cc ∧ c.maxLocals = nL ∧ s.vm.findClass own = some m.cls ∧ KK E s
theorem CX.w (X : CX E p s m c cc nL own) {w : Cond} (h : w ∈ lwG) (a : Array Value) (d : Drawn) : w.before a (s.setDrawn d) = true := (Cond.before_setDrawn a s d w).trans (X.2.2.2.2.2.1 w h a)
theorem g_lvsub (ks : List Nat) (hl : ks.filterMap (fun k => lv[k]?) = lv') (kk : G E p l e R s m args below meth c nL n M cells slots Q pc lv' st) : G E p l e R s m args below meth c nL n M cells slots Q pc lv st := by
  intro H locs ls d hd hR hlo hls
  refine kk H locs ls d hd hR hlo (lv_sub hls ks ?_)
  subst hl
  unfold lv_pick lvm
  rw [List.map_filterMap]
  congr 1
  funext k
  rw [List.getElem?_map]
-- constants, locals
theorem g_iconst (X : CX E p s m c cc nL own) {k : Int} (v : Int32) (hd : decode cc pc = .ok (.iconst k, 1)) (hv : Int32.ofInt k = v) (kk : G E p l e R s m args below meth c nL n M cells slots Q (pc + 1) lv (iV v :: st)) : G E p l e R s m args below meth c nL n M cells slots Q pc lv st :=
  fun H locs ls d a1 a2 a3 a4 => lv_iconst X.1 X.2.1 hd hv (kk H locs ls d a1 a2 a3 a4)
theorem g_bipush (X : CX E p s m c cc nL own) {k : Int} (v : Int32) (hd : decode cc pc = .ok (.bipush k, 2)) (hv : (Int8.ofInt k).toInt32 = v) (kk : G E p l e R s m args below meth c nL n M cells slots Q (pc + 2) lv (iV v :: st)) : G E p l e R s m args below meth c nL n M cells slots Q pc lv st :=
  fun H locs ls d a1 a2 a3 a4 => lv_bipush X.1 X.2.1 hd hv (kk H locs ls d a1 a2 a3 a4)
theorem g_sipush (X : CX E p s m c cc nL own) {k : Int} (v : Int32) (hd : decode cc pc = .ok (.sipush k, 3)) (hv : (Int16.ofInt k).toInt32 = v) (kk : G E p l e R s m args below meth c nL n M cells slots Q (pc + 3) lv (iV v :: st)) : G E p l e R s m args below meth c nL n M cells slots Q pc lv st :=
  fun H locs ls d a1 a2 a3 a4 => lv_sipush X.1 X.2.1 hd hv (kk H locs ls d a1 a2 a3 a4)
theorem g_lconst (X : CX E p s m c cc nL own) {k : Fin 2} (v : Int64) (hd : decode cc pc = .ok (.lconst k, 1)) (hv : Int64.ofNat (k : Nat) = v) (kk : G E p l e R s m args below meth c nL n M cells slots Q (pc + 1) lv (lV v :: st)) : G E p l e R s m args below meth c nL n M cells slots Q pc lv st :=
  fun H locs ls d a1 a2 a3 a4 => lv_lconst X.1 X.2.1 hd hv (kk H locs ls d a1 a2 a3 a4)
theorem g_dconst0 (X : CX E p s m c cc nL own) (hd : decode cc pc = .ok (.dconst 0, 1)) (kk : G E p l e R s m args below meth c nL n M cells slots Q (pc + 1) lv (dV FP.dconst0 :: st)) : G E p l e R s m args below meth c nL n M cells slots Q pc lv st :=
  fun H locs ls d a1 a2 a3 a4 => lv_dconst0 X.1 X.2.1 hd (kk H locs ls d a1 a2 a3 a4)
theorem g_dconst1 (X : CX E p s m c cc nL own) (hd : decode cc pc = .ok (.dconst 1, 1)) (kk : G E p l e R s m args below meth c nL n M cells slots Q (pc + 1) lv (dV FP.dconst1 :: st)) : G E p l e R s m args below meth c nL n M cells slots Q pc lv st :=
  fun H locs ls d a1 a2 a3 a4 => lv_dconst1 X.1 X.2.1 hd (kk H locs ls d a1 a2 a3 a4)
theorem g_null (X : CX E p s m c cc nL own) (hd : decode cc pc = .ok (.aconst_null, 1)) (kk : G E p l e R s m args below meth c nL n M cells slots Q (pc + 1) lv (rV 0 :: st)) : G E p l e R s m args below meth c nL n M cells slots Q pc lv st :=
  fun H locs ls d a1 a2 a3 a4 => lv_null X.1 X.2.1 hd (kk H locs ls d a1 a2 a3 a4)
theorem g_ldc (X : CX E p s m c cc nL own) {k : Nat} (v : Int32) (hd : decode cc pc = .ok (.ldc k, 2)) (hw : Cond.constant own k v ∈ lwG) (kk : G E p l e R s m args below meth c nL n M cells slots Q (pc + 2) lv (iV v :: st)) : G E p l e R s m args below meth c nL n M cells slots Q pc lv st :=
  fun H locs ls d a1 a2 a3 a4 => lv_ldc X.1 X.2.1 X.2.2.2.1 (X.w hw args d) hd (kk H locs ls d a1 a2 a3 a4)
theorem g_ldcw (X : CX E p s m c cc nL own) {k : Nat} (v : Int32) (hd : decode cc pc = .ok (.ldc_w k, 3)) (hw : Cond.constant own k v ∈ lwG) (kk : G E p l e R s m args below meth c nL n M cells slots Q (pc + 3) lv (iV v :: st)) : G E p l e R s m args below meth c nL n M cells slots Q pc lv st :=
  fun H locs ls d a1 a2 a3 a4 => lv_ldcw X.1 X.2.1 X.2.2.2.1 (X.w hw args d) hd (kk H locs ls d a1 a2 a3 a4)
theorem g_ldcL (X : CX E p s m c cc nL own) {k : Nat} (v : Int64) (hd : decode cc pc = .ok (.ldc2_w k, 3)) (hw : Cond.constantLong own k v ∈ lwG) (kk : G E p l e R s m args below meth c nL n M cells slots Q (pc + 3) lv (lV v :: st)) : G E p l e R s m args below meth c nL n M cells slots Q pc lv st :=
  fun H locs ls d a1 a2 a3 a4 => lv_ldc2 X.1 X.2.1 X.2.2.2.1 (X.w hw args d) hd (kk H locs ls d a1 a2 a3 a4)
theorem g_ldcD (X : CX E p s m c cc nL own) {k : Nat} (v : UInt64) (hd : decode cc pc = .ok (.ldc2_w k, 3)) (hw : Cond.constantDouble own k v ∈ lwG) (kk : G E p l e R s m args below meth c nL n M cells slots Q (pc + 3) lv (dV v :: st)) : G E p l e R s m args below meth c nL n M cells slots Q pc lv st :=
  fun H locs ls d a1 a2 a3 a4 => lv_ldc2d X.1 X.2.1 X.2.2.2.1 (X.w hw args d) hd (kk H locs ls d a1 a2 a3 a4)
theorem g_iload_n (X : CX E p s m c cc nL own) {k : Fin 4} {x : Int32} (hd : decode cc pc = .ok (.iload_n k, 1)) (j : Nat) (hl : lv[j]? = some ((k : Nat), iV x)) (kk : G E p l e R s m args below meth c nL n M cells slots Q (pc + 1) lv (iV x :: st)) : G E p l e R s m args below meth c nL n M cells slots Q pc lv st :=
  fun H locs ls d a1 a2 a3 a4 => lv_iload_n X.1 X.2.1 hd rfl (lvat a4 hl) (kk H locs ls d a1 a2 a3 a4)
theorem g_iload (X : CX E p s m c cc nL own) {k : Nat} {x : Int32} (hd : decode cc pc = .ok (.iload k, 2)) (j : Nat) (hl : lv[j]? = some (k, iV x)) (kk : G E p l e R s m args below meth c nL n M cells slots Q (pc + 2) lv (iV x :: st)) : G E p l e R s m args below meth c nL n M cells slots Q pc lv st :=
  fun H locs ls d a1 a2 a3 a4 => lv_iload X.1 X.2.1 hd (lvat a4 hl) (kk H locs ls d a1 a2 a3 a4)
theorem g_lload_n (X : CX E p s m c cc nL own) {k : Fin 4} {x : Int64} (hd : decode cc pc = .ok (.lload_n k, 1)) (j : Nat) (hl : lv[j]? = some ((k : Nat), lV x)) (kk : G E p l e R s m args below meth c nL n M cells slots Q (pc + 1) lv (lV x :: st)) : G E p l e R s m args below meth c nL n M cells slots Q pc lv st :=
  fun H locs ls d a1 a2 a3 a4 => lv_lload_n X.1 X.2.1 hd rfl (lvat a4 hl) (kk H locs ls d a1 a2 a3 a4)
theorem g_lload (X : CX E p s m c cc nL own) {k : Nat} {x : Int64} (hd : decode cc pc = .ok (.lload k, 2)) (j : Nat) (hl : lv[j]? = some (k, lV x)) (kk : G E p l e R s m args below meth c nL n M cells slots Q (pc + 2) lv (lV x :: st)) : G E p l e R s m args below meth c nL n M cells slots Q pc lv st :=
  fun H locs ls d a1 a2 a3 a4 => lv_lload X.1 X.2.1 hd (lvat a4 hl) (kk H locs ls d a1 a2 a3 a4)
theorem g_dload_n (X : CX E p s m c cc nL own) {k : Fin 4} {x : UInt64} (hd : decode cc pc = .ok (.dload_n k, 1)) (j : Nat) (hl : lv[j]? = some ((k : Nat), dV x)) (kk : G E p l e R s m args below meth c nL n M cells slots Q (pc + 1) lv (dV x :: st)) : G E p l e R s m args below meth c nL n M cells slots Q pc lv st :=
  fun H locs ls d a1 a2 a3 a4 => lv_dload_n X.1 X.2.1 hd rfl (lvat a4 hl) (kk H locs ls d a1 a2 a3 a4)
theorem g_dload (X : CX E p s m c cc nL own) {k : Nat} {x : UInt64} (hd : decode cc pc = .ok (.dload k, 2)) (j : Nat) (hl : lv[j]? = some (k, dV x)) (kk : G E p l e R s m args below meth c nL n M cells slots Q (pc + 2) lv (dV x :: st)) : G E p l e R s m args below meth c nL n M cells slots Q pc lv st :=
  fun H locs ls d a1 a2 a3 a4 => lv_dload X.1 X.2.1 hd (lvat a4 hl) (kk H locs ls d a1 a2 a3 a4)
theorem g_fload_n (X : CX E p s m c cc nL own) {k : Fin 4} {x : UInt32} (hd : decode cc pc = .ok (.fload_n k, 1)) (j : Nat) (hl : lv[j]? = some ((k : Nat), fV x)) (kk : G E p l e R s m args below meth c nL n M cells slots Q (pc + 1) lv (fV x :: st)) : G E p l e R s m args below meth c nL n M cells slots Q pc lv st :=
  fun H locs ls d a1 a2 a3 a4 => lv_fload_n X.1 X.2.1 hd rfl (lvat a4 hl) (kk H locs ls d a1 a2 a3 a4)
theorem g_aload_n (X : CX E p s m c cc nL own) {k : Fin 4} {r : Nat} (hd : decode cc pc = .ok (.aload_n k, 1)) (j : Nat) (hl : lv[j]? = some ((k : Nat), rV r)) (kk : G E p l e R s m args below meth c nL n M cells slots Q (pc + 1) lv (rV r :: st)) : G E p l e R s m args below meth c nL n M cells slots Q pc lv st := by
  intro H locs ls d a1 a2 a3 a4
  have h1 := lvat a4 hl
  have h2 := kk H locs ls d a1 a2 a3 a4
  change ls[(k : Nat)]? = some (.val (rf E.2.2.1 r)) at h1
  change W _ _ _ _ _ _ _ _ _ _ _ _ _ _ _ (F0 m (pc + 1) ls (rf E.2.2.1 r :: st.map (toV E.2.2.1))) at h2
  rcases rf_or E.2.2.1 r with ⟨-, h⟩ | ⟨-, h⟩
  · rw [h] at h1 h2
    exact lv_aload_nN X.1 X.2.1 hd rfl h1 h2
  · rw [h] at h1 h2
    exact lv_aload_n X.1 X.2.1 hd rfl h1 h2
theorem g_aload (X : CX E p s m c cc nL own) {k : Nat} {r : Nat} (hd : decode cc pc = .ok (.aload k, 2)) (j : Nat) (hl : lv[j]? = some (k, rV r)) (kk : G E p l e R s m args below meth c nL n M cells slots Q (pc + 2) lv (rV r :: st)) : G E p l e R s m args below meth c nL n M cells slots Q pc lv st := by
  intro H locs ls d a1 a2 a3 a4
  have h1 := lvat a4 hl
  have h2 := kk H locs ls d a1 a2 a3 a4
  change ls[k]? = some (.val (rf E.2.2.1 r)) at h1
  change W _ _ _ _ _ _ _ _ _ _ _ _ _ _ _ (F0 m (pc + 2) ls (rf E.2.2.1 r :: st.map (toV E.2.2.1))) at h2
  rcases rf_or E.2.2.1 r with ⟨-, h⟩ | ⟨-, h⟩
  · rw [h] at h1 h2
    exact lv_aloadN X.1 X.2.1 hd h1 h2
  · rw [h] at h1 h2
    exact lv_aload X.1 X.2.1 hd h1 h2
theorem g_istore_n (X : CX E p s m c cc nL own) {k : Fin 4} {x : Int32} (hd : decode cc pc = .ok (.istore_n k, 1)) (hn : (k : Nat) < nL) (hl : ((k : Nat), iV x) :: keep1 (k : Nat) lv = lv') (kk : G E p l e R s m args below meth c nL n M cells slots Q (pc + 1) lv' st) : G E p l e R s m args below meth c nL n M cells slots Q pc lv (iV x :: st) :=
  fun H locs ls d a1 a2 a3 a4 => lv_istore_n X.1 X.2.1 hd rfl a4 hn (by rw [lvm_keep1]; subst hl; rfl) (fun ls' a4' => kk H locs ls' d a1 a2 a3 a4')
theorem g_istore (X : CX E p s m c cc nL own) {k : Nat} {x : Int32} (hd : decode cc pc = .ok (.istore k, 2)) (hn : k < nL) (hl : (k, iV x) :: keep1 k lv = lv') (kk : G E p l e R s m args below meth c nL n M cells slots Q (pc + 2) lv' st) : G E p l e R s m args below meth c nL n M cells slots Q pc lv (iV x :: st) :=
  fun H locs ls d a1 a2 a3 a4 => lv_istore X.1 X.2.1 hd a4 hn (by rw [lvm_keep1]; subst hl; rfl) (fun ls' a4' => kk H locs ls' d a1 a2 a3 a4')
theorem g_lstore_n (X : CX E p s m c cc nL own) {k : Fin 4} {x : Int64} (hd : decode cc pc = .ok (.lstore_n k, 1)) (hn : (k : Nat) + 1 < nL) (hl : ((k : Nat), lV x) :: keep2 (k : Nat) lv = lv') (kk : G E p l e R s m args below meth c nL n M cells slots Q (pc + 1) lv' st) : G E p l e R s m args below meth c nL n M cells slots Q pc lv (lV x :: st) :=
  fun H locs ls d a1 a2 a3 a4 => lv_lstore_n X.1 X.2.1 hd rfl a4 hn (by rw [lvm_keep2]; subst hl; rfl) (fun ls' a4' => kk H locs ls' d a1 a2 a3 a4')
theorem g_dstore_n (X : CX E p s m c cc nL own) {k : Fin 4} {x : UInt64} (hd : decode cc pc = .ok (.dstore_n k, 1)) (hn : (k : Nat) + 1 < nL) (hl : ((k : Nat), dV x) :: keep2 (k : Nat) lv = lv') (kk : G E p l e R s m args below meth c nL n M cells slots Q (pc + 1) lv' st) : G E p l e R s m args below meth c nL n M cells slots Q pc lv (dV x :: st) :=
  fun H locs ls d a1 a2 a3 a4 => lv_dstore_n X.1 X.2.1 hd rfl a4 hn (by rw [lvm_keep2]; subst hl; rfl) (fun ls' a4' => kk H locs ls' d a1 a2 a3 a4')
theorem g_dstore (X : CX E p s m c cc nL own) {k : Nat} {x : UInt64} (hd : decode cc pc = .ok (.dstore k, 2)) (hn : k + 1 < nL) (hl : (k, dV x) :: keep2 k lv = lv') (kk : G E p l e R s m args below meth c nL n M cells slots Q (pc + 2) lv' st) : G E p l e R s m args below meth c nL n M cells slots Q pc lv (dV x :: st) :=
  fun H locs ls d a1 a2 a3 a4 => lv_dstore X.1 X.2.1 hd a4 hn (by rw [lvm_keep2]; subst hl; rfl) (fun ls' a4' => kk H locs ls' d a1 a2 a3 a4')
theorem g_astore_n (X : CX E p s m c cc nL own) {k : Fin 4} {r : Nat} (hd : decode cc pc = .ok (.astore_n k, 1)) (hn : (k : Nat) < nL) (hl : ((k : Nat), rV r) :: keep1 (k : Nat) lv = lv') (kk : G E p l e R s m args below meth c nL n M cells slots Q (pc + 1) lv' st) : G E p l e R s m args below meth c nL n M cells slots Q pc lv (rV r :: st) := by
  intro H locs ls d a1 a2 a3 a4
  have h2 : ∀ ls' : Array Slot, lv_has ls' nL (((k : Nat), rf E.2.2.1 r) :: (lvm E.2.2.1 lv).filter (fun q => !(q.1 == (k : Nat)) && !(q.1 + 1 == (k : Nat) && q.2.category == 2))) → W p l e R (s.setDrawn d) m args below meth c H locs cells slots Q (F0 m (pc + 1) ls' (st.map (toV E.2.2.1))) := fun ls' h => kk H locs ls' d a1 a2 a3 (by rw [lvm_keep1] at h; subst hl; exact h)
  change W _ _ _ _ _ _ _ _ _ _ _ _ _ _ _ (F0 m pc ls (rf E.2.2.1 r :: st.map (toV E.2.2.1)))
  rcases rf_or E.2.2.1 r with ⟨-, h⟩ | ⟨-, h⟩
  · rw [h] at h2 ⊢
    exact lv_astore_nN X.1 X.2.1 hd rfl a4 hn rfl h2
  · rw [h] at h2 ⊢
    exact lv_astore_n X.1 X.2.1 hd rfl a4 hn rfl h2
theorem g_astore (X : CX E p s m c cc nL own) {k : Nat} {r : Nat} (hd : decode cc pc = .ok (.astore k, 2)) (hn : k < nL) (hl : (k, rV r) :: keep1 k lv = lv') (kk : G E p l e R s m args below meth c nL n M cells slots Q (pc + 2) lv' st) : G E p l e R s m args below meth c nL n M cells slots Q pc lv (rV r :: st) := by
  intro H locs ls d a1 a2 a3 a4
  have h2 : ∀ ls' : Array Slot, lv_has ls' nL ((k, rf E.2.2.1 r) :: (lvm E.2.2.1 lv).filter (fun q => !(q.1 == k) && !(q.1 + 1 == k && q.2.category == 2))) → W p l e R (s.setDrawn d) m args below meth c H locs cells slots Q (F0 m (pc + 2) ls' (st.map (toV E.2.2.1))) := fun ls' h => kk H locs ls' d a1 a2 a3 (by rw [lvm_keep1] at h; subst hl; exact h)
  change W _ _ _ _ _ _ _ _ _ _ _ _ _ _ _ (F0 m pc ls (rf E.2.2.1 r :: st.map (toV E.2.2.1)))
  rcases rf_or E.2.2.1 r with ⟨-, h⟩ | ⟨-, h⟩
  · rw [h] at h2 ⊢
    exact lv_astoreN X.1 X.2.1 hd a4 hn rfl h2
  · rw [h] at h2 ⊢
    exact lv_astore X.1 X.2.1 hd a4 hn rfl h2
theorem g_iinc (X : CX E p s m c cc nL own) {k : Nat} {z : Int} {x : Int32} (v : Int32) (hd : decode cc pc = .ok (.iinc k z, 3)) (j : Nat) (hj : lv[j]? = some (k, iV x)) (hv : x + Int32.ofInt z = v) (hn : k < nL) (hl : (k, iV v) :: keep1 k lv = lv') (kk : G E p l e R s m args below meth c nL n M cells slots Q (pc + 3) lv' st) : G E p l e R s m args below meth c nL n M cells slots Q pc lv st :=
  fun H locs ls d a1 a2 a3 a4 => lv_iinc (k := j) (lv := lvm E.2.2.1 lv) X.1 X.2.1 hd a4 (by unfold lvm; rw [List.getElem?_map, hj]; rfl) hv hn (by rw [lvm_keep1]; subst hl; rfl) (fun ls' a4' => kk H locs ls' d a1 a2 a3 a4')
end GR
end
section
/-! the rows of arithmetic, branches -/
section GA
variable {E : Gl} {p : Program} {l : Launch} {e : Env} {R : Room} {s : State} {m : MethodId} {args : Array Value} {below : List Frame} {meth : Method} {c : Code} {nL n : Nat} {M : Mem} {cells slots : Nat} {Q : State → Prop} {cc : ByteArray} {own : String} {pc : Nat} {lv lv' : List (Nat × AV)} {st : List AV}
theorem g_iadd (X : CX E p s m c cc nL own) {x y : Int32} (hd : decode cc pc = .ok (.iadd, 1)) (kk : G E p l e R s m args below meth c nL n M cells slots Q (pc + 1) lv (iV (x + y) :: st)) : G E p l e R s m args below meth c nL n M cells slots Q pc lv (iV y :: iV x :: st) :=
  fun H locs ls d a1 a2 a3 a4 => lv_iadd X.1 X.2.1 hd (kk H locs ls d a1 a2 a3 a4)
theorem g_isub (X : CX E p s m c cc nL own) {x y : Int32} (hd : decode cc pc = .ok (.isub, 1)) (kk : G E p l e R s m args below meth c nL n M cells slots Q (pc + 1) lv (iV (x - y) :: st)) : G E p l e R s m args below meth c nL n M cells slots Q pc lv (iV y :: iV x :: st) :=
  fun H locs ls d a1 a2 a3 a4 => lv_isub X.1 X.2.1 hd (kk H locs ls d a1 a2 a3 a4)
theorem g_imul (X : CX E p s m c cc nL own) {x y : Int32} (hd : decode cc pc = .ok (.imul, 1)) (kk : G E p l e R s m args below meth c nL n M cells slots Q (pc + 1) lv (iV (x * y) :: st)) : G E p l e R s m args below meth c nL n M cells slots Q pc lv (iV y :: iV x :: st) :=
  fun H locs ls d a1 a2 a3 a4 => lv_imul X.1 X.2.1 hd (kk H locs ls d a1 a2 a3 a4)
theorem g_iand (X : CX E p s m c cc nL own) {x y : Int32} (hd : decode cc pc = .ok (.iand, 1)) (kk : G E p l e R s m args below meth c nL n M cells slots Q (pc + 1) lv (iV (x &&& y) :: st)) : G E p l e R s m args below meth c nL n M cells slots Q pc lv (iV y :: iV x :: st) :=
  fun H locs ls d a1 a2 a3 a4 => lv_iand X.1 X.2.1 hd (kk H locs ls d a1 a2 a3 a4)
theorem g_ishl (X : CX E p s m c cc nL own) {x y : Int32} (hd : decode cc pc = .ok (.ishl, 1)) (kk : G E p l e R s m args below meth c nL n M cells slots Q (pc + 1) lv (iV (x <<< (y &&& 31)) :: st)) : G E p l e R s m args below meth c nL n M cells slots Q pc lv (iV y :: iV x :: st) :=
  fun H locs ls d a1 a2 a3 a4 => lv_ishl X.1 X.2.1 hd (kk H locs ls d a1 a2 a3 a4)
theorem g_irem {P : Prop} (X : CX E p s m c cc nL own) {x y : Int32} (hd : decode cc pc = .ok (.irem, 1)) (hw : ¬ y = 0 ∧ P) (kk : P → G E p l e R s m args below meth c nL n M cells slots Q (pc + 1) lv (iV (x - x / y * y) :: st)) : G E p l e R s m args below meth c nL n M cells slots Q pc lv (iV y :: iV x :: st) :=
  fun H locs ls d a1 a2 a3 a4 => lv_irem X.1 X.2.1 hd hw.1 (kk hw.2 H locs ls d a1 a2 a3 a4)
theorem g_ladd (X : CX E p s m c cc nL own) {x y : Int64} (hd : decode cc pc = .ok (.ladd, 1)) (kk : G E p l e R s m args below meth c nL n M cells slots Q (pc + 1) lv (lV (x + y) :: st)) : G E p l e R s m args below meth c nL n M cells slots Q pc lv (lV y :: lV x :: st) :=
  fun H locs ls d a1 a2 a3 a4 => lv_ladd X.1 X.2.1 hd (kk H locs ls d a1 a2 a3 a4)
theorem g_land (X : CX E p s m c cc nL own) {x y : Int64} (hd : decode cc pc = .ok (.land, 1)) (kk : G E p l e R s m args below meth c nL n M cells slots Q (pc + 1) lv (lV (x &&& y) :: st)) : G E p l e R s m args below meth c nL n M cells slots Q pc lv (lV y :: lV x :: st) :=
  fun H locs ls d a1 a2 a3 a4 => lv_land X.1 X.2.1 hd (kk H locs ls d a1 a2 a3 a4)
theorem g_lor (X : CX E p s m c cc nL own) {x y : Int64} (hd : decode cc pc = .ok (.lor, 1)) (kk : G E p l e R s m args below meth c nL n M cells slots Q (pc + 1) lv (lV (x ||| y) :: st)) : G E p l e R s m args below meth c nL n M cells slots Q pc lv (lV y :: lV x :: st) :=
  fun H locs ls d a1 a2 a3 a4 => lv_lor X.1 X.2.1 hd (kk H locs ls d a1 a2 a3 a4)
theorem g_lshl (X : CX E p s m c cc nL own) {x : Int64} {y : Int32} (hd : decode cc pc = .ok (.lshl, 1)) (kk : G E p l e R s m args below meth c nL n M cells slots Q (pc + 1) lv (lV (x <<< (y.toInt64 &&& 63)) :: st)) : G E p l e R s m args below meth c nL n M cells slots Q pc lv (iV y :: lV x :: st) :=
  fun H locs ls d a1 a2 a3 a4 => lv_lshl X.1 X.2.1 hd rfl (kk H locs ls d a1 a2 a3 a4)
theorem g_lushr (X : CX E p s m c cc nL own) {x : Int64} {y : Int32} (hd : decode cc pc = .ok (.lushr, 1)) (kk : G E p l e R s m args below meth c nL n M cells slots Q (pc + 1) lv (lV ((x.toUInt64 >>> (y.toInt64.toUInt64 &&& Int64.toUInt64 63)).toInt64) :: st)) : G E p l e R s m args below meth c nL n M cells slots Q pc lv (iV y :: lV x :: st) :=
  fun H locs ls d a1 a2 a3 a4 => lv_lushr X.1 X.2.1 hd rfl (kk H locs ls d a1 a2 a3 a4)
theorem g_lcmp (X : CX E p s m c cc nL own) {x y : Int64} (hd : decode cc pc = .ok (.lcmp, 1)) (kk : G E p l e R s m args below meth c nL n M cells slots Q (pc + 1) lv (iV (lg_cmp x y) :: st)) : G E p l e R s m args below meth c nL n M cells slots Q pc lv (lV y :: lV x :: st) :=
  fun H locs ls d a1 a2 a3 a4 => W.lcmp X.1 X.2.1 hd (kk H locs ls d a1 a2 a3 a4)
theorem g_i2l (X : CX E p s m c cc nL own) {x : Int32} (hd : decode cc pc = .ok (.i2l, 1)) (kk : G E p l e R s m args below meth c nL n M cells slots Q (pc + 1) lv (lV x.toInt64 :: st)) : G E p l e R s m args below meth c nL n M cells slots Q pc lv (iV x :: st) :=
  fun H locs ls d a1 a2 a3 a4 => lv_i2l X.1 X.2.1 hd rfl (kk H locs ls d a1 a2 a3 a4)
theorem g_l2i (X : CX E p s m c cc nL own) {x : Int64} (hd : decode cc pc = .ok (.l2i, 1)) (kk : G E p l e R s m args below meth c nL n M cells slots Q (pc + 1) lv (iV x.toInt32 :: st)) : G E p l e R s m args below meth c nL n M cells slots Q pc lv (lV x :: st) :=
  fun H locs ls d a1 a2 a3 a4 => lv_l2i X.1 X.2.1 hd rfl (kk H locs ls d a1 a2 a3 a4)
theorem g_i2c (X : CX E p s m c cc nL own) {x : Int32} (hd : decode cc pc = .ok (.i2c, 1)) (kk : G E p l e R s m args below meth c nL n M cells slots Q (pc + 1) lv (iV (x.toUInt32 % 65536).toInt32 :: st)) : G E p l e R s m args below meth c nL n M cells slots Q pc lv (iV x :: st) :=
  fun H locs ls d a1 a2 a3 a4 => lv_i2c X.1 X.2.1 hd rfl (kk H locs ls d a1 a2 a3 a4)
theorem g_i2d (X : CX E p s m c cc nL own) {x : Int32} (hd : decode cc pc = .ok (.i2d, 1)) (kk : G E p l e R s m args below meth c nL n M cells slots Q (pc + 1) lv (dV (FP.i2d x) :: st)) : G E p l e R s m args below meth c nL n M cells slots Q pc lv (iV x :: st) :=
  fun H locs ls d a1 a2 a3 a4 => lv_i2d X.1 X.2.1 hd (kk H locs ls d a1 a2 a3 a4)
theorem g_l2d (X : CX E p s m c cc nL own) {x : Int64} (hd : decode cc pc = .ok (.l2d, 1)) (kk : G E p l e R s m args below meth c nL n M cells slots Q (pc + 1) lv (dV (FP.l2d x) :: st)) : G E p l e R s m args below meth c nL n M cells slots Q pc lv (lV x :: st) :=
  fun H locs ls d a1 a2 a3 a4 => lv_l2d X.1 X.2.1 hd (kk H locs ls d a1 a2 a3 a4)
theorem g_d2i (X : CX E p s m c cc nL own) {x : UInt64} (hd : decode cc pc = .ok (.d2i, 1)) (kk : G E p l e R s m args below meth c nL n M cells slots Q (pc + 1) lv (iV (FP.d2i x) :: st)) : G E p l e R s m args below meth c nL n M cells slots Q pc lv (dV x :: st) :=
  fun H locs ls d a1 a2 a3 a4 => lv_d2i X.1 X.2.1 hd (kk H locs ls d a1 a2 a3 a4)
theorem g_f2d {P : Prop} (X : CX E p s m c cc nL own) {x : UInt32} (hd : decode cc pc = .ok (.f2d, 1)) (hw : vf_n64 (FP.f2d x) ∧ P) (kk : P → G E p l e R s m args below meth c nL n M cells slots Q (pc + 1) lv (dV (FP.f2d x) :: st)) : G E p l e R s m args below meth c nL n M cells slots Q pc lv (fV x :: st) :=
  fun H locs ls d a1 a2 a3 a4 => lv_f2d X.1 X.2.1 hd hw.1 (kk hw.2 H locs ls d a1 a2 a3 a4)
theorem g_d2f {P : Prop} (X : CX E p s m c cc nL own) {x : UInt64} (hd : decode cc pc = .ok (.d2f, 1)) (hw : vf_n32 (FP.d2f x) ∧ P) (kk : P → G E p l e R s m args below meth c nL n M cells slots Q (pc + 1) lv (fV (FP.d2f x) :: st)) : G E p l e R s m args below meth c nL n M cells slots Q pc lv (dV x :: st) :=
  fun H locs ls d a1 a2 a3 a4 => lv_d2f X.1 X.2.1 hd hw.1 (kk hw.2 H locs ls d a1 a2 a3 a4)
theorem g_dmul {P : Prop} (X : CX E p s m c cc nL own) {x y : UInt64} (hd : decode cc pc = .ok (.dmul, 1)) (hw : vf_n64 (FP.dmul x y) ∧ P) (kk : P → G E p l e R s m args below meth c nL n M cells slots Q (pc + 1) lv (dV (FP.dmul x y) :: st)) : G E p l e R s m args below meth c nL n M cells slots Q pc lv (dV y :: dV x :: st) :=
  fun H locs ls d a1 a2 a3 a4 => lv_dmul X.1 X.2.1 hd hw.1 (kk hw.2 H locs ls d a1 a2 a3 a4)
theorem g_dsub {P : Prop} (X : CX E p s m c cc nL own) {x y : UInt64} (hd : decode cc pc = .ok (.dsub, 1)) (hw : vf_n64 (FP.dsub x y) ∧ P) (kk : P → G E p l e R s m args below meth c nL n M cells slots Q (pc + 1) lv (dV (FP.dsub x y) :: st)) : G E p l e R s m args below meth c nL n M cells slots Q pc lv (dV y :: dV x :: st) :=
  fun H locs ls d a1 a2 a3 a4 => lv_dsub X.1 X.2.1 hd hw.1 (kk hw.2 H locs ls d a1 a2 a3 a4)
theorem g_ddiv {P : Prop} (X : CX E p s m c cc nL own) {x y : UInt64} (hd : decode cc pc = .ok (.ddiv, 1)) (hw : vf_n64 (FP.ddiv x y) ∧ P) (kk : P → G E p l e R s m args below meth c nL n M cells slots Q (pc + 1) lv (dV (FP.ddiv x y) :: st)) : G E p l e R s m args below meth c nL n M cells slots Q pc lv (dV y :: dV x :: st) :=
  fun H locs ls d a1 a2 a3 a4 => lv_ddiv X.1 X.2.1 hd hw.1 (kk hw.2 H locs ls d a1 a2 a3 a4)
/-- the quotient that is a NaN: any of them -/
theorem g_ddivN {P : UInt64 → Prop} (X : CX E p s m c cc nL own) {x y : UInt64} (hd : decode cc pc = .ok (.ddiv, 1)) (hw : ∀ r : UInt64, alike64 r (FP.ddiv x y) = true → P r) (kk : ∀ r : UInt64, P r → G E p l e R s m args below meth c nL n M cells slots Q (pc + 1) lv (dV r :: st)) : G E p l e R s m args below meth c nL n M cells slots Q pc lv (dV y :: dV x :: st) :=
  fun H locs ls d a1 a2 a3 a4 => lv_ddiv_any a1 lw_bits X.1 X.2.1 hd (fun r d' hal hd' => kk r (hw r hal) H locs ls d' hd' a2 a3 a4)
theorem g_dcmp (X : CX E p s m c cc nL own) {x y : UInt64} {op : CmpOp} (hd : decode cc pc = .ok (.dcmp op, 1)) (kk : G E p l e R s m args below meth c nL n M cells slots Q (pc + 1) lv (iV (Op.cmpValue (FP.dcmp x y) op) :: st)) : G E p l e R s m args below meth c nL n M cells slots Q pc lv (dV y :: dV x :: st) :=
  fun H locs ls d a1 a2 a3 a4 => lv_dcmp X.1 X.2.1 hd (kk H locs ls d a1 a2 a3 a4)
theorem g_fcmp (X : CX E p s m c cc nL own) {x y : UInt32} {op : CmpOp} (hd : decode cc pc = .ok (.fcmp op, 1)) (kk : G E p l e R s m args below meth c nL n M cells slots Q (pc + 1) lv (iV (Op.cmpValue (FP.fcmp x y) op) :: st)) : G E p l e R s m args below meth c nL n M cells slots Q pc lv (fV y :: fV x :: st) :=
  fun H locs ls d a1 a2 a3 a4 => lv_fcmp X.1 X.2.1 hd (kk H locs ls d a1 a2 a3 a4)
theorem g_dup (X : CX E p s m c cc nL own) {a : AV} (hd : decode cc pc = .ok (.dup, 1)) (hc : catA a = 1) (kk : G E p l e R s m args below meth c nL n M cells slots Q (pc + 1) lv (a :: a :: st)) : G E p l e R s m args below meth c nL n M cells slots Q pc lv (a :: st) :=
  fun H locs ls d a1 a2 a3 a4 => lv_dup X.1 X.2.1 hd (by rw [toV_cat]; exact hc) (kk H locs ls d a1 a2 a3 a4)
theorem g_dup2 (X : CX E p s m c cc nL own) {a b : AV} (hd : decode cc pc = .ok (.dup2, 1)) (hc : catA a = 1) (hc2 : catA b = 1) (kk : G E p l e R s m args below meth c nL n M cells slots Q (pc + 1) lv (a :: b :: a :: b :: st)) : G E p l e R s m args below meth c nL n M cells slots Q pc lv (a :: b :: st) :=
  fun H locs ls d a1 a2 a3 a4 => lv_dup2_11 X.1 X.2.1 hd (by rw [toV_cat]; exact hc) (by rw [toV_cat]; exact hc2) (kk H locs ls d a1 a2 a3 a4)
theorem g_pop (X : CX E p s m c cc nL own) {a : AV} (hd : decode cc pc = .ok (.pop, 1)) (hc : catA a = 1) (kk : G E p l e R s m args below meth c nL n M cells slots Q (pc + 1) lv st) : G E p l e R s m args below meth c nL n M cells slots Q pc lv (a :: st) :=
  fun H locs ls d a1 a2 a3 a4 => lv_pop X.1 X.2.1 hd (by rw [toV_cat]; exact hc) (kk H locs ls d a1 a2 a3 a4)
theorem g_goto (X : CX E p s m c cc nL own) {off : Int} (tgt : Nat) (hd : decode cc pc = .ok (.goto off, 3)) (ht : (pc : Int) + off = (tgt : Int)) (kk : G E p l e R s m args below meth c nL n M cells slots Q tgt lv st) : G E p l e R s m args below meth c nL n M cells slots Q pc lv st :=
  fun H locs ls d a1 a2 a3 a4 => lv_goto X.1 X.2.1 hd ht (kk H locs ls d a1 a2 a3 a4)
theorem g_if_eq {A B : Prop} (X : CX E p s m c cc nL own) {x : Int32} {off : Int} (tgt : Nat) (hd : decode cc pc = .ok (.ifCond .eq off, 3)) (ht : (pc : Int) + off = (tgt : Int)) (hw : (x = 0 → A) ∧ (¬ x = 0 → B)) (kt : A → G E p l e R s m args below meth c nL n M cells slots Q tgt lv st) (kf : B → G E p l e R s m args below meth c nL n M cells slots Q (pc + 3) lv st) : G E p l e R s m args below meth c nL n M cells slots Q pc lv (iV x :: st) :=
  fun H locs ls d a1 a2 a3 a4 => lv_if_eq X.1 X.2.1 hd ht (fun h => kt (hw.1 h) H locs ls d a1 a2 a3 a4) (fun h => kf (hw.2 h) H locs ls d a1 a2 a3 a4)
theorem g_if_ne {A B : Prop} (X : CX E p s m c cc nL own) {x : Int32} {off : Int} (tgt : Nat) (hd : decode cc pc = .ok (.ifCond .ne off, 3)) (ht : (pc : Int) + off = (tgt : Int)) (hw : (¬ x = 0 → A) ∧ (x = 0 → B)) (kt : A → G E p l e R s m args below meth c nL n M cells slots Q tgt lv st) (kf : B → G E p l e R s m args below meth c nL n M cells slots Q (pc + 3) lv st) : G E p l e R s m args below meth c nL n M cells slots Q pc lv (iV x :: st) :=
  fun H locs ls d a1 a2 a3 a4 => lv_if_ne X.1 X.2.1 hd ht (fun h => kt (hw.1 h) H locs ls d a1 a2 a3 a4) (fun h => kf (hw.2 h) H locs ls d a1 a2 a3 a4)
theorem g_if_lt {A B : Prop} (X : CX E p s m c cc nL own) {x : Int32} {off : Int} (tgt : Nat) (hd : decode cc pc = .ok (.ifCond .lt off, 3)) (ht : (pc : Int) + off = (tgt : Int)) (hw : (x < 0 → A) ∧ (¬ x < 0 → B)) (kt : A → G E p l e R s m args below meth c nL n M cells slots Q tgt lv st) (kf : B → G E p l e R s m args below meth c nL n M cells slots Q (pc + 3) lv st) : G E p l e R s m args below meth c nL n M cells slots Q pc lv (iV x :: st) :=
  fun H locs ls d a1 a2 a3 a4 => lv_if_lt X.1 X.2.1 hd ht (fun h => kt (hw.1 h) H locs ls d a1 a2 a3 a4) (fun h => kf (hw.2 h) H locs ls d a1 a2 a3 a4)
theorem g_if_ge {A B : Prop} (X : CX E p s m c cc nL own) {x : Int32} {off : Int} (tgt : Nat) (hd : decode cc pc = .ok (.ifCond .ge off, 3)) (ht : (pc : Int) + off = (tgt : Int)) (hw : (0 ≤ x → A) ∧ (¬ 0 ≤ x → B)) (kt : A → G E p l e R s m args below meth c nL n M cells slots Q tgt lv st) (kf : B → G E p l e R s m args below meth c nL n M cells slots Q (pc + 3) lv st) : G E p l e R s m args below meth c nL n M cells slots Q pc lv (iV x :: st) :=
  fun H locs ls d a1 a2 a3 a4 => lv_if_ge X.1 X.2.1 hd ht (fun h => kt (hw.1 h) H locs ls d a1 a2 a3 a4) (fun h => kf (hw.2 h) H locs ls d a1 a2 a3 a4)
theorem g_if_gt {A B : Prop} (X : CX E p s m c cc nL own) {x : Int32} {off : Int} (tgt : Nat) (hd : decode cc pc = .ok (.ifCond .gt off, 3)) (ht : (pc : Int) + off = (tgt : Int)) (hw : (0 < x → A) ∧ (¬ 0 < x → B)) (kt : A → G E p l e R s m args below meth c nL n M cells slots Q tgt lv st) (kf : B → G E p l e R s m args below meth c nL n M cells slots Q (pc + 3) lv st) : G E p l e R s m args below meth c nL n M cells slots Q pc lv (iV x :: st) :=
  fun H locs ls d a1 a2 a3 a4 => lv_if_gt X.1 X.2.1 hd ht (fun h => kt (hw.1 h) H locs ls d a1 a2 a3 a4) (fun h => kf (hw.2 h) H locs ls d a1 a2 a3 a4)
theorem g_if_le {A B : Prop} (X : CX E p s m c cc nL own) {x : Int32} {off : Int} (tgt : Nat) (hd : decode cc pc = .ok (.ifCond .le off, 3)) (ht : (pc : Int) + off = (tgt : Int)) (hw : (x ≤ 0 → A) ∧ (¬ x ≤ 0 → B)) (kt : A → G E p l e R s m args below meth c nL n M cells slots Q tgt lv st) (kf : B → G E p l e R s m args below meth c nL n M cells slots Q (pc + 3) lv st) : G E p l e R s m args below meth c nL n M cells slots Q pc lv (iV x :: st) :=
  fun H locs ls d a1 a2 a3 a4 => lv_if_le X.1 X.2.1 hd ht (fun h => kt (hw.1 h) H locs ls d a1 a2 a3 a4) (fun h => kf (hw.2 h) H locs ls d a1 a2 a3 a4)
theorem g_icmp_eq {A B : Prop} (X : CX E p s m c cc nL own) {x y : Int32} {off : Int} (tgt : Nat) (hd : decode cc pc = .ok (.if_icmp .eq off, 3)) (ht : (pc : Int) + off = (tgt : Int)) (hw : (x = y → A) ∧ (¬ x = y → B)) (kt : A → G E p l e R s m args below meth c nL n M cells slots Q tgt lv st) (kf : B → G E p l e R s m args below meth c nL n M cells slots Q (pc + 3) lv st) : G E p l e R s m args below meth c nL n M cells slots Q pc lv (iV y :: iV x :: st) :=
  fun H locs ls d a1 a2 a3 a4 => lv_icmp_eq X.1 X.2.1 hd ht (fun h => kt (hw.1 h) H locs ls d a1 a2 a3 a4) (fun h => kf (hw.2 h) H locs ls d a1 a2 a3 a4)
theorem g_icmp_ne {A B : Prop} (X : CX E p s m c cc nL own) {x y : Int32} {off : Int} (tgt : Nat) (hd : decode cc pc = .ok (.if_icmp .ne off, 3)) (ht : (pc : Int) + off = (tgt : Int)) (hw : (¬ x = y → A) ∧ (x = y → B)) (kt : A → G E p l e R s m args below meth c nL n M cells slots Q tgt lv st) (kf : B → G E p l e R s m args below meth c nL n M cells slots Q (pc + 3) lv st) : G E p l e R s m args below meth c nL n M cells slots Q pc lv (iV y :: iV x :: st) :=
  fun H locs ls d a1 a2 a3 a4 => lv_icmp_ne X.1 X.2.1 hd ht (fun h => kt (hw.1 h) H locs ls d a1 a2 a3 a4) (fun h => kf (hw.2 h) H locs ls d a1 a2 a3 a4)
theorem g_icmp_lt {A B : Prop} (X : CX E p s m c cc nL own) {x y : Int32} {off : Int} (tgt : Nat) (hd : decode cc pc = .ok (.if_icmp .lt off, 3)) (ht : (pc : Int) + off = (tgt : Int)) (hw : (x < y → A) ∧ (¬ x < y → B)) (kt : A → G E p l e R s m args below meth c nL n M cells slots Q tgt lv st) (kf : B → G E p l e R s m args below meth c nL n M cells slots Q (pc + 3) lv st) : G E p l e R s m args below meth c nL n M cells slots Q pc lv (iV y :: iV x :: st) :=
  fun H locs ls d a1 a2 a3 a4 => lv_icmp_lt X.1 X.2.1 hd ht (fun h => kt (hw.1 h) H locs ls d a1 a2 a3 a4) (fun h => kf (hw.2 h) H locs ls d a1 a2 a3 a4)
theorem g_icmp_ge {A B : Prop} (X : CX E p s m c cc nL own) {x y : Int32} {off : Int} (tgt : Nat) (hd : decode cc pc = .ok (.if_icmp .ge off, 3)) (ht : (pc : Int) + off = (tgt : Int)) (hw : (y ≤ x → A) ∧ (¬ y ≤ x → B)) (kt : A → G E p l e R s m args below meth c nL n M cells slots Q tgt lv st) (kf : B → G E p l e R s m args below meth c nL n M cells slots Q (pc + 3) lv st) : G E p l e R s m args below meth c nL n M cells slots Q pc lv (iV y :: iV x :: st) :=
  fun H locs ls d a1 a2 a3 a4 => lv_icmp_ge X.1 X.2.1 hd ht (fun h => kt (hw.1 h) H locs ls d a1 a2 a3 a4) (fun h => kf (hw.2 h) H locs ls d a1 a2 a3 a4)
theorem g_icmp_gt {A B : Prop} (X : CX E p s m c cc nL own) {x y : Int32} {off : Int} (tgt : Nat) (hd : decode cc pc = .ok (.if_icmp .gt off, 3)) (ht : (pc : Int) + off = (tgt : Int)) (hw : (y < x → A) ∧ (¬ y < x → B)) (kt : A → G E p l e R s m args below meth c nL n M cells slots Q tgt lv st) (kf : B → G E p l e R s m args below meth c nL n M cells slots Q (pc + 3) lv st) : G E p l e R s m args below meth c nL n M cells slots Q pc lv (iV y :: iV x :: st) :=
  fun H locs ls d a1 a2 a3 a4 => lv_icmp_gt X.1 X.2.1 hd ht (fun h => kt (hw.1 h) H locs ls d a1 a2 a3 a4) (fun h => kf (hw.2 h) H locs ls d a1 a2 a3 a4)
theorem g_icmp_le {A B : Prop} (X : CX E p s m c cc nL own) {x y : Int32} {off : Int} (tgt : Nat) (hd : decode cc pc = .ok (.if_icmp .le off, 3)) (ht : (pc : Int) + off = (tgt : Int)) (hw : (x ≤ y → A) ∧ (¬ x ≤ y → B)) (kt : A → G E p l e R s m args below meth c nL n M cells slots Q tgt lv st) (kf : B → G E p l e R s m args below meth c nL n M cells slots Q (pc + 3) lv st) : G E p l e R s m args below meth c nL n M cells slots Q pc lv (iV y :: iV x :: st) :=
  fun H locs ls d a1 a2 a3 a4 => lv_icmp_le X.1 X.2.1 hd ht (fun h => kt (hw.1 h) H locs ls d a1 a2 a3 a4) (fun h => kf (hw.2 h) H locs ls d a1 a2 a3 a4)
theorem g_ifnull {A B : Prop} (X : CX E p s m c cc nL own) {r : Nat} {off : Int} (tgt : Nat) (hd : decode cc pc = .ok (.ifnull off, 3)) (ht : (pc : Int) + off = (tgt : Int)) (hw : (r = 0 → A) ∧ (¬ r = 0 → B)) (kt : A → G E p l e R s m args below meth c nL n M cells slots Q tgt lv st) (kf : B → G E p l e R s m args below meth c nL n M cells slots Q (pc + 3) lv st) : G E p l e R s m args below meth c nL n M cells slots Q pc lv (rV r :: st) := by
  intro H locs ls d a1 a2 a3 a4
  change W _ _ _ _ _ _ _ _ _ _ _ _ _ _ _ (F0 m pc ls (rf E.2.2.1 r :: st.map (toV E.2.2.1)))
  rcases rf_or E.2.2.1 r with ⟨h, h'⟩ | ⟨h, h'⟩
  · rw [h']; exact lv_ifnullN X.1 X.2.1 hd ht (kt (hw.1 h) H locs ls d a1 a2 a3 a4)
  · rw [h']; exact lv_ifnull X.1 X.2.1 hd (kf (hw.2 h) H locs ls d a1 a2 a3 a4)
theorem g_ifnonnull {A B : Prop} (X : CX E p s m c cc nL own) {r : Nat} {off : Int} (tgt : Nat) (hd : decode cc pc = .ok (.ifnonnull off, 3)) (ht : (pc : Int) + off = (tgt : Int)) (hw : (¬ r = 0 → A) ∧ (r = 0 → B)) (kt : A → G E p l e R s m args below meth c nL n M cells slots Q tgt lv st) (kf : B → G E p l e R s m args below meth c nL n M cells slots Q (pc + 3) lv st) : G E p l e R s m args below meth c nL n M cells slots Q pc lv (rV r :: st) := by
  intro H locs ls d a1 a2 a3 a4
  change W _ _ _ _ _ _ _ _ _ _ _ _ _ _ _ (F0 m pc ls (rf E.2.2.1 r :: st.map (toV E.2.2.1)))
  rcases rf_or E.2.2.1 r with ⟨h, h'⟩ | ⟨h, h'⟩
  · rw [h']; exact lv_ifnonnullN X.1 X.2.1 hd (kf (hw.2 h) H locs ls d a1 a2 a3 a4)
  · rw [h']; exact lv_ifnonnull X.1 X.2.1 hd ht (kt (hw.1 h) H locs ls d a1 a2 a3 a4)
theorem rf_va (b r : Nat) : rf b r = va_rf (if r = 0 then none else some (b + r)) := by
  unfold rf
  split <;> rfl
theorem g_acmp_eq {A B : Prop} (X : CX E p s m c cc nL own) {x y : Nat} {off : Int} (tgt : Nat) (hd : decode cc pc = .ok (.if_acmp .eq off, 3)) (ht : (pc : Int) + off = (tgt : Int)) (hw : (x = y → A) ∧ (¬ x = y → B)) (kt : A → G E p l e R s m args below meth c nL n M cells slots Q tgt lv st) (kf : B → G E p l e R s m args below meth c nL n M cells slots Q (pc + 3) lv st) : G E p l e R s m args below meth c nL n M cells slots Q pc lv (rV y :: rV x :: st) := by
  intro H locs ls d a1 a2 a3 a4
  change W _ _ _ _ _ _ _ _ _ _ _ _ _ _ _ (F0 m pc ls (rf E.2.2.1 y :: rf E.2.2.1 x :: st.map (toV E.2.2.1)))
  rw [rf_va, rf_va]
  refine lv_acmp_eq X.1 X.2.1 hd ht (fun h => kt (hw.1 ?_) H locs ls d a1 a2 a3 a4) (fun h => kf (hw.2 ?_) H locs ls d a1 a2 a3 a4)
  · split at h <;> split at h <;> simp at h <;> omega
  · intro q
    exact h (by rw [q])
/-- a switch by a table: its row in range, or out of it -/
theorem g_swIn (X : CX E p s m c cc nL own) {dflt lo hi : Int} {offs : Array Int} {len : Nat} {x : Int32} {off : Int} (tgt : Nat) (hd : decode cc pc = .ok (.tableswitch dflt lo hi offs, len)) (h1 : ¬ x.toInt < lo) (h2 : ¬ hi < x.toInt) (ho : offs[(x.toInt - lo).toNat]? = some off) (ht : (pc : Int) + off = (tgt : Int)) (kk : G E p l e R s m args below meth c nL n M cells slots Q tgt lv st) : G E p l e R s m args below meth c nL n M cells slots Q pc lv (iV x :: st) :=
  fun H locs ls d a1 a2 a3 a4 => lv_tableIn X.1 X.2.1 hd h1 h2 ho ht (kk H locs ls d a1 a2 a3 a4)
theorem g_swOut (X : CX E p s m c cc nL own) {dflt lo hi : Int} {offs : Array Int} {len : Nat} {x : Int32} (tgt : Nat) (hd : decode cc pc = .ok (.tableswitch dflt lo hi offs, len)) (h : x.toInt < lo ∨ hi < x.toInt) (ht : (pc : Int) + dflt = (tgt : Int)) (kk : G E p l e R s m args below meth c nL n M cells slots Q tgt lv st) : G E p l e R s m args below meth c nL n M cells slots Q pc lv (iV x :: st) :=
  fun H locs ls d a1 a2 a3 a4 => lv_tableOut X.1 X.2.1 hd h ht (kk H locs ls d a1 a2 a3 a4)
theorem sw_ne {x v : Int32} {k : Int} (hk : v.toInt = k) (h : ¬ x = v) : x.toInt ≠ k := fun q => h (Int32.toInt_inj.mp (q.trans hk.symm))
end GA
end
section
/-! the rows of the heap -/
theorem kd0 {n r ci : Nat} (hci : ci < 13) (h : kd r = (ci, n)) : r ≠ 0 := by
  rintro rfl
  rw [show kd 0 = (99, 0) from rfl] at h
  cases h
  omega
theorem kd0' {r : Nat} (h : (kd r).1 < 13) : r ≠ 0 := by
  rintro rfl
  rw [show kd 0 = (99, 0) from rfl] at h
  exact absurd h (by decide)
/-- a field's place in the tables -/
def FL (own : String) (ix ci k : Nat) : Prop := ci < 7 ∧ k < fN ci ∧ (fT ci k).1 = fC ci ∧ Cond.fieldLink own ix (fC ci) (fT ci k).2.1 (fT ci k).2.2.1 ∈ lwG
/-- M2 is M but at the cell r -/
def MU (M M2 : Mem) (r : Nat) : Prop := ∀ (b q : Nat), q ≠ r → (∀ ty j, fv b M2 ty q j = fv b M ty q j) ∧ ∀ k j, av b M2 k q j = av b M k q j
theorem cellAt_MU {E : Gl} {M M2 : Mem} {r q : Nat} {H H2 : Heap} (h : MU M M2 r) (hq : q ≠ r) (hH : H2[E.2.2.1 + q]? = H[E.2.2.1 + q]?) (hc : cellAt E M q H) : cellAt E M2 q H2 := by
  obtain ⟨h1, h2⟩ := h E.2.2.1 q hq
  unfold cellAt at hc ⊢
  by_cases hk : (kd q).1 < 7
  · rw [if_pos hk] at hc ⊢
    exact (hc.kept hH).to (fun k _ => (h1 _ k).symm)
  · rw [if_neg hk] at hc ⊢
    rw [hH, hc]
    congr 2
    funext j
    exact (h2 _ j).symm
theorem MU_sI (M : Mem) (r k : Nat) (v : Int32) : MU M (sI M r k v) r := by
  intro b q hq
  refine ⟨fun ty j => ?_, fun k2 j => ?_⟩
  · cases ty <;> simp [fv, gI, gD, gL, gR, sI, hq]
  · simp [av, gI, gD, gR, sI, hq]
theorem MU_sD (M : Mem) (r k : Nat) (v : UInt64) : MU M (sD M r k v) r := by
  intro b q hq
  refine ⟨fun ty j => ?_, fun k2 j => ?_⟩
  · cases ty <;> simp [fv, gI, gD, gL, gR, sD, hq]
  · simp [av, gI, gD, gR, sD, hq]
theorem MU_sL (M : Mem) (r k : Nat) (v : Int64) : MU M (sL M r k v) r := by
  intro b q hq
  refine ⟨fun ty j => ?_, fun k2 j => ?_⟩
  · cases ty <;> simp [fv, gI, gD, gL, gR, sL, hq]
  · simp [av, gI, gD, gR, sL]
theorem MU_sR (M : Mem) (r k : Nat) (v : Nat) : MU M (sR M r k v) r := by
  intro b q hq
  refine ⟨fun ty j => ?_, fun k2 j => ?_⟩
  · cases ty <;> simp [fv, gI, gD, gL, gR, sR, hq]
  · simp [av, gI, gD, gR, sR, hq]
theorem MU_zr (M : Mem) (r : Nat) : MU M (zr M r) r := by
  intro b q hq
  refine ⟨fun ty j => ?_, fun k2 j => ?_⟩
  · cases ty <;> simp [fv, gI, gD, gL, gR, zr, hq]
  · simp [av, gI, gD, gR, zr, hq]
theorem Rep_upd {E : Gl} {n r : Nat} {M M2 : Mem} {H H2 : Heap} (hR : Rep E n M H) (h0 : r ≠ 0) (hU : MU M M2 r) (z : H2.size = H.size) (o : ∀ q, q ≠ E.2.2.1 + r → H2[q]? = H[q]?) (hc : cellAt E M2 r H2) : Rep E n M2 H2 := by
  obtain ⟨h1, h2, h3⟩ := hR
  refine ⟨z.trans h1, fun q hq => (o q (by omega)).trans (h2 q hq), fun q q1 q2 => ?_⟩
  by_cases hqr : q = r
  · rw [hqr]; exact hc
  · exact cellAt_MU hU hqr (o _ (by omega)) (h3 q q1 q2)
section GH
variable {E : Gl} {p : Program} {l : Launch} {e : Env} {R : Room} {s : State} {m : MethodId} {args : Array Value} {below : List Frame} {meth : Method} {c : Code} {nL n : Nat} {M M2 : Mem} {cells slots : Nat} {Q : State → Prop} {cc : ByteArray} {own : String} {pc : Nat} {lv lv' : List (Nat × AV)} {st : List AV}
theorem CX.t (X : CX E p s m c cc nL own) (a : Array Value) : ∀ w ∈ lwG, w.before a s = true := fun w h => X.2.2.2.2.2.1 w h a
theorem CX.dr (X : CX E p s m c cc nL own) (d : Drawn) : CX E p (s.setDrawn d) m c cc nL own := ⟨X.1, X.2.1, X.2.2.1, X.2.2.2.1, KK.moved (s := s) (U := s.setDrawn d) (State.WarmedH.refl s) X.2.2.2.2⟩
theorem CX.w0 (X : CX E p s m c cc nL own) {w : Cond} (h : w ∈ lwG) (a : Array Value) : w.before a s = true := X.2.2.2.2.2.1 w h a
set_option maxHeartbeats 200000 in
theorem g_get {P : Prop} (X : CX E p s m c cc nL own) {ix ci k r : Nat} (a : AV) (hd : decode cc pc = .ok (.getfield ix, 3)) (hf : FL own ix ci k) (ha : ∀ b, fv b M (tyF ci k) r k = toV b a) (hw : (r ≤ n ∧ kd r = (ci, 0)) ∧ P) (kk : P → G E p l e R s m args below meth c nL n M cells slots Q (pc + 3) lv (a :: st)) : G E p l e R s m args below meth c nL n M cells slots Q pc lv (rV r :: st) := by
  intro H locs ls d a1 a2 a3 a4
  have X := X.dr d
  obtain ⟨⟨hn, hk⟩, hP⟩ := hw
  have h0 : r ≠ 0 := kd0 (by have := hf.1; omega) hk
  have hc := a2.2.2 r (by omega) hn
  unfold cellAt at hc
  rw [hk] at hc
  rw [if_pos hf.1] at hc
  obtain ⟨cell, q1, q2, q3, q4⟩ := hc
  change W _ _ _ _ _ _ _ _ _ _ _ _ _ _ _ (F0 m pc ls (rf E.2.2.1 r :: st.map (toV E.2.2.1)))
  rw [rf_pos h0]
  obtain ⟨hS, hfc, kC, hkC, hkind⟩ := X.2.2.2.2.1.1 ci _ (cl_at hf.1)
  obtain ⟨cf, kf, fi, f, hi, hsl⟩ := hS k hf.2.1
  have hi' : (s.setDrawn d).fieldFound? (fC ci) (fT ci k).2.1 (fT ci k).2.2.1 = some (cf, kf, fi, f) := by rw [← hf.2.2.1]; exact hi
  refine W.getf (v := toV E.2.2.1 a) X.1 X.2.1 X.2.2.2.1 (X.w0 hf.2.2.2 args) hi' (u_facts hfc hkC (u_lays (X.t args) (cl_in hf.1) hf.2.1) hi).1 q1 (by rw [q3]; exact fun h => by cases h) ?_ rfl rfl hd (kk hP H locs ls d a1 a2 a3 a4)
  rw [hsl, q4 k hf.2.1, ← ha]
set_option maxHeartbeats 200000 in
/-- the core of putfield -/
theorem g_put0 (X : CX E p s m c cc nL own) {ix ci k r : Nat} (a : AV) (hd : decode cc pc = .ok (.putfield ix, 3)) (hf : FL own ix ci k) (hr : r ≤ n ∧ kd r = (ci, 0)) (hfin : (fT ci k).2.2.2 = false ∨ ((fT ci k).2.2.2 = true ∧ meth.name = "<init>" ∧ fC ci = own)) (hn : ∀ b, narrow (tyF ci k) (toV b a) = toV b a) (hfit : ∀ b, fits (tyF ci k) (toV b a) = true) (hU : MU M M2 r) (hv : ∀ b j, fv b M2 (tyF ci j) r j = if j = k then toV b a else fv b M (tyF ci j) r j) (kk : G E p l e R s m args below meth c nL n M2 cells slots Q (pc + 3) lv st) : G E p l e R s m args below meth c nL n M cells slots Q pc lv (a :: rV r :: st) := by
  intro H locs ls d a1 a2 a3 a4
  have X := X.dr d
  obtain ⟨hle, hk⟩ := hr
  have h0 : r ≠ 0 := kd0 (by have := hf.1; omega) hk
  have hc := a2.2.2 r (by omega) hle
  unfold cellAt at hc
  rw [hk] at hc
  rw [if_pos hf.1] at hc
  obtain ⟨cell, q1, q2, q3, q4⟩ := hc
  change W _ _ _ _ _ _ _ _ _ _ _ _ _ _ _ (F0 m pc ls (toV E.2.2.1 a :: rf E.2.2.1 r :: st.map (toV E.2.2.1)))
  rw [rf_pos h0]
  have hcl := cl_at hf.1
  have hap := va_apart (own := own) (X.t args) (cl_in hf.1) (tyF ci) (cl_ty hf.1) (cl_nm hf.1) X.2.2.2.2.1 hcl
  obtain ⟨hS, hfc, kC, hkC, hkind⟩ := X.2.2.2.2.1.1 ci _ hcl
  obtain ⟨cf, kf, fi, f, hi, hsl⟩ := hS k hf.2.1
  have hi' : (s.setDrawn d).fieldFound? (fC ci) (fT ci k).2.1 (fT ci k).2.2.1 = some (cf, kf, fi, f) := by rw [← hf.2.2.1]; exact hi
  have hst := (u_facts hfc hkC (u_lays (X.t args) (cl_in hf.1) hf.2.1) hi).1
  have hlay := X.t args _ (cl_in hf.1 _ (u_in_lay hf.2.1))
  have done : ∀ H' : Heap, H'[E.2.2.1 + r]? = some (cell.setSlot f.slot (toV E.2.2.1 a)) → H'.size = H.size → (∀ q, q ≠ E.2.2.1 + r → H'[q]? = H[q]?) → W p l e R (s.setDrawn d) m args below meth c H' (locs ++ [⟨E.2.2.1 + r, f.slot⟩]) cells slots Q (F0 m (pc + 3) ls (st.map (toV E.2.2.1))) := by
    intro H' e1 e2 e3
    refine kk H' _ ls d a1 (Rep_upd a2 h0 hU e2 e3 ?_) (fun q hq => ?_) a4
    · unfold cellAt
      rw [hk, if_pos hf.1]
      rw [hsl] at e1
      exact t_OB.to (V := updV (fun j => fv E.2.2.1 M (tyF ci j) r j) k (toV E.2.2.1 a)) ⟨_, e1, q2, q3, t_set q4 hap hf.2.1 (toV E.2.2.1 a)⟩ (fun j _ => by rw [hv]; rfl)
    · rcases List.mem_append.mp hq with h | h
      · exact a3 q h
      · rw [List.mem_singleton.mp h]
        show E.2.2.1 < E.2.2.1 + r
        omega
  rcases hfin with hfin | ⟨hfin, hin2, hdecl⟩
  · unfold u_lay at hlay
    rw [if_neg (by rw [hfin]; decide)] at hlay
    have h6 := u_store hfc hkC hkind hlay hi (cl_ty hf.1 k hf.2.1) (hn E.2.2.1) (hfit E.2.2.1)
    exact W.putK X.1 X.2.1 (f := f) ⟨X.2.2.2.1, X.w0 hf.2.2.2 args, ⟨_, _, _, hi'⟩, hst⟩ (by rw [q2]; exact h6) q1 q3 (by rw [hsl]; exact k2_hasslot (q4 k hf.2.1)) rfl rfl hd done
  · unfold u_lay at hlay
    rw [if_pos hfin] at hlay
    have hcf : m.cls = cf := by
      obtain ⟨_, _, c', _, _, _, -, -, hf', -, -, -, hown2, -⟩ := Cond.laysFinal_spec hlay
      have e1 : c' = cf := by have := hi.symm.trans hf'; simp at this; exact this.1.symm
      rw [hf.2.2.1, hdecl] at hown2
      rw [← e1]; exact Option.some.inj (X.2.2.2.1.symm.trans hown2)
    have h6 := u_fits hfc hkC hkind (Or.inr hlay) hi (cl_ty hf.1 k hf.2.1) (hn E.2.2.1) (hfit E.2.2.1)
    exact W.putFinK X.1 X.2.1 X.2.2.2.1 (X.w0 hf.2.2.2 args) hi' hst hcf hin2 (by rw [q2]; exact h6) q1 q3 (by rw [hsl]; exact k2_hasslot (q4 k hf.2.1)) rfl rfl hd done
set_option maxHeartbeats 200000 in
theorem g_putI {P : Prop} (X : CX E p s m c cc nL own) {ix ci k r : Nat} {v : Int32} (hd : decode cc pc = .ok (.putfield ix, 3)) (hf : FL own ix ci k) (ht : tyF ci k = .int) (hfin : (fT ci k).2.2.2 = false ∨ ((fT ci k).2.2.2 = true ∧ meth.name = "<init>" ∧ fC ci = own)) (hw : (r ≤ n ∧ kd r = (ci, 0)) ∧ P) (kk : P → G E p l e R s m args below meth c nL n (sI M r k v) cells slots Q (pc + 3) lv st) : G E p l e R s m args below meth c nL n M cells slots Q pc lv (iV v :: rV r :: st) := by
  refine g_put0 X (iV v) hd hf hw.1 hfin (fun b => by rw [ht]; rfl) (fun b => by rw [ht]; rfl) (MU_sI M r k v) (fun b j => ?_) (kk hw.2)
  by_cases hj : j = k
  · subst hj; rw [ht]; simp [fv, gI, sI, toV]
  · rw [if_neg hj]; cases tyF ci j <;> simp [fv, gI, gD, gL, gR, sI, hj]
set_option maxHeartbeats 200000 in
theorem g_putZ {P : Prop} (X : CX E p s m c cc nL own) {ix ci k r : Nat} {v : Int32} (hd : decode cc pc = .ok (.putfield ix, 3)) (hf : FL own ix ci k) (ht : tyF ci k = .boolean) (hfin : (fT ci k).2.2.2 = false ∨ ((fT ci k).2.2.2 = true ∧ meth.name = "<init>" ∧ fC ci = own)) (hw : (v = 0 ∨ v = 1) ∧ (r ≤ n ∧ kd r = (ci, 0)) ∧ P) (kk : P → G E p l e R s m args below meth c nL n (sI M r k v) cells slots Q (pc + 3) lv st) : G E p l e R s m args below meth c nL n M cells slots Q pc lv (iV v :: rV r :: st) := by
  refine g_put0 X (iV v) hd hf hw.2.1 hfin (fun b => by rw [ht]; rcases hw.1 with h | h <;> rw [h] <;> rfl) (fun b => by rw [ht]; rcases hw.1 with h | h <;> rw [h] <;> rfl) (MU_sI M r k v) (fun b j => ?_) (kk hw.2.2)
  by_cases hj : j = k
  · subst hj; rw [ht]; simp [fv, gI, sI, toV]
  · rw [if_neg hj]; cases tyF ci j <;> simp [fv, gI, gD, gL, gR, sI, hj]
set_option maxHeartbeats 200000 in
theorem g_putD {P : Prop} (X : CX E p s m c cc nL own) {ix ci k r : Nat} {v : UInt64} (hd : decode cc pc = .ok (.putfield ix, 3)) (hf : FL own ix ci k) (ht : tyF ci k = .double) (hfin : (fT ci k).2.2.2 = false ∨ ((fT ci k).2.2.2 = true ∧ meth.name = "<init>" ∧ fC ci = own)) (hw : (r ≤ n ∧ kd r = (ci, 0)) ∧ P) (kk : P → G E p l e R s m args below meth c nL n (sD M r k v) cells slots Q (pc + 3) lv st) : G E p l e R s m args below meth c nL n M cells slots Q pc lv (dV v :: rV r :: st) := by
  refine g_put0 X (dV v) hd hf hw.1 hfin (fun b => by rw [ht]; rfl) (fun b => by rw [ht]; rfl) (MU_sD M r k v) (fun b j => ?_) (kk hw.2)
  by_cases hj : j = k
  · subst hj; rw [ht]; simp [fv, gD, sD, toV]
  · rw [if_neg hj]; cases tyF ci j <;> simp [fv, gI, gD, gL, gR, sD, hj]
set_option maxHeartbeats 200000 in
theorem g_putL {P : Prop} (X : CX E p s m c cc nL own) {ix ci k r : Nat} {v : Int64} (hd : decode cc pc = .ok (.putfield ix, 3)) (hf : FL own ix ci k) (ht : tyF ci k = .long) (hfin : (fT ci k).2.2.2 = false ∨ ((fT ci k).2.2.2 = true ∧ meth.name = "<init>" ∧ fC ci = own)) (hw : (r ≤ n ∧ kd r = (ci, 0)) ∧ P) (kk : P → G E p l e R s m args below meth c nL n (sL M r k v) cells slots Q (pc + 3) lv st) : G E p l e R s m args below meth c nL n M cells slots Q pc lv (lV v :: rV r :: st) := by
  refine g_put0 X (lV v) hd hf hw.1 hfin (fun b => by rw [ht]; rfl) (fun b => by rw [ht]; rfl) (MU_sL M r k v) (fun b j => ?_) (kk hw.2)
  by_cases hj : j = k
  · subst hj; rw [ht]; simp [fv, gL, sL, toV]
  · rw [if_neg hj]; cases tyF ci j <;> simp [fv, gI, gD, gL, gR, sL, hj]
set_option maxHeartbeats 200000 in
theorem g_putR {P : Prop} (X : CX E p s m c cc nL own) {ix ci k r v : Nat} (hd : decode cc pc = .ok (.putfield ix, 3)) (hf : FL own ix ci k) (ht : (∃ C, tyF ci k = .object C) ∨ ∃ t, tyF ci k = .array t) (hfin : (fT ci k).2.2.2 = false ∨ ((fT ci k).2.2.2 = true ∧ meth.name = "<init>" ∧ fC ci = own)) (hw : (r ≤ n ∧ kd r = (ci, 0)) ∧ P) (kk : P → G E p l e R s m args below meth c nL n (sR M r k v) cells slots Q (pc + 3) lv st) : G E p l e R s m args below meth c nL n M cells slots Q pc lv (rV v :: rV r :: st) := by
  refine g_put0 X (rV v) hd hf hw.1 hfin (fun b => ?_) (fun b => ?_) (MU_sR M r k v) (fun b j => ?_) (kk hw.2)
  · show narrow _ (rf b v) = rf b v
    rcases ht with ⟨C, ht⟩ | ⟨t, ht⟩ <;> rw [ht] <;> rcases rf_or b v with ⟨-, h⟩ | ⟨-, h⟩ <;> rw [h] <;> rfl
  · show fits _ (rf b v) = true
    rcases ht with ⟨C, ht⟩ | ⟨t, ht⟩ <;> rw [ht] <;> rcases rf_or b v with ⟨-, h⟩ | ⟨-, h⟩ <;> rw [h] <;> rfl
  · by_cases hj : j = k
    · subst hj; rcases ht with ⟨C, ht⟩ | ⟨t, ht⟩ <;> rw [ht] <;> simp [fv, gR, sR, toV]
    · rw [if_neg hj]; cases tyF ci j <;> simp [fv, gI, gD, gL, gR, sR, hj]
set_option maxHeartbeats 200000 in
theorem g_arr (X : CX E p s m c cc nL own) {H : Heap} (a2 : Rep E n M H) {r k : Nat} (hn : r ≤ n) (hk : (kd r).1 = k) (h7 : 7 ≤ k) (h13 : k < 13) : r ≠ 0 ∧ H[E.2.2.1 + r]? = some (arrV (E.2.1 k) (kd r).2 (fun j => av E.2.2.1 M k r j)) := by
  have h0 : r ≠ 0 := kd0' (by omega)
  have hc := a2.2.2 r (by omega) hn
  unfold cellAt at hc
  rw [if_neg (by omega), hk] at hc
  exact ⟨h0, hc⟩
set_option maxHeartbeats 200000 in
theorem g_alen {P : Prop} (X : CX E p s m c cc nL own) {r : Nat} (hd : decode cc pc = .ok (.arraylength, 1)) (hw : (r ≤ n ∧ 7 ≤ (kd r).1 ∧ (kd r).1 < 13) ∧ P) (kk : P → G E p l e R s m args below meth c nL n M cells slots Q (pc + 1) lv (iV (nI (kd r).2) :: st)) : G E p l e R s m args below meth c nL n M cells slots Q pc lv (rV r :: st) := by
  intro H locs ls d a1 a2 a3 a4
  have X := X.dr d
  obtain ⟨⟨hn, h7, h13⟩, hP⟩ := hw
  obtain ⟨h0, hc⟩ := g_arr X a2 hn rfl h7 h13
  change W _ _ _ _ _ _ _ _ _ _ _ _ _ _ _ (F0 m pc ls (rf E.2.2.1 r :: st.map (toV E.2.2.1)))
  rw [rf_pos h0]
  have hT : ∃ ty, ArrOfT (s.setDrawn d) (E.2.1 (kd r).1) ty := by
    have K := X.2.2.2.2.1.2
    rcases (show (kd r).1 = 7 ∨ (kd r).1 = 8 ∨ (kd r).1 = 9 ∨ (kd r).1 = 10 ∨ (kd r).1 = 11 ∨ (kd r).1 = 12 by omega) with h | h | h | h | h | h <;> rw [h]
    · exact ⟨_, (K 0 _ rfl).1⟩
    · exact ⟨_, (K 1 _ rfl).1⟩
    · exact ⟨_, (K 2 _ rfl).1⟩
    · exact ⟨_, (K 3 _ rfl).1⟩
    · exact ⟨_, (K 4 _ rfl).1⟩
    · exact ⟨_, (K 5 _ rfl).1⟩
  obtain ⟨ty, hT⟩ := hT
  have hA : (s.setDrawn d).isArrayOf (arrV (E.2.1 (kd r).1) (kd r).2 (fun j => av E.2.2.1 M (kd r).1 r j)) ty := hT _ _
  exact W.alen (n := nI (kd r).2) X.1 X.2.1 hc hA (by rw [arrV_size]; rfl) rfl rfl hd (kk hP H locs ls d a1 a2 a3 a4)
set_option maxHeartbeats 200000 in
theorem g_iald {P : Prop} (X : CX E p s m c cc nL own) {r : Nat} {i : Int32} (hd : decode cc pc = .ok (.iaload, 1)) (hw : (r ≤ n ∧ (kd r).1 = 7 ∧ vp_in i (kd r).2) ∧ P) (kk : P → G E p l e R s m args below meth c nL n M cells slots Q (pc + 1) lv (iV (gI M r i.toNatClampNeg) :: st)) : G E p l e R s m args below meth c nL n M cells slots Q pc lv (iV i :: rV r :: st) := by
  intro H locs ls d a1 a2 a3 a4
  have X := X.dr d
  obtain ⟨⟨hn, hk, hi⟩, hP⟩ := hw
  obtain ⟨h0, hc⟩ := g_arr X a2 hn hk (by decide) (by decide)
  change W _ _ _ _ _ _ _ _ _ _ _ _ _ _ _ (F0 m pc ls (.int i :: rf E.2.2.1 r :: st.map (toV E.2.2.1)))
  rw [rf_pos h0]
  have hA : (s.setDrawn d).isArrayOf (arrV (E.2.1 7) (kd r).2 (fun j => av E.2.2.1 M 7 r j)) .int := (X.2.2.2.2.1.2 0 _ rfl).1 _ _
  have hlt : i.toNatClampNeg < (kd r).2 := Nat.not_le.mp fun q => hi (Or.inr q)
  exact W.iald (v := .int (gI M r i.toNatClampNeg)) X.1 X.2.1 hc hA (fun q => by cases q) (by rw [arrV_size]; exact hi) (by rw [arrV_read _ _ hlt]; rfl) rfl rfl hd (kk hP H locs ls d a1 a2 a3 a4)
set_option maxHeartbeats 200000 in
theorem g_cald {P : Prop} (X : CX E p s m c cc nL own) {r : Nat} {i : Int32} (hd : decode cc pc = .ok (.caload, 1)) (hw : (r ≤ n ∧ (kd r).1 = 9 ∧ vp_in i (kd r).2) ∧ P) (kk : P → G E p l e R s m args below meth c nL n M cells slots Q (pc + 1) lv (iV (gI M r i.toNatClampNeg) :: st)) : G E p l e R s m args below meth c nL n M cells slots Q pc lv (iV i :: rV r :: st) := by
  intro H locs ls d a1 a2 a3 a4
  have X := X.dr d
  obtain ⟨⟨hn, hk, hi⟩, hP⟩ := hw
  obtain ⟨h0, hc⟩ := g_arr X a2 hn hk (by decide) (by decide)
  change W _ _ _ _ _ _ _ _ _ _ _ _ _ _ _ (F0 m pc ls (.int i :: rf E.2.2.1 r :: st.map (toV E.2.2.1)))
  rw [rf_pos h0]
  have hA : (s.setDrawn d).isArrayOf (arrV (E.2.1 9) (kd r).2 (fun j => av E.2.2.1 M 9 r j)) .char := (X.2.2.2.2.1.2 2 _ rfl).1 _ _
  have hlt : i.toNatClampNeg < (kd r).2 := Nat.not_le.mp fun q => hi (Or.inr q)
  exact W.cald (v := .int (gI M r i.toNatClampNeg)) X.1 X.2.1 hc hA (fun q => by cases q) (by rw [arrV_size]; exact hi) (by rw [arrV_read _ _ hlt]; rfl) rfl rfl hd (kk hP H locs ls d a1 a2 a3 a4)
set_option maxHeartbeats 200000 in
theorem g_dald {P : Prop} (X : CX E p s m c cc nL own) {r : Nat} {i : Int32} (hd : decode cc pc = .ok (.daload, 1)) (hw : (r ≤ n ∧ (kd r).1 = 8 ∧ vp_in i (kd r).2) ∧ P) (kk : P → G E p l e R s m args below meth c nL n M cells slots Q (pc + 1) lv (dV (gD M r i.toNatClampNeg) :: st)) : G E p l e R s m args below meth c nL n M cells slots Q pc lv (iV i :: rV r :: st) := by
  intro H locs ls d a1 a2 a3 a4
  have X := X.dr d
  obtain ⟨⟨hn, hk, hi⟩, hP⟩ := hw
  obtain ⟨h0, hc⟩ := g_arr X a2 hn hk (by decide) (by decide)
  change W _ _ _ _ _ _ _ _ _ _ _ _ _ _ _ (F0 m pc ls (.int i :: rf E.2.2.1 r :: st.map (toV E.2.2.1)))
  rw [rf_pos h0]
  have hA : (s.setDrawn d).isArrayOf (arrV (E.2.1 8) (kd r).2 (fun j => av E.2.2.1 M 8 r j)) .double := (X.2.2.2.2.1.2 1 _ rfl).1 _ _
  have hlt : i.toNatClampNeg < (kd r).2 := Nat.not_le.mp fun q => hi (Or.inr q)
  exact W.dald (v := .double (gD M r i.toNatClampNeg)) X.1 X.2.1 hc hA (fun q => by cases q) (by rw [arrV_size]; exact hi) (by rw [arrV_read _ _ hlt]; rfl) rfl rfl hd (kk hP H locs ls d a1 a2 a3 a4)
set_option maxHeartbeats 200000 in
theorem g_aald {P : Prop} (X : CX E p s m c cc nL own) {r : Nat} {i : Int32} (hd : decode cc pc = .ok (.aaload, 1)) (hw : (r ≤ n ∧ (10 ≤ (kd r).1 ∧ (kd r).1 < 13) ∧ vp_in i (kd r).2) ∧ P) (kk : P → G E p l e R s m args below meth c nL n M cells slots Q (pc + 1) lv (rV (gR M r i.toNatClampNeg) :: st)) : G E p l e R s m args below meth c nL n M cells slots Q pc lv (iV i :: rV r :: st) := by
  intro H locs ls d a1 a2 a3 a4
  have X := X.dr d
  obtain ⟨⟨hn, ⟨h10, h13⟩, hi⟩, hP⟩ := hw
  obtain ⟨h0, hc⟩ := g_arr X a2 hn rfl (by omega) h13
  change W _ _ _ _ _ _ _ _ _ _ _ _ _ _ _ (F0 m pc ls (.int i :: rf E.2.2.1 r :: st.map (toV E.2.2.1)))
  rw [rf_pos h0]
  have hlt : i.toNatClampNeg < (kd r).2 := Nat.not_le.mp fun q => hi (Or.inr q)
  have hT : ∃ C, ArrOfT (s.setDrawn d) (E.2.1 (kd r).1) (.object C) := by
    have K := X.2.2.2.2.1.2
    rcases (show (kd r).1 = 10 ∨ (kd r).1 = 11 ∨ (kd r).1 = 12 by omega) with h | h | h <;> rw [h]
    · exact ⟨_, (K 3 _ rfl).1⟩
    · exact ⟨_, (K 4 _ rfl).1⟩
    · exact ⟨_, (K 5 _ rfl).1⟩
  obtain ⟨C, hT⟩ := hT
  have hA : (s.setDrawn d).isArrayOf (arrV (E.2.1 (kd r).1) (kd r).2 (fun j => av E.2.2.1 M (kd r).1 r j)) (.object C) := hT _ _
  exact W.aald (v := rf E.2.2.1 (gR M r i.toNatClampNeg)) X.1 X.2.1 hc hA rfl (fun q => by cases q) (by rw [arrV_size]; exact hi) (by rw [arrV_read _ _ hlt]; unfold av; rw [if_neg (by omega), if_neg (by omega)]) rfl rfl hd (kk hP H locs ls d a1 a2 a3 a4)
set_option maxHeartbeats 200000 in
/-- behind a store in an array -/
theorem g_ast0 (X : CX E p s m c cc nL own) {H H2 : Heap} {locs : List Loc} (a2 : Rep E n M H) (a3 : ∀ q ∈ locs, Ab E q.base) {r k j : Nat} {v : Value} (hn : r ≤ n) (hk : (kd r).1 = k) (h7 : 7 ≤ k) (h13 : k < 13) (hU : MU M M2 r) (hv : ∀ i, av E.2.2.1 M2 k r i = if i = j then v else av E.2.2.1 M k r i) (e1 : H2[E.2.2.1 + r]? = some ((arrV (E.2.1 k) (kd r).2 (fun j => av E.2.2.1 M k r j)).setSlot j v)) (e2 : H2.size = H.size) (e3 : ∀ q, q ≠ E.2.2.1 + r → H2[q]? = H[q]?) : Rep E n M2 H2 ∧ ∀ q ∈ locs ++ [⟨E.2.2.1 + r, j⟩], Ab E q.base := by
  have h0 : r ≠ 0 := kd0' (by omega)
  refine ⟨Rep_upd a2 h0 hU e2 e3 ?_, fun q hq => ?_⟩
  · unfold cellAt
    rw [if_neg (by omega), hk, e1, arrV_store]
    congr 2
    funext i
    rw [hv]
    rfl
  · rcases List.mem_append.mp hq with h | h
    · exact a3 q h
    · rw [List.mem_singleton.mp h]
      show E.2.2.1 < E.2.2.1 + r
      omega
set_option maxHeartbeats 200000 in
theorem g_iast {P : Prop} (X : CX E p s m c cc nL own) {r : Nat} {i v : Int32} (hd : decode cc pc = .ok (.iastore, 1)) (hw : (r ≤ n ∧ (kd r).1 = 7 ∧ vp_in i (kd r).2) ∧ P) (kk : P → G E p l e R s m args below meth c nL n (sI M r i.toNatClampNeg v) cells slots Q (pc + 1) lv st) : G E p l e R s m args below meth c nL n M cells slots Q pc lv (iV v :: iV i :: rV r :: st) := by
  intro H locs ls d a1 a2 a3 a4
  have X := X.dr d
  obtain ⟨⟨hn, hk, hi⟩, hP⟩ := hw
  obtain ⟨h0, hc⟩ := g_arr X a2 hn hk (by decide) (by decide)
  change W _ _ _ _ _ _ _ _ _ _ _ _ _ _ _ (F0 m pc ls (.int v :: .int i :: rf E.2.2.1 r :: st.map (toV E.2.2.1)))
  rw [rf_pos h0]
  have hA : (s.setDrawn d).isArrayOf (arrV (E.2.1 7) (kd r).2 (fun j => av E.2.2.1 M 7 r j)) .int := (X.2.2.2.2.1.2 0 _ rfl).1 _ _
  refine W.iast X.1 X.2.1 hc hA (fun q => by cases q) (by rw [arrV_size]; exact hi) rfl rfl hd (fun H2 e1 e2 e3 => ?_)
  obtain ⟨b1, b2⟩ := g_ast0 X a2 a3 hn hk (by decide) (by decide) (MU_sI M r i.toNatClampNeg v) (fun j => by by_cases hj : j = i.toNatClampNeg <;> simp [av, gI, sI, hj]) e1 e2 e3
  exact kk hP H2 _ ls d a1 b1 b2 a4
set_option maxHeartbeats 200000 in
theorem g_cast {P : Prop} (X : CX E p s m c cc nL own) {r : Nat} {i v : Int32} (hd : decode cc pc = .ok (.castore, 1)) (hw : (r ≤ n ∧ (kd r).1 = 9 ∧ vp_in i (kd r).2) ∧ P) (kk : P → G E p l e R s m args below meth c nL n (sI M r i.toNatClampNeg (vp_nar .char v)) cells slots Q (pc + 1) lv st) : G E p l e R s m args below meth c nL n M cells slots Q pc lv (iV v :: iV i :: rV r :: st) := by
  intro H locs ls d a1 a2 a3 a4
  have X := X.dr d
  obtain ⟨⟨hn, hk, hi⟩, hP⟩ := hw
  obtain ⟨h0, hc⟩ := g_arr X a2 hn hk (by decide) (by decide)
  change W _ _ _ _ _ _ _ _ _ _ _ _ _ _ _ (F0 m pc ls (.int v :: .int i :: rf E.2.2.1 r :: st.map (toV E.2.2.1)))
  rw [rf_pos h0]
  have hA : (s.setDrawn d).isArrayOf (arrV (E.2.1 9) (kd r).2 (fun j => av E.2.2.1 M 9 r j)) .char := (X.2.2.2.2.1.2 2 _ rfl).1 _ _
  refine W.cast X.1 X.2.1 hc hA (fun q => by cases q) (by rw [arrV_size]; exact hi) rfl rfl hd (fun H2 e1 e2 e3 => ?_)
  obtain ⟨b1, b2⟩ := g_ast0 (M2 := sI M r i.toNatClampNeg (vp_nar .char v)) X a2 a3 hn hk (by decide) (by decide) (MU_sI M r i.toNatClampNeg (vp_nar .char v)) (fun j => by
    by_cases hj : j = i.toNatClampNeg
    · rw [if_pos hj, hj]
      show Value.int (gI (sI M r i.toNatClampNeg (vp_nar .char v)) r i.toNatClampNeg) = narrow .char (.int v)
      simp only [gI, sI, and_self, if_true]
      rfl
    · rw [if_neg hj]
      simp [av, gI, sI, hj]) e1 e2 e3
  exact kk hP H2 _ ls d a1 b1 b2 a4
set_option maxHeartbeats 200000 in
theorem g_dast {P : Prop} (X : CX E p s m c cc nL own) {r : Nat} {i : Int32} {v : UInt64} (hd : decode cc pc = .ok (.dastore, 1)) (hw : (r ≤ n ∧ (kd r).1 = 8 ∧ vp_in i (kd r).2) ∧ P) (kk : P → G E p l e R s m args below meth c nL n (sD M r i.toNatClampNeg v) cells slots Q (pc + 1) lv st) : G E p l e R s m args below meth c nL n M cells slots Q pc lv (dV v :: iV i :: rV r :: st) := by
  intro H locs ls d a1 a2 a3 a4
  have X := X.dr d
  obtain ⟨⟨hn, hk, hi⟩, hP⟩ := hw
  obtain ⟨h0, hc⟩ := g_arr X a2 hn hk (by decide) (by decide)
  change W _ _ _ _ _ _ _ _ _ _ _ _ _ _ _ (F0 m pc ls (.double v :: .int i :: rf E.2.2.1 r :: st.map (toV E.2.2.1)))
  rw [rf_pos h0]
  have hA : (s.setDrawn d).isArrayOf (arrV (E.2.1 8) (kd r).2 (fun j => av E.2.2.1 M 8 r j)) .double := (X.2.2.2.2.1.2 1 _ rfl).1 _ _
  refine W.dast X.1 X.2.1 hc hA (fun q => by cases q) (by rw [arrV_size]; exact hi) rfl rfl hd (fun H2 e1 e2 e3 => ?_)
  obtain ⟨b1, b2⟩ := g_ast0 X a2 a3 hn hk (by decide) (by decide) (MU_sD M r i.toNatClampNeg v) (fun j => by by_cases hj : j = i.toNatClampNeg <;> simp [av, gD, sD, hj]) e1 e2 e3
  exact kk hP H2 _ ls d a1 b1 b2 a4
/-- of which class the elements of an array of objects are -/
def elC (k : Nat) : Nat := if k = 10 then 1 else if k = 11 then 2 else 0
set_option maxHeartbeats 200000 in
theorem g_aast {P : Prop} (X : CX E p s m c cc nL own) {r v : Nat} {i : Int32} (hd : decode cc pc = .ok (.aastore, 1)) (hw : (r ≤ n ∧ (10 ≤ (kd r).1 ∧ (kd r).1 < 13) ∧ vp_in i (kd r).2 ∧ v ≤ n ∧ kd v = (elC (kd r).1, 0)) ∧ P) (kk : P → G E p l e R s m args below meth c nL n (sR M r i.toNatClampNeg v) cells slots Q (pc + 1) lv st) : G E p l e R s m args below meth c nL n M cells slots Q pc lv (rV v :: iV i :: rV r :: st) := by
  intro H locs ls d a1 a2 a3 a4
  have X := X.dr d
  obtain ⟨⟨hn, ⟨h10, h13⟩, hi, hvn, hvk⟩, hP⟩ := hw
  obtain ⟨h0, hc⟩ := g_arr X a2 hn rfl (by omega) h13
  have hel : elC (kd r).1 < 7 := by unfold elC; split <;> (try split) <;> omega
  have hv0 : v ≠ 0 := kd0 (by omega) hvk
  have hcv := a2.2.2 v (by omega) hvn
  unfold cellAt at hcv
  rw [hvk] at hcv
  rw [if_pos hel] at hcv
  obtain ⟨cellV, g1, g2, g3, -⟩ := hcv
  change W _ _ _ _ _ _ _ _ _ _ _ _ _ _ _ (F0 m pc ls (rf E.2.2.1 v :: .int i :: rf E.2.2.1 r :: st.map (toV E.2.2.1)))
  rw [rf_pos h0, rf_pos hv0]
  have hlt : i.toNatClampNeg < (kd r).2 := Nat.not_le.mp fun q => hi (Or.inr q)
  have hi0 : ¬ i < 0 := fun q => hi (Or.inl q)
  have hcls := (X.2.2.2.2.1.1 _ _ (cl_at hel)).2
  have hRA : va_RA (s.setDrawn d) (E.2.1 (kd r).1) (.object (fC (elC (kd r).1))) := by
    have K := X.2.2.2.2.1.2
    rcases (show (kd r).1 = 10 ∨ (kd r).1 = 11 ∨ (kd r).1 = 12 by omega) with h | h | h <;> rw [h]
    · exact (K 3 _ rfl).2
    · exact (K 4 _ rfl).2
    · exact (K 5 _ rfl).2
  obtain ⟨kA, comp, k1, k2, k3, -⟩ := hRA
  have hcomp : comp = E.1.1 (elC (kd r).1) := Option.some.inj (k3.symm.trans hcls.1)
  subst hcomp
  obtain ⟨kC, hkC, -⟩ := hcls.2
  refine W.aast X.1 X.2.1 hc (fun q h => by cases h) (fun h => by cases h) k1 k2 rfl hkC ⟨hi0, by rw [arrV_size]; exact hlt⟩ g1 (fun q h => by rw [g3] at h; cases h) (by rw [g2]; exact hkC) (by rw [g2]; exact va_assign hcls) rfl rfl hd (fun H2 e1 e2 e3 => ?_)
  obtain ⟨b1, b2⟩ := g_ast0 (M2 := sR M r i.toNatClampNeg v) X a2 a3 hn rfl (by omega) h13 (MU_sR M r i.toNatClampNeg v) (fun j => by
    have n8 : ¬ (kd r).1 = 8 := by omega
    have n9 : ¬ (kd r).1 ≤ 9 := by omega
    simp only [av, if_neg n8, if_neg n9]
    by_cases hj : j = i.toNatClampNeg
    · rw [if_pos hj]; simp [gR, sR, hj, rf_pos hv0]
    · rw [if_neg hj]; simp [gR, sR, hj]) e1 e2 e3
  exact kk hP H2 _ ls d a1 b1 b2 a4
end GH
end
section
/-! calls, ends, new cells -/
abbrev PI (E : Gl) (n : Nat) (K : Int32 → Mem → Prop) : Array Value → State → Outcome → State → Prop := va_Qi K (fun M2 t => Rep E n M2 t.heap) (Ab E)
abbrev PL (E : Gl) (n : Nat) (K : Int64 → Mem → Prop) : Array Value → State → Outcome → State → Prop := va_Ql K (fun M2 t => Rep E n M2 t.heap) (Ab E)
abbrev PD (E : Gl) (n : Nat) (K : UInt64 → Mem → Prop) : Array Value → State → Outcome → State → Prop := va_Qd K (fun M2 t => Rep E n M2 t.heap) (Ab E)
abbrev PV (E : Gl) (n : Nat) (K : Mem → Prop) : Array Value → State → Outcome → State → Prop := va_Qv K (fun M2 t => Rep E n M2 t.heap) (Ab E)
abbrev PR (E : Gl) (n : Nat) (K : Nat → Mem → Prop) : Array Value → State → Outcome → State → Prop := va_Qq (fun ro M2 => ∃ r, ro = (if r = 0 then none else some (E.2.2.1 + r)) ∧ K r M2) (fun M2 t => Rep E n M2 t.heap) (Ab E)
abbrev CT (E : Gl) (l : Launch) (y : MethodName) (cc : ByteArray) (maxL : Nat) (ret : Option FieldType) (rm : Room) (n : Nat) (M : Mem) (av : List AV) (Qc : Array Value → State → Outcome → State → Prop) : Prop := MetD lw_cs l y [Cond.code y cc maxL ret] rm (va_Pc (av.map (toV E.2.2.1)) (fun U => Rep E n M U.heap ∧ KK E U)) Qc rm.cells rm.slots (Ab E)
/-- the locals at a method's entry -/
def lvE : Nat → List AV → List (Nat × AV)
  | _, [] => []
  | i, a :: l => (i, a) :: lvE (if catA a = 2 then i + 2 else i + 1) l
theorem lvE_args (b : Nat) : ∀ (i : Nat) (l : List AV), lv_args i (l.map (toV b)) = lvm b (lvE i l)
  | _, [] => rfl
  | i, a :: l => by
    show (i, toV b a) :: lv_args (if (toV b a).category = 2 then i + 2 else i + 1) (l.map (toV b)) = (i, toV b a) :: lvm b (lvE (if catA a = 2 then i + 2 else i + 1) l)
    rw [toV_cat, lvE_args b _ l]
def szA : List AV → Nat
  | [] => 0
  | a :: l => catA a + szA l
theorem szA_sl (b : Nat) : ∀ l : List AV, (lg_sl (l.map (toV b))).length = szA l
  | [] => rfl
  | a :: l => by
    have ih := szA_sl b l
    rw [List.map_cons]
    unfold szA
    rw [← ih, ← toV_cat b a]
    cases h : toV b a <;> simp [lg_sl, Value.category] <;> omega
section GC
variable {E : Gl} {p : Program} {l : Launch} {e : Env} {R : Room} {s : State} {m : MethodId} {args : Array Value} {below : List Frame} {meth : Method} {c : Code} {nL n n2 : Nat} {M M2 : Mem} {cells slots : Nat} {Q : State → Prop} {cc : ByteArray} {own : String} {pc : Nat} {lv lv' : List (Nat × AV)} {st : List AV}
set_option maxHeartbeats 200000 in
/-- a method's contract, out of the walk of its body -/
theorem g_met {y : MethodName} {maxL : Nat} {ret : Option FieldType} {rm : Room} {av : List AV} {Qc : Array Value → State → Outcome → State → Prop} (l : Launch) (hy : plainName y.cls = true) (hlen : szA av ≤ maxL)
    (body : ∀ (p : Program) (e : Env) (s : State) (m : MethodId) (args : Array Value) (below : List Frame) (meth : Method) (c : Code), CX E p s m c cc maxL y.cls → meth.sig.returnType = ret → meth.locks = false → meth.name = y.name → s.heap.size = E.2.2.1 + 1 + n → (∀ q, q ≤ E.2.2.1 → s.heap[q]? = E.2.2.2.1[q]?) → G E p l e rm s m args below meth c maxL n M 0 0 (MQD lw_cs below Qc args s rm.cells rm.slots (Ab E)) 0 (lvE 0 av) []) :
    CT E l y cc maxL ret rm n M av Qc := by
  refine MetD.ofW (cc := cc) (maxL := maxL) (ret := ret) (ws' := []) hy rfl ?_
  intro p e s m args below meth c s₁ B hml hv hd0
  obtain ⟨rfl, hR, hK⟩ := hv
  have hl := lv_entry (av.map (toV E.2.2.1)) (n := maxL) (by rw [szA_sl]; exact hlen)
  rw [lg_entry_eq]
  rw [lvE_args] at hl
  exact body p e s m _ below meth c ⟨B.exec, B.bytes, hml, findClass_of_methodNamed B.named, hK⟩ B.returns B.notSynchronized (name_of_methodNamed B.named B.method).1 hR.1 hR.2.1 s.heap [] _ _ hd0 hR (fun q h => absurd h List.not_mem_nil) hl
set_option maxHeartbeats 200000 in
/-- the frame of a whole method -/
theorem g_frame {H : Heap} (h1 : s.heap.size = E.2.2.1 + 1 + n) (h2 : ∀ q, q ≤ E.2.2.1 → s.heap[q]? = E.2.2.2.1[q]?) (hn : n ≤ n2) (hR : Rep E n2 M H) {t : State} (ht : t.heap = H) : va_F (Ab E) s t := by
  refine ⟨by rw [ht, h1, hR.1]; omega, fun q hq hA => ?_⟩
  have hq2 : q ≤ E.2.2.1 := Nat.not_lt.mp hA
  rw [ht, hR.2.1 q hq2, h2 q hq2]
set_option maxHeartbeats 200000 in
theorem g_iret {K : Int32 → Mem → Prop} {v : Int32} (X : CX E p s m c cc nL own) (hr : meth.sig.returnType = some .int) (hlk : meth.locks = false) (h1 : s.heap.size = E.2.2.1 + 1 + n) (h2 : ∀ q, q ≤ E.2.2.1 → s.heap[q]? = E.2.2.2.1[q]?) (hn : n ≤ n2) (hd : decode cc pc = .ok (.ireturn, 1)) (hw : K v M) : G E p l e R s m args below meth c nL n2 M cells slots (MQD lw_cs below (PI E n2 K) args s cells slots (Ab E)) pc lv [iV v] := by
  intro H locs ls d a1 a2 a3 a4
  refine W.endD a1 (W.iret (Qc := PI E n2 K) X.1 X.2.1 hr (fun t ht hW => ⟨⟨v, M, rfl, hw, ?_⟩, ?_⟩) a3 hd hlk)
  · show Rep E n2 M t.heap
    rw [ht]; exact a2
  · exact g_frame (s := s) h1 h2 hn a2 ht
set_option maxHeartbeats 200000 in
theorem g_zret {K : Int32 → Mem → Prop} {v : Int32} {ty : FieldType} (X : CX E p s m c cc nL own) (hr : meth.sig.returnType = some ty) (hlk : meth.locks = false) (h1 : s.heap.size = E.2.2.1 + 1 + n) (h2 : ∀ q, q ≤ E.2.2.1 → s.heap[q]? = E.2.2.2.1[q]?) (hn : n ≤ n2) (hd : decode cc pc = .ok (.ireturn, 1)) (hw : narrow ty (.int v) = .int v ∧ K v M) : G E p l e R s m args below meth c nL n2 M cells slots (MQD lw_cs below (PI E n2 K) args s cells slots (Ab E)) pc lv [iV v] := by
  intro H locs ls d a1 a2 a3 a4
  refine W.endD a1 (W.zret (Qc := PI E n2 K) X.1 X.2.1 hr hw.1 (fun t ht hW => ⟨⟨v, M, rfl, hw.2, ?_⟩, ?_⟩) a3 hd hlk)
  · show Rep E n2 M t.heap
    rw [ht]; exact a2
  · exact g_frame (s := s) h1 h2 hn a2 ht
set_option maxHeartbeats 200000 in
theorem g_lret {K : Int64 → Mem → Prop} {v : Int64} (X : CX E p s m c cc nL own) (hr : meth.sig.returnType = some .long) (hlk : meth.locks = false) (h1 : s.heap.size = E.2.2.1 + 1 + n) (h2 : ∀ q, q ≤ E.2.2.1 → s.heap[q]? = E.2.2.2.1[q]?) (hn : n ≤ n2) (hd : decode cc pc = .ok (.lreturn, 1)) (hw : K v M) : G E p l e R s m args below meth c nL n2 M cells slots (MQD lw_cs below (PL E n2 K) args s cells slots (Ab E)) pc lv [lV v] := by
  intro H locs ls d a1 a2 a3 a4
  refine W.endD a1 (W.lret (Qc := PL E n2 K) X.1 X.2.1 hr (fun t ht hW => ⟨⟨v, M, rfl, hw, ?_⟩, ?_⟩) a3 hd hlk)
  · show Rep E n2 M t.heap
    rw [ht]; exact a2
  · exact g_frame (s := s) h1 h2 hn a2 ht
set_option maxHeartbeats 200000 in
theorem g_dret {K : UInt64 → Mem → Prop} {v : UInt64} (X : CX E p s m c cc nL own) (hr : meth.sig.returnType = some .double) (hlk : meth.locks = false) (h1 : s.heap.size = E.2.2.1 + 1 + n) (h2 : ∀ q, q ≤ E.2.2.1 → s.heap[q]? = E.2.2.2.1[q]?) (hn : n ≤ n2) (hd : decode cc pc = .ok (.dreturn, 1)) (hw : K v M) : G E p l e R s m args below meth c nL n2 M cells slots (MQD lw_cs below (PD E n2 K) args s cells slots (Ab E)) pc lv [dV v] := by
  intro H locs ls d a1 a2 a3 a4
  refine W.endD a1 (W.dret (Qc := PD E n2 K) X.1 X.2.1 hr (fun t ht hW => ⟨⟨v, M, rfl, hw, ?_⟩, ?_⟩) a3 hd hlk)
  · show Rep E n2 M t.heap
    rw [ht]; exact a2
  · exact g_frame (s := s) h1 h2 hn a2 ht
set_option maxHeartbeats 200000 in
theorem g_vret {K : Mem → Prop} (X : CX E p s m c cc nL own) (hr : meth.sig.returnType = none) (hlk : meth.locks = false) (h1 : s.heap.size = E.2.2.1 + 1 + n) (h2 : ∀ q, q ≤ E.2.2.1 → s.heap[q]? = E.2.2.2.1[q]?) (hn : n ≤ n2) (hd : decode cc pc = .ok (.return_, 1)) (hw : K M) : G E p l e R s m args below meth c nL n2 M cells slots (MQD lw_cs below (PV E n2 K) args s cells slots (Ab E)) pc lv [] := by
  intro H locs ls d a1 a2 a3 a4
  refine W.endD a1 (W.vret (Qc := PV E n2 K) X.1 X.2.1 hr (fun t ht hW => ⟨⟨M, rfl, hw, ?_⟩, ?_⟩) a3 hd hlk)
  · show Rep E n2 M t.heap
    rw [ht]; exact a2
  · exact g_frame (s := s) h1 h2 hn a2 ht
set_option maxHeartbeats 200000 in
theorem g_aret {K : Nat → Mem → Prop} {r : Nat} {rt : FieldType} (X : CX E p s m c cc nL own) (hr : meth.sig.returnType = some rt) (hrt : (∃ n, rt = .object n) ∨ ∃ t, rt = .array t) (hlk : meth.locks = false) (h1 : s.heap.size = E.2.2.1 + 1 + n) (h2 : ∀ q, q ≤ E.2.2.1 → s.heap[q]? = E.2.2.2.1[q]?) (hn : n ≤ n2) (hd : decode cc pc = .ok (.areturn, 1)) (hw : K r M) : G E p l e R s m args below meth c nL n2 M cells slots (MQD lw_cs below (PR E n2 K) args s cells slots (Ab E)) pc lv [rV r] := by
  intro H locs ls d a1 a2 a3 a4
  refine W.endD a1 (W.aret (Qc := PR E n2 K) X.1 X.2.1 hr hrt ?_ (fun t ht hW => ⟨⟨_, M, congrArg (fun v => Outcome.returned (some v)) (rf_va E.2.2.1 r), ⟨r, rfl, hw⟩, ?_⟩, ?_⟩) a3 hd hlk)
  · show rf E.2.2.1 r = .null ∨ ∃ a, rf E.2.2.1 r = .ref a
    rcases rf_or E.2.2.1 r with ⟨-, h⟩ | ⟨-, h⟩
    · exact Or.inl h
    · exact Or.inr ⟨_, h⟩
  · show Rep E n2 M t.heap
    rw [ht]; exact a2
  · exact g_frame (s := s) h1 h2 hn a2 ht
/-- what the tables say of a call -/
def CW (own : String) (ix : Nat) (y : MethodName) (cc : ByteArray) (maxL : Nat) (ret : Option FieldType) (na : Nat) : Prop :=
  (y.cls ≠ "java/lang/invoke/MethodHandle" ∧ y.cls ≠ "java/lang/invoke/VarHandle") ∧ (parseMethodDescriptor y.desc).map (fun d => d.parameters.length) = some na ∧ Cond.code y cc maxL ret ∈ lwG ∧ Cond.initialized y.cls ∈ lwG ∧ Cond.methodLink own ix y ∈ lwG
def RmOk (rm R : Room) (maxL : Nat) : Prop := rm.frames + 1 ≤ R.frames ∧ 8 + (maxL + 11) + rm.locals ≤ R.locals
set_option maxHeartbeats 200000 in
theorem cb_of {y : MethodName} {bytes : ByteArray} {maxL na ix : Nat} {ret : Option FieldType} {rm : Room} (X : CX E p s m c cc nL own) (d : Drawn) (h : CW own ix y bytes maxL ret na) (hR : RmOk rm R maxL) : CallB R (s.setDrawn d) args own ix y bytes maxL ret [Cond.code y bytes maxL ret] rm rm.cells rm.slots na := by
  obtain ⟨h1, h2, h3, h4, h5⟩ := h
  refine ⟨rfl, rfl, hR.1, hR.2, fun w hw a' U hW => ?_, List.mem_singleton.mpr rfl, X.w h3 args d, X.w h4 args d, h1, fun sig hs => ?_, X.w h5 args d⟩
  · rw [List.mem_singleton.mp hw]
    exact word_at (s := s.setDrawn d) (args := args) hW (lawGood _ h3) (X.w h3 args d)
  · rw [hs] at h2
    exact (Option.some.inj h2).symm
set_option maxHeartbeats 200000 in
theorem blindP {av : List Value} {K : Prop} : FrameBlind (va_Pc av (fun U => Rep E n M U.heap ∧ KK E U)) := fun a U g mk q => ⟨q.1, q.2.1, KK.calls g mk a q.2.2⟩
set_option maxHeartbeats 200000 in
theorem preP {H : Heap} {av : List AV} (X : CX E p s m c cc nL own) (d : Drawn) (a2 : Rep E n M H) : ∀ U : State, U.heap = H → (s.setDrawn d).WarmedH U.vm → va_Pc (av.map (toV E.2.2.1)) (fun U => Rep E n M U.heap ∧ KK E U) (av.map (toV E.2.2.1)).toArray U := fun U hU hW => ⟨rfl, by rw [hU]; exact a2, KK.moved (s := s.setDrawn d) hW (X.dr d).2.2.2.2⟩
theorem cats : ∀ l : List AV, ((l.map (toV E.2.2.1)).map fun v => v.category).sum = szA l
  | [] => rfl
  | a :: l => by
    rw [List.map_cons, List.map_cons, List.sum_cons, cats l, toV_cat]
    rfl
set_option maxHeartbeats 200000 in
theorem recvP {H : Heap} {r ci : Nat} (X : CX E p s m c cc nL own) (d : Drawn) (a2 : Rep E n M H) (hci : ci < 7) (hn : r ≤ n) (hk : kd r = (ci, 0)) : r ≠ 0 ∧ ∃ cellB : Cell, H[E.2.2.1 + r]? = some cellB ∧ cellB.vm.isStatics = false ∧ (s.setDrawn d).vm.findClass (fC ci) = some cellB.cls := by
  have h0 : r ≠ 0 := kd0 (by omega) hk
  have hc := a2.2.2 r (by omega) hn
  unfold cellAt at hc
  rw [hk] at hc
  rw [if_pos hci] at hc
  obtain ⟨cell, q1, q2, q3, q4⟩ := hc
  exact ⟨h0, cell, q1, by rw [q3]; rfl, by rw [q2]; exact (X.2.2.2.2.1.1 ci _ (cl_at hci)).2.1⟩
set_option maxHeartbeats 200000 in
/-- the call of a method of an object, run -/
theorem g_runV {y : MethodName} {bytes : ByteArray} {maxL na ix ci r : Nat} {ret : Option FieldType} {rm : Room} {As rest : List AV} {Qc : Array Value → State → Outcome → State → Prop} {H : Heap} {locs : List Loc} {ls : Array Slot} {d : Drawn} (X : CX E p s m c cc nL own) (hy : CW own ix y bytes maxL ret na) (hi : Cond.instanceMethod y ∈ lwG ∧ Cond.selects (fC ci) y y ∈ lwG ∧ ci < 7) (hR : RmOk rm R maxL) (hd : decode cc pc = .ok (.invokevirtual ix, 3)) (hM : CT E l y bytes maxL ret rm n M (rV r :: As) Qc) (hr : r ≤ n ∧ kd r = (ci, 0)) (hna : As.length = na) (hst : st = As.reverse ++ rV r :: rest) (h8 : szA rest ≤ 8) (hf : cells + rm.cells ≤ R.cells ∧ slots + rm.slots ≤ R.slots) (a2 : Rep E n M H) (a4 : ls.size = nL) :
    va_RunD lw_cs p l e R (s.setDrawn d) m args below meth c H locs cells slots rm.cells rm.slots (F0 m pc ls (st.map (toV E.2.2.1))) (rest.map (toV E.2.2.1)) (Qc ((rV r :: As).map (toV E.2.2.1)).toArray) (Ab E) := by
  obtain ⟨h0, hcell⟩ := recvP X d a2 hi.2.2 hr.1 hr.2
  have e1 : ((rV r :: As).map (toV E.2.2.1)) = Value.ref (E.2.2.1 + r) :: As.map (toV E.2.2.1) := by
    show rf E.2.2.1 r :: _ = _
    rw [rf_pos h0]
  rw [e1]
  refine va_runV_D (C := fC ci) (b := E.2.2.1 + r) (As := As.map (toV E.2.2.1)) (Ts := lwG) ⟨X.1, X.2.1, X.2.2.1, X.2.2.2.1, fun w h => X.w h args d⟩ hM ⟨cb_of X d hy hR, X.w hi.1 args d, X.w hi.2.1 args d⟩ ⟨blindP (K := True), hcell, fun U hU hW => ?_⟩ rfl (by rw [List.length_map]; exact hna) a4 ?_ ?_ hd hf
  · rw [← e1]; exact preP X d a2 U hU hW
  · show st.map (toV E.2.2.1) = _
    rw [hst, List.map_append, List.map_reverse, List.map_cons]
    show _ ++ rf E.2.2.1 r :: _ = _
    rw [rf_pos h0]
  · show 2 * 0 + _ ≤ 8
    rw [cats]; omega
set_option maxHeartbeats 200000 in
theorem g_runI {y : MethodName} {bytes : ByteArray} {maxL na ix r : Nat} {rm : Room} {As rest : List AV} {Qc : Array Value → State → Outcome → State → Prop} {H : Heap} {locs : List Loc} {ls : Array Slot} {d : Drawn} (X : CX E p s m c cc nL own) (hy : CW own ix y bytes maxL none na) (hi : y.name = "<init>" ∧ Cond.instanceMethod y ∈ lwG) (hR : RmOk rm R maxL) (hd : decode cc pc = .ok (.invokespecial ix, 3)) (hM : CT E l y bytes maxL none rm n M (rV r :: As) Qc) (h0 : r ≠ 0) (hna : As.length = na) (hst : st = As.reverse ++ rV r :: rest) (h8 : szA rest ≤ 8) (hf : cells + rm.cells ≤ R.cells ∧ slots + rm.slots ≤ R.slots) (a2 : Rep E n M H) (a4 : ls.size = nL) :
    va_RunD lw_cs p l e R (s.setDrawn d) m args below meth c H locs cells slots rm.cells rm.slots (F0 m pc ls (st.map (toV E.2.2.1))) (rest.map (toV E.2.2.1)) (Qc ((rV r :: As).map (toV E.2.2.1)).toArray) (Ab E) := by
  have e1 : ((rV r :: As).map (toV E.2.2.1)) = Value.ref (E.2.2.1 + r) :: As.map (toV E.2.2.1) := by
    show rf E.2.2.1 r :: _ = _
    rw [rf_pos h0]
  rw [e1]
  refine va_runI_D (b := E.2.2.1 + r) (As := As.map (toV E.2.2.1)) (Ts := lwG) ⟨X.1, X.2.1, X.2.2.1, X.2.2.2.1, fun w h => X.w h args d⟩ hM ⟨cb_of X d hy hR, hi.1, X.w hi.2 args d⟩ ⟨blindP (K := True), fun U hU hW => ?_⟩ rfl (by rw [List.length_map]; exact hna) a4 ?_ ?_ hd hf
  · rw [← e1]; exact preP X d a2 U hU hW
  · show st.map (toV E.2.2.1) = _
    rw [hst, List.map_append, List.map_reverse, List.map_cons]
    show _ ++ rf E.2.2.1 r :: _ = _
    rw [rf_pos h0]
  · show 2 * 0 + _ ≤ 8
    rw [cats]; omega
set_option maxHeartbeats 200000 in
theorem g_runS {y : MethodName} {bytes : ByteArray} {maxL na ix : Nat} {ret : Option FieldType} {rm : Room} {As rest : List AV} {Qc : Array Value → State → Outcome → State → Prop} {H : Heap} {locs : List Loc} {ls : Array Slot} {d : Drawn} (X : CX E p s m c cc nL own) (hy : CW own ix y bytes maxL ret na) (hi : Cond.static y ∈ lwG) (hR : RmOk rm R maxL) (hd : decode cc pc = .ok (.invokestatic ix, 3)) (hM : CT E l y bytes maxL ret rm n M As Qc) (hna : As.length = na) (hst : st = As.reverse ++ rest) (h8 : szA rest ≤ 8) (hf : cells + rm.cells ≤ R.cells ∧ slots + rm.slots ≤ R.slots) (a2 : Rep E n M H) (a4 : ls.size = nL) :
    va_RunD lw_cs p l e R (s.setDrawn d) m args below meth c H locs cells slots rm.cells rm.slots (F0 m pc ls (st.map (toV E.2.2.1))) (rest.map (toV E.2.2.1)) (Qc (As.map (toV E.2.2.1)).toArray) (Ab E) := by
  refine va_runS_D (As := As.map (toV E.2.2.1)) (Ts := lwG) ⟨X.1, X.2.1, X.2.2.1, X.2.2.2.1, fun w h => X.w h args d⟩ hM ⟨cb_of X d hy hR, X.w hi args d⟩ ⟨blindP (K := True), preP X d a2⟩ rfl (by rw [List.length_map]; exact hna) a4 ?_ ?_ hd hf
  · show st.map (toV E.2.2.1) = _
    rw [hst, List.map_append, List.map_reverse]
  · show 2 * 0 + _ ≤ 8
    rw [cats]; omega
/-- what the tables say of a call of a private method of a nest mate -/
def CN (y : MethodName) (cc : ByteArray) (maxL : Nat) (ret : Option FieldType) (na : Nat) : Prop :=
  (y.cls ≠ "java/lang/invoke/MethodHandle" ∧ y.cls ≠ "java/lang/invoke/VarHandle") ∧ (parseMethodDescriptor y.desc).map (fun d => d.parameters.length) = some na ∧ Cond.code y cc maxL ret ∈ lwG ∧ Cond.initialized y.cls ∈ lwG ∧ Cond.static y ∈ lwG
set_option maxHeartbeats 200000 in
theorem g_runN {y : MethodName} {bytes : ByteArray} {maxL na ix : Nat} {host : String} {ret : Option FieldType} {rm : Room} {As rest : List AV} {Qc : Array Value → State → Outcome → State → Prop} {H : Heap} {locs : List Loc} {ls : Array Slot} {d : Drawn} (X : CX E p s m c cc nL own) (hy : CN y bytes maxL ret na) (hi : KK E s → va_Nw (.methodLinkNest own ix y host) s) (hR : RmOk rm R maxL) (hd : decode cc pc = .ok (.invokestatic ix, 3)) (hM : CT E l y bytes maxL ret rm n M As Qc) (hna : As.length = na) (hst : st = As.reverse ++ rest) (h8 : szA rest ≤ 8) (hf : cells + rm.cells ≤ R.cells ∧ slots + rm.slots ≤ R.slots) (a2 : Rep E n M H) (a4 : ls.size = nL) :
    va_RunD lw_cs p l e R (s.setDrawn d) m args below meth c H locs cells slots rm.cells rm.slots (F0 m pc ls (st.map (toV E.2.2.1))) (rest.map (toV E.2.2.1)) (Qc (As.map (toV E.2.2.1)).toArray) (Ab E) := by
  obtain ⟨h1, h2, h3, h4, h5⟩ := hy
  refine va_runSN_D (n := na) (host := host) (As := As.map (toV E.2.2.1)) (Ts := lwG) ⟨X.1, X.2.1, X.2.2.1, X.2.2.2.1, fun w h => X.w h args d⟩ hM ⟨⟨⟨rfl, rfl, hR.1, hR.2, fun w hw a' U hW => ?_, List.mem_singleton.mpr rfl⟩, X.w h3 args d, X.w h4 args d, h1, fun sig hs => ?_, va_Nw.use (U := s.setDrawn d) rfl (hi X.2.2.2.2)⟩, X.w h5 args d, trivial⟩ ⟨blindP (K := True), preP X d a2⟩ rfl (by rw [List.length_map]; exact hna) a4 ?_ ?_ hd hf
  · rw [List.mem_singleton.mp hw]
    exact word_at (s := s.setDrawn d) (args := args) hW (lawGood _ h3) (X.w h3 args d)
  · rw [hs] at h2
    exact (Option.some.inj h2).symm
  · show st.map (toV E.2.2.1) = _
    rw [hst, List.map_append, List.map_reverse]
  · show 2 * 0 + _ ≤ 8
    rw [cats]; omega
set_option maxHeartbeats 200000 in
/-- behind a call -/
theorem g_calli {K : Int32 → Mem → Prop} {a : Array Value} {rest : List AV} {mc ms : Nat} {pc' : Nat} (hp : pc' = pc + 3) (hr : ∀ (H : Heap) (locs : List Loc) (ls : Array Slot) (d : Drawn), Rep E n M H → ls.size = nL → va_RunD lw_cs p l e R (s.setDrawn d) m args below meth c H locs cells slots mc ms (F0 m pc ls (st.map (toV E.2.2.1))) (rest.map (toV E.2.2.1)) (PI E n2 K a) (Ab E)) (kk : ∀ (v : Int32) (M2 : Mem), K v M2 → G E p l e R s m args below meth c nL n2 M2 (cells + mc) (slots + ms) Q pc' lv (iV v :: rest)) : G E p l e R s m args below meth c nL n M cells slots Q pc lv st := by
  subst hp
  intro H locs ls d a1 a2 a3 a4
  refine va_calliD a1 (hr H locs ls d a2 a4.1) (A0 := Ab E) (H0 := H) ⟨Nat.le_refl _, fun _ _ _ => rfl, a3⟩ (fun q _ h => h) (fun q h => h) (fun v u t H1 locs1 ht hvm hw hB hz hk hS d' hd' => ?_)
  exact kk v u hw H1 locs1 ls d' hd' (by rw [← ht]; exact hB) hS.2.2 a4
set_option maxHeartbeats 200000 in
theorem g_calll {K : Int64 → Mem → Prop} {a : Array Value} {rest : List AV} {mc ms : Nat} {pc' : Nat} (hp : pc' = pc + 3) (hr : ∀ (H : Heap) (locs : List Loc) (ls : Array Slot) (d : Drawn), Rep E n M H → ls.size = nL → va_RunD lw_cs p l e R (s.setDrawn d) m args below meth c H locs cells slots mc ms (F0 m pc ls (st.map (toV E.2.2.1))) (rest.map (toV E.2.2.1)) (PL E n2 K a) (Ab E)) (kk : ∀ (v : Int64) (M2 : Mem), K v M2 → G E p l e R s m args below meth c nL n2 M2 (cells + mc) (slots + ms) Q pc' lv (lV v :: rest)) : G E p l e R s m args below meth c nL n M cells slots Q pc lv st := by
  subst hp
  intro H locs ls d a1 a2 a3 a4
  refine va_calllD a1 (hr H locs ls d a2 a4.1) (A0 := Ab E) (H0 := H) ⟨Nat.le_refl _, fun _ _ _ => rfl, a3⟩ (fun q _ h => h) (fun q h => h) (fun v u t H1 locs1 ht hvm hw hB hz hk hS d' hd' => ?_)
  exact kk v u hw H1 locs1 ls d' hd' (by rw [← ht]; exact hB) hS.2.2 a4
set_option maxHeartbeats 200000 in
theorem g_calld {K : UInt64 → Mem → Prop} {a : Array Value} {rest : List AV} {mc ms : Nat} {pc' : Nat} (hp : pc' = pc + 3) (hr : ∀ (H : Heap) (locs : List Loc) (ls : Array Slot) (d : Drawn), Rep E n M H → ls.size = nL → va_RunD lw_cs p l e R (s.setDrawn d) m args below meth c H locs cells slots mc ms (F0 m pc ls (st.map (toV E.2.2.1))) (rest.map (toV E.2.2.1)) (PD E n2 K a) (Ab E)) (kk : ∀ (v : UInt64) (M2 : Mem), K v M2 → G E p l e R s m args below meth c nL n2 M2 (cells + mc) (slots + ms) Q pc' lv (dV v :: rest)) : G E p l e R s m args below meth c nL n M cells slots Q pc lv st := by
  subst hp
  intro H locs ls d a1 a2 a3 a4
  refine va_calldD a1 (hr H locs ls d a2 a4.1) (A0 := Ab E) (H0 := H) ⟨Nat.le_refl _, fun _ _ _ => rfl, a3⟩ (fun q _ h => h) (fun q h => h) (fun v u t H1 locs1 ht hvm hw hB hz hk hS d' hd' => ?_)
  exact kk v u hw H1 locs1 ls d' hd' (by rw [← ht]; exact hB) hS.2.2 a4
set_option maxHeartbeats 200000 in
theorem g_callv {K : Mem → Prop} {a : Array Value} {rest : List AV} {mc ms : Nat} {pc' : Nat} (hp : pc' = pc + 3) (hr : ∀ (H : Heap) (locs : List Loc) (ls : Array Slot) (d : Drawn), Rep E n M H → ls.size = nL → va_RunD lw_cs p l e R (s.setDrawn d) m args below meth c H locs cells slots mc ms (F0 m pc ls (st.map (toV E.2.2.1))) (rest.map (toV E.2.2.1)) (PV E n2 K a) (Ab E)) (kk : ∀ (M2 : Mem), K M2 → G E p l e R s m args below meth c nL n2 M2 (cells + mc) (slots + ms) Q pc' lv rest) : G E p l e R s m args below meth c nL n M cells slots Q pc lv st := by
  subst hp
  intro H locs ls d a1 a2 a3 a4
  refine va_callvD a1 (hr H locs ls d a2 a4.1) (A0 := Ab E) (H0 := H) ⟨Nat.le_refl _, fun _ _ _ => rfl, a3⟩ (fun q _ h => h) (fun q h => h) (fun u t H1 locs1 ht hvm hw hB hz hk hS d' hd' => ?_)
  exact kk u hw H1 locs1 ls d' hd' (by rw [← ht]; exact hB) hS.2.2 a4
set_option maxHeartbeats 200000 in
theorem g_callr {K : Nat → Mem → Prop} {a : Array Value} {rest : List AV} {mc ms : Nat} {pc' : Nat} (hp : pc' = pc + 3) (hr : ∀ (H : Heap) (locs : List Loc) (ls : Array Slot) (d : Drawn), Rep E n M H → ls.size = nL → va_RunD lw_cs p l e R (s.setDrawn d) m args below meth c H locs cells slots mc ms (F0 m pc ls (st.map (toV E.2.2.1))) (rest.map (toV E.2.2.1)) (PR E n2 K a) (Ab E)) (kk : ∀ (v : Nat) (M2 : Mem), K v M2 → G E p l e R s m args below meth c nL n2 M2 (cells + mc) (slots + ms) Q pc' lv (rV v :: rest)) : G E p l e R s m args below meth c nL n M cells slots Q pc lv st := by
  subst hp
  intro H locs ls d a1 a2 a3 a4
  refine va_callqD a1 (hr H locs ls d a2 a4.1) (A0 := Ab E) (H0 := H) ⟨Nat.le_refl _, fun _ _ _ => rfl, a3⟩ (fun q _ h => h) (fun q h => h) (fun ro u t H1 locs1 ht hvm hw hB hz hk hS d' hd' => ?_)
  obtain ⟨v, rfl, hw⟩ := hw
  have h := kk v u hw H1 locs1 ls d' hd' (by rw [← ht]; exact hB) hS.2.2 a4
  rw [← rf_va]
  exact h
set_option maxHeartbeats 200000 in
theorem g_objInit {ix r : Nat} {P : Prop} (X : CX E p s m c cc nL own) (hl : Cond.methodLink own ix objectInit ∈ lwG) (hi : Cond.instanceMethod objectInit ∈ lwG ∧ Cond.code objectInit ⟨#[0xb1]⟩ 1 none ∈ lwG) (hd : decode cc pc = .ok (.invokespecial ix, 3)) (h8 : szA st ≤ 8) (hR : 1 ≤ R.frames ∧ 20 ≤ R.locals) (hw : r ≠ 0 ∧ P) (kk : P → G E p l e R s m args below meth c nL n M cells slots Q (pc + 3) lv st) : G E p l e R s m args below meth c nL n M cells slots Q pc lv (rV r :: st) := by
  intro H locs ls d a1 a2 a3 a4
  have Y := X.dr d
  have Z : 2 * (F0 m pc ls (.ref (E.2.2.1 + r) :: st.map (toV E.2.2.1))).monitorRoom + ((st.map (toV E.2.2.1)).map fun v => v.category).sum + 12 ≤ R.locals := by
    show 2 * 0 + _ + 12 ≤ _
    rw [cats]; omega
  have hs : ls.size = c.maxLocals := by rw [X.2.2.1]; exact a4.1
  change W _ _ _ _ _ _ _ _ _ _ _ _ _ _ _ (F0 m pc ls (rf E.2.2.1 r :: st.map (toV E.2.2.1)))
  rw [rf_pos hw.1]
  exact W.objInit (rest := st.map (toV E.2.2.1)) Y.1 Y.2.1 Y.2.2.2.1 (Y.w0 hl args) (Y.w0 hi.1 args) (Y.w0 hi.2 args) rfl hs rfl hd hR.1 Z (kk hw.2 H locs ls d a1 a2 a3 a4)
set_option maxHeartbeats 200000 in
theorem g_widen {k z : Nat} (h1 : cells ≤ k) (h2 : slots ≤ z) (kk : G E p l e R s m args below meth c nL n M k z Q pc lv st) : G E p l e R s m args below meth c nL n M cells slots Q pc lv st := fun H locs ls d a1 a2 a3 a4 => W.widen h1 h2 (kk H locs ls d a1 a2 a3 a4)
end GC
end
section
/-! new cells -/
def sz (r : Nat) : Nat := if (kd r).1 < 7 then fN (kd r).1 else (kd r).2
def SL : Nat → Nat
  | 0 => 0
  | n + 1 => SL n + sz (n + 1)
theorem SL_mono (n k : Nat) : SL n ≤ SL (n + k) := by
  induction k with
  | zero => exact Nat.le_refl _
  | succ k ih => exact Nat.le_trans ih (Nat.le_add_right _ _)
theorem SL_le {a b : Nat} (h : a ≤ b) : SL a ≤ SL b := by
  have := SL_mono a (b - a)
  rwa [Nat.add_sub_cancel' h] at this
theorem dflt_fv (b r : Nat) (M : Mem) (ci k : Nat) : defaultValue (tyF ci k) = fv b (zr M r) (tyF ci k) r k := by
  unfold tyF
  split
  · unfold tyX0; split <;> simp [fv, gI, gD, gL, gR, zr, defaultValue, rf]
  · unfold tyX1; split <;> simp [fv, gI, gD, gL, gR, zr, defaultValue, rf]
  · unfold tyX2; split <;> simp [fv, gI, gD, gL, gR, zr, defaultValue, rf]
  · unfold tyX3; split <;> simp [fv, gI, gD, gL, gR, zr, defaultValue, rf]
  · unfold tyX4; split <;> simp [fv, gI, gD, gL, gR, zr, defaultValue, rf]
  · unfold tyX5; split <;> simp [fv, gI, gD, gL, gR, zr, defaultValue, rf]
  · unfold tyX6; split <;> simp [fv, gI, gD, gL, gR, zr, defaultValue, rf]
theorem Rep_new {E : Gl} {n : Nat} {M : Mem} {H H2 : Heap} (hR : Rep E n M H) (z : H2.size = H.size + 1) (o : ∀ q, q < H.size → H2[q]? = H[q]?) (hc : cellAt E (zr M (n + 1)) (n + 1) H2) : Rep E (n + 1) (zr M (n + 1)) H2 := by
  obtain ⟨h1, h2, h3⟩ := hR
  refine ⟨by rw [z, h1]; omega, fun q hq => (o q (by omega)).trans (h2 q hq), fun q q1 q2 => ?_⟩
  by_cases hqr : q = n + 1
  · rw [hqr]; exact hc
  · exact cellAt_MU (MU_zr M (n + 1)) hqr (o _ (by omega)) (h3 q q1 (by omega))
section GN
variable {E : Gl} {p : Program} {l : Launch} {e : Env} {R : Room} {s : State} {m : MethodId} {args : Array Value} {below : List Frame} {meth : Method} {c : Code} {nL n n0 : Nat} {M : Mem} {Q : State → Prop} {cc : ByteArray} {own : String} {pc : Nat} {lv : List (Nat × AV)} {st : List AV}
/-- there is room for the cell n + 1, by what has been made since n0 -/
def Al (R : Room) (n0 n : Nat) : Prop := n0 ≤ n ∧ n + 1 ≤ n0 + R.cells ∧ SL (n + 1) ≤ SL n0 + R.slots
set_option maxHeartbeats 200000 in
theorem g_new {P : Prop} (X : CX E p s m c cc nL own) {ix ci : Nat} (hd : decode cc pc = .ok (.new ix, 3)) (hci : ci < 7) (hx : Cond.classLink own ix (fC ci) ∈ lwG ∧ Cond.instantiable (fC ci) (fN ci) ∈ lwG ∧ Cond.initialized (fC ci) ∈ lwG) (hw : (kd (n + 1) = (ci, 0) ∧ Al R n0 n) ∧ P) (kk : P → G E p l e R s m args below meth c nL (n + 1) (zr M (n + 1)) (n + 1 - n0) (SL (n + 1) - SL n0) Q (pc + 3) lv (rV (n + 1) :: st)) : G E p l e R s m args below meth c nL n M (n - n0) (SL n - SL n0) Q pc lv st := by
  intro H locs ls d a1 a2 a3 a4
  have X := X.dr d
  obtain ⟨⟨hk, hA1, hA2, hA3⟩, hP⟩ := hw
  have hsz : SL (n + 1) = SL n + fN ci := by
    show SL n + sz (n + 1) = _
    unfold sz
    rw [hk, if_pos hci]
  have hm := SL_le hA1
  have hKn := X.2.2.2.2.1.1 ci _ (cl_at hci)
  have hsize : H.size = E.2.2.1 + (n + 1) := by rw [a2.1]; omega
  refine W.newcK X.1 X.2.1 X.2.2.2.1 (X.w0 hx.1 args) (X.w0 hx.2.1 args) (X.w0 hx.2.2 args) rfl hd (by omega) (by omega) hKn.2.1 hsize (fun H1 kC hkC e1 z1 o1 => ?_)
  have e9 : n - n0 + 1 = n + 1 - n0 := by omega
  have e8 : SL n - SL n0 + fN ci = SL (n + 1) - SL n0 := by omega
  rw [e9, e8]
  have h2 : Rep E (n + 1) (zr M (n + 1)) H1 := by
    refine Rep_new a2 (by rw [z1, hsize]) (fun q hq => o1 q (by rw [← hsize]; exact hq)) ?_
    unfold cellAt
    rw [hk, if_pos hci]
    exact (u_born (tyF ci) (X.t args) (cl_in hci) hKn hkC e1 (cl_ty hci)).to (fun k _ => dflt_fv E.2.2.1 (n + 1) M ci k)
  have h3 := kk hP H1 locs ls d a1 h2 a3 a4
  exact h3
set_option maxHeartbeats 200000 in
theorem g_newa {P : Prop} (X : CX E p s m c cc nL own) {at_ : ArrayType} {x : Int32} (k L : Nat) (hd : decode cc pc = .ok (.newarray at_, 2)) (hk7 : (k = 7 ∧ newarray.typeOf at_ = .int) ∨ (k = 8 ∧ newarray.typeOf at_ = .double) ∨ (k = 9 ∧ newarray.typeOf at_ = .char)) (hx : Cond.arrayClass (newarray.typeOf at_) ∈ lwG) (hL : x = nI L ∧ L < 4096) (hw : (kd (n + 1) = (k, L) ∧ Al R n0 n) ∧ P) (kk : P → G E p l e R s m args below meth c nL (n + 1) (zr M (n + 1)) (n + 1 - n0) (SL (n + 1) - SL n0) Q (pc + 2) lv (rV (n + 1) :: st)) : G E p l e R s m args below meth c nL n M (n - n0) (SL n - SL n0) Q pc lv (iV x :: st) := by
  intro H locs ls d a1 a2 a3 a4
  have X := X.dr d
  obtain ⟨⟨hk, hA1, hA2, hA3⟩, hP⟩ := hw
  obtain ⟨rfl, hL2⟩ := hL
  have hk13 : ¬ k < 7 := by omega
  have hsz : SL (n + 1) = SL n + L := by
    show SL n + sz (n + 1) = _
    unfold sz
    rw [hk, if_neg hk13]
  have hm := SL_le hA1
  have hsize : H.size = E.2.2.1 + (n + 1) := by rw [a2.1]; omega
  have hcb : componentBytes (newarray.typeOf at_) ≤ 8 := by
    rcases hk7 with ⟨-, h⟩ | ⟨-, h⟩ | ⟨-, h⟩ <;> rw [h] <;> decide
  have hb : L * componentBytes (newarray.typeOf at_) ≤ 536870912 := Nat.le_trans (Nat.mul_le_mul (Nat.le_of_lt hL2) hcb) (by decide)
  refine va_newaK (N := L) X.1 X.2.1 (X.w0 hx args) rfl hd rfl (nI_pos (by omega)) (nI_clamp (by omega)) hb (by omega) (by omega) hsize (fun H1 cA e1 z1 o1 hAr hNm => ?_)
  have e9 : n - n0 + 1 = n + 1 - n0 := by omega
  have e8 : SL n - SL n0 + L = SL (n + 1) - SL n0 := by omega
  rw [e9, e8]
  have hcA : cA = E.2.1 k ∧ ∀ j, defaultValue (newarray.typeOf at_) = av E.2.2.1 (zr M (n + 1)) k (n + 1) j := by
    have K := X.2.2.2.2.1.2
    rcases hk7 with ⟨q, h⟩ | ⟨q, h⟩ | ⟨q, h⟩ <;> rw [h] at hNm ⊢ <;> subst q
    · have h9 : (s.setDrawn d).vm.findClass ("[" ++ FieldType.int.toString) = some (E.2.1 7) := (K 0 _ rfl).2
      exact ⟨Option.some.inj (hNm.symm.trans h9), fun j => by simp [av, gI, zr, defaultValue]⟩
    · have h9 : (s.setDrawn d).vm.findClass ("[" ++ FieldType.double.toString) = some (E.2.1 8) := (K 1 _ rfl).2
      exact ⟨Option.some.inj (hNm.symm.trans h9), fun j => by simp [av, gD, zr, defaultValue]⟩
    · have h9 : (s.setDrawn d).vm.findClass ("[" ++ FieldType.char.toString) = some (E.2.1 9) := (K 2 _ rfl).2
      exact ⟨Option.some.inj (hNm.symm.trans h9), fun j => by simp [av, gI, zr, defaultValue]⟩
  have h2 : Rep E (n + 1) (zr M (n + 1)) H1 := by
    refine Rep_new a2 (by rw [z1, hsize]) (fun q hq => o1 q (by rw [← hsize]; exact hq)) ?_
    unfold cellAt
    rw [hk, if_neg hk13, e1, hcA.1]
    congr 2
    funext j
    exact hcA.2 j
  have h3 := kk hP H1 locs ls d a1 h2 a3 a4
  exact h3
set_option maxHeartbeats 200000 in
theorem g_anew {P : Prop} (X : CX E p s m c cc nL own) {ix : Nat} {x : Int32} (k L : Nat) (hd : decode cc pc = .ok (.anewarray ix, 3)) (hk10 : k = 10 ∨ k = 11 ∨ k = 12) (hx : Cond.classLink own ix (fC (elC k)) ∈ lwG) (hL : x = nI L ∧ L < 4096) (hw : (kd (n + 1) = (k, L) ∧ Al R n0 n) ∧ P) (kk : P → G E p l e R s m args below meth c nL (n + 1) (zr M (n + 1)) (n + 1 - n0) (SL (n + 1) - SL n0) Q (pc + 3) lv (rV (n + 1) :: st)) : G E p l e R s m args below meth c nL n M (n - n0) (SL n - SL n0) Q pc lv (iV x :: st) := by
  intro H locs ls d a1 a2 a3 a4
  have X := X.dr d
  obtain ⟨⟨hk, hA1, hA2, hA3⟩, hP⟩ := hw
  obtain ⟨rfl, hL2⟩ := hL
  have hk13 : ¬ k < 7 := by omega
  have hsz : SL (n + 1) = SL n + L := by
    show SL n + sz (n + 1) = _
    unfold sz
    rw [hk, if_neg hk13]
  have hm := SL_le hA1
  have hsize : H.size = E.2.2.1 + (n + 1) := by rw [a2.1]; omega
  have hcl : (nI L).toNatClampNeg = L := nI_clamp (by omega)
  have hAO : va_AO (fC (elC k)) (s.setDrawn d) := by
    rcases hk10 with rfl | rfl | rfl
    · exact X.2.2.2.2.2.2.2.2.2.1
    · exact X.2.2.2.2.2.2.2.2.2.2.1
    · exact X.2.2.2.2.2.2.2.2.1
  have hRA : va_RA (s.setDrawn d) (E.2.1 k) (.object (fC (elC k))) := by
    have K := X.2.2.2.2.1.2
    rcases hk10 with rfl | rfl | rfl
    · exact (K 3 _ rfl).2
    · exact (K 4 _ rfl).2
    · exact (K 5 _ rfl).2
  obtain ⟨-, -, -, -, -, hNm2⟩ := hRA
  refine W.anew X.1 X.2.1 X.2.2.2.1 (X.w0 hx args) (va_AO.use hAO) rfl hd rfl (nI_pos (by omega)) (by rw [hcl]; omega) (by omega) (by rw [hcl]; omega) (fun cA kA comp f1 f2 f3 f4 => ?_)
  rw [hcl]
  have e9 : n - n0 + 1 = n + 1 - n0 := by omega
  have e8 : SL n - SL n0 + L = SL (n + 1) - SL n0 := by omega
  rw [e9, e8]
  have hcA : cA = E.2.1 k := Option.some.inj (f1.symm.trans hNm2)
  generalize hH1 : H.push ({ cls := cA, slots := Array.replicate L .null, vm := .none } : Cell) = H1
  have z1 : H1.size = H.size + 1 := by rw [← hH1, Array.size_push]
  have e1 : H1[H.size]? = some (arrV cA L (fun _ => .null)) := by rw [← hH1, Array.getElem?_push_size, ← arrV_new]
  have o1 : ∀ q : Nat, q < H.size → H1[q]? = H[q]? := fun q hq => by rw [← hH1, Array.getElem?_push, if_neg (Nat.ne_of_lt hq)]
  have h2 : Rep E (n + 1) (zr M (n + 1)) H1 := by
    refine Rep_new a2 z1 o1 ?_
    unfold cellAt
    rw [hk, if_neg hk13, ← hsize, e1, hcA]
    congr 2
    funext j
    have n8 : ¬ k = 8 := by omega
    have n9 : ¬ k ≤ 9 := by omega
    simp [av, n8, n9, gR, zr, rf]
  have h3 := kk hP H1 locs ls d a1 h2 a3 a4
  rw [hsize]
  exact h3
end GN
end
section
/-! names for values and memories; the JDK's natives over numbers -/
section GX
variable {E : Gl} {p : Program} {l : Launch} {e : Env} {R : Room} {s : State} {m : MethodId} {args : Array Value} {below : List Frame} {meth : Method} {c : Code} {nL n : Nat} {M : Mem} {cells slots : Nat} {Q : State → Prop} {cc : ByteArray} {own : String} {pc : Nat} {lv : List (Nat × AV)} {st : List AV}
theorem g_topI {v : Int32} (k : ∀ x, x = v → G E p l e R s m args below meth c nL n M cells slots Q pc lv (iV x :: st)) : G E p l e R s m args below meth c nL n M cells slots Q pc lv (iV v :: st) := k v rfl
theorem g_topJ {v : Int64} (k : ∀ x, x = v → G E p l e R s m args below meth c nL n M cells slots Q pc lv (lV x :: st)) : G E p l e R s m args below meth c nL n M cells slots Q pc lv (lV v :: st) := k v rfl
theorem g_topD {v : UInt64} (k : ∀ x, x = v → G E p l e R s m args below meth c nL n M cells slots Q pc lv (dV x :: st)) : G E p l e R s m args below meth c nL n M cells slots Q pc lv (dV v :: st) := k v rfl
theorem g_topF {v : UInt32} (k : ∀ x, x = v → G E p l e R s m args below meth c nL n M cells slots Q pc lv (fV x :: st)) : G E p l e R s m args below meth c nL n M cells slots Q pc lv (fV v :: st) := k v rfl
theorem g_topR {v : Nat} (k : ∀ x, x = v → G E p l e R s m args below meth c nL n M cells slots Q pc lv (rV x :: st)) : G E p l e R s m args below meth c nL n M cells slots Q pc lv (rV v :: st) := k v rfl
theorem g_topM (k : ∀ M2, M2 = M → G E p l e R s m args below meth c nL n M2 cells slots Q pc lv st) : G E p l e R s m args below meth c nL n M cells slots Q pc lv st := k M rfl
set_option maxHeartbeats 200000 in
theorem g_natL2D {P : Prop} {ix : Nat} {b : Int64} (X : CX E p s m c cc nL own) (h1 : Cond.methodLink own ix ⟨"java/lang/Double", "longBitsToDouble", "(J)D"⟩ ∈ lwG) (h2 : Cond.native ⟨"java/lang/Double", "longBitsToDouble", "(J)D"⟩ ∈ lwG) (h3 : Cond.static ⟨"java/lang/Double", "longBitsToDouble", "(J)D"⟩ ∈ lwG) (h4 : Cond.initialized "java/lang/Double" ∈ lwG) (hd : decode cc pc = .ok (.invokestatic ix, 3)) (h8 : szA st ≤ 8) (hR : 1 ≤ R.frames ∧ 24 ≤ R.locals) (hw : vn_snl2d b = false ∧ P) (kk : P → G E p l e R s m args below meth c nL n M cells slots Q (pc + 3) lv (dV b.toUInt64 :: st)) : G E p l e R s m args below meth c nL n M cells slots Q pc lv (lV b :: st) := by
  intro H locs ls d a1 a2 a3 a4
  have X := X.dr d
  have hml : c.maxLocals = ls.size := by rw [X.2.2.1]; exact a4.1.symm
  have hz : ((st.map (toV E.2.2.1)).map fun v => v.category).sum + 15 ≤ R.locals := by rw [cats]; omega
  exact vn_l2d X.1 X.2.1 hml X.2.2.2.1 (X.w0 h1 args) (X.w0 h2 args) (X.w0 h3 args) (X.w0 h4 args) hw.1 hR.1 hz hd (kk hw.2 H locs ls d a1 a2 a3 a4)
set_option maxHeartbeats 200000 in
theorem g_natD2L {ix : Nat} {b : UInt64} (X : CX E p s m c cc nL own) (h1 : Cond.methodLink own ix ⟨"java/lang/Double", "doubleToRawLongBits", "(D)J"⟩ ∈ lwG) (h2 : Cond.native ⟨"java/lang/Double", "doubleToRawLongBits", "(D)J"⟩ ∈ lwG) (h3 : Cond.static ⟨"java/lang/Double", "doubleToRawLongBits", "(D)J"⟩ ∈ lwG) (h4 : Cond.initialized "java/lang/Double" ∈ lwG) (hd : decode cc pc = .ok (.invokestatic ix, 3)) (h8 : szA st ≤ 8) (hR : 1 ≤ R.frames ∧ 24 ≤ R.locals) (kk : G E p l e R s m args below meth c nL n M cells slots Q (pc + 3) lv (lV b.toInt64 :: st)) : G E p l e R s m args below meth c nL n M cells slots Q pc lv (dV b :: st) := by
  intro H locs ls d a1 a2 a3 a4
  have X := X.dr d
  have hml : c.maxLocals = ls.size := by rw [X.2.2.1]; exact a4.1.symm
  have hz : ((st.map (toV E.2.2.1)).map fun v => v.category).sum + 15 ≤ R.locals := by rw [cats]; omega
  exact vn_d2l X.1 X.2.1 hml X.2.2.2.1 (X.w0 h1 args) (X.w0 h2 args) (X.w0 h3 args) (X.w0 h4 args) hR.1 hz hd (kk H locs ls d a1 a2 a3 a4)
set_option maxHeartbeats 200000 in
theorem g_natF2I {ix : Nat} {b : UInt32} (X : CX E p s m c cc nL own) (h1 : Cond.methodLink own ix ⟨"java/lang/Float", "floatToRawIntBits", "(F)I"⟩ ∈ lwG) (h2 : Cond.native ⟨"java/lang/Float", "floatToRawIntBits", "(F)I"⟩ ∈ lwG) (h3 : Cond.static ⟨"java/lang/Float", "floatToRawIntBits", "(F)I"⟩ ∈ lwG) (h4 : Cond.initialized "java/lang/Float" ∈ lwG) (hd : decode cc pc = .ok (.invokestatic ix, 3)) (h8 : szA st ≤ 8) (hR : 1 ≤ R.frames ∧ 24 ≤ R.locals) (kk : G E p l e R s m args below meth c nL n M cells slots Q (pc + 3) lv (iV b.toInt32 :: st)) : G E p l e R s m args below meth c nL n M cells slots Q pc lv (fV b :: st) := by
  intro H locs ls d a1 a2 a3 a4
  have X := X.dr d
  have hml : c.maxLocals = ls.size := by rw [X.2.2.1]; exact a4.1.symm
  have hz : ((st.map (toV E.2.2.1)).map fun v => v.category).sum + 15 ≤ R.locals := by rw [cats]; omega
  exact vn_f2i X.1 X.2.1 hml X.2.2.2.1 (X.w0 h1 args) (X.w0 h2 args) (X.w0 h3 args) (X.w0 h4 args) hR.1 hz hd (kk H locs ls d a1 a2 a3 a4)
end GX
end
section
/-! methods of classes some of whose methods the machine runs by entries of its own (java/lang/Float) -/
theorem MetD_ofWF {cs : List Choice} {l : Launch} {y : MethodName} {ws ws' : List Cond} {rm : Room} {Pc : Array Value → State → Prop} {Qc : Array Value → State → Outcome → State → Prop} {mc ms : Nat} {free : Addr → Prop} {cc : ByteArray} {maxL : Nat} {ret : Option FieldType}
    (hy : plainFor y = true) (hw : ws = Cond.code y cc maxL ret :: ws')
    (body : ∀ p e s m args below meth c s₁, BodyLoose p l y (headSpec ws rm) cc maxL ret e s m args below meth c s₁ → c.maxLocals = maxL → Pc args s → s.drawn.sameBut s.drawn cs →
      W p l e (headSpec ws rm).room (s.setDrawn s.drawn) m args below meth c s.heap [] 0 0 (MQD cs below Qc args s mc ms free) (entryFrame m args maxL)) : MetD cs l y ws rm Pc Qc mc ms free := by
  refine MetFree.of_bodySF (code := cc) (maxLocals := maxL) (ret := ret) hy ?_ ?_
  · intro args s m h hn
    obtain ⟨meth, c, h1, h2, h3, h4, h5, h6, -, -⟩ := Cond.code_spec hn (atoms_spec (ws := ws) h _ (by rw [hw]; exact List.mem_cons_self))
    exact ⟨meth, c, h1, h2, h3, h4, h5, h6⟩
  · intro p e s m args below meth c s₁ B hml hP _
    have hh0 : s₁.heap = s.heap := by rw [B.state]; rfl
    have X0 : Stand p l e (headSpec ws rm).room (s.setDrawn s.drawn) m args below meth c s₁ [] 0 0 := Stand.of_body B
    obtain ⟨t, a1, d, hd, o, b1, b2, b3, b4⟩ := body p e s m args below meth c s₁ B hml hP (Drawn.sameBut.refl _ _) s₁ hh0 X0
    exact ⟨t, o, a1, b1, b2, d, hd, b3, b4⟩
section GF
variable {E : Gl} {n : Nat} {M : Mem} {cc : ByteArray}
set_option maxHeartbeats 200000 in
theorem g_metF {y : MethodName} {maxL : Nat} {ret : Option FieldType} {rm : Room} {av : List AV} {Qc : Array Value → State → Outcome → State → Prop} (l : Launch) (hy : plainFor y = true) (hlen : szA av ≤ maxL)
    (body : ∀ (p : Program) (e : Env) (s : State) (m : MethodId) (args : Array Value) (below : List Frame) (meth : Method) (c : Code), CX E p s m c cc maxL y.cls → meth.sig.returnType = ret → meth.locks = false → meth.name = y.name → s.heap.size = E.2.2.1 + 1 + n → (∀ q, q ≤ E.2.2.1 → s.heap[q]? = E.2.2.2.1[q]?) → G E p l e rm s m args below meth c maxL n M 0 0 (MQD lw_cs below Qc args s rm.cells rm.slots (Ab E)) 0 (lvE 0 av) []) :
    CT E l y cc maxL ret rm n M av Qc := by
  refine MetD_ofWF (cc := cc) (maxL := maxL) (ret := ret) (ws' := []) hy rfl ?_
  intro p e s m args below meth c s₁ B hml hv hd0
  obtain ⟨rfl, hR, hK⟩ := hv
  have hl := lv_entry (av.map (toV E.2.2.1)) (n := maxL) (by rw [szA_sl]; exact hlen)
  rw [lg_entry_eq]
  rw [lvE_args] at hl
  exact body p e s m _ below meth c ⟨B.exec, B.bytes, hml, findClass_of_methodNamed B.named, hK⟩ B.returns B.notSynchronized (name_of_methodNamed B.named B.method).1 hR.1 hR.2.1 s.heap [] _ _ hd0 hR (fun q h => absurd h List.not_mem_nil) hl
end GF
end
section
/-! texts (the class's four constants) and what the JDK's methods over them read -/
abbrev sV (E : Gl) (i : Nat) : AV := .inl (.ref (E.2.2.2.2.1 i))
abbrev tV (E : Gl) (i : Nat) : AV := .inl (.ref (E.2.2.2.2.2 i))
abbrev uV (v : Value) : AV := .inl v
section GS
variable {E : Gl} {p : Program} {l : Launch} {e : Env} {R : Room} {s : State} {m : MethodId} {args : Array Value} {below : List Frame} {meth : Method} {c : Code} {nL n : Nat} {M : Mem} {cells slots : Nat} {Q : State → Prop} {cc : ByteArray} {own : String} {pc : Nat} {lv lv' : List (Nat × AV)} {st : List AV}
theorem g_ishr (X : CX E p s m c cc nL own) {x y : Int32} (hd : decode cc pc = .ok (.ishr, 1)) (kk : G E p l e R s m args below meth c nL n M cells slots Q (pc + 1) lv (iV (x >>> (y &&& 31)) :: st)) : G E p l e R s m args below meth c nL n M cells slots Q pc lv (iV y :: iV x :: st) :=
  fun H locs ls d a1 a2 a3 a4 => lv_ishr X.1 X.2.1 hd (kk H locs ls d a1 a2 a3 a4)
theorem g_aload_nS (X : CX E p s m c cc nL own) {k : Fin 4} {a : Nat} (hd : decode cc pc = .ok (.aload_n k, 1)) (j : Nat) (hl : lv[j]? = some ((k : Nat), .inl (.ref a))) (kk : G E p l e R s m args below meth c nL n M cells slots Q (pc + 1) lv (.inl (.ref a) :: st)) : G E p l e R s m args below meth c nL n M cells slots Q pc lv st :=
  fun H locs ls d a1 a2 a3 a4 => lv_aload_n X.1 X.2.1 hd rfl (lvat a4 hl) (kk H locs ls d a1 a2 a3 a4)
theorem g_ldcS {k i : Nat} {tx : String} (X : CX E p s m c cc nL own) (hd : decode cc pc = .ok (.ldc k, 2)) (hK : KK E s → vk_R own k tx (E.2.2.2.2.1 i) s) (kk : G E p l e R s m args below meth c nL n M cells slots Q (pc + 2) lv (sV E i :: st)) : G E p l e R s m args below meth c nL n M cells slots Q pc lv st := by
  intro H locs ls d a1 a2 a3 a4
  have h := vk_R.same (U := s.setDrawn d) rfl (hK X.2.2.2.2)
  have X := X.dr d
  exact va_ldcS X.1 X.2.1 X.2.2.2.1 h hd (kk H locs ls d a1 a2 a3 a4)
/-- what was there before stays -/
theorem g_vaS (h1 : s.heap.size = E.2.2.1 + 1 + n) (h2 : ∀ q, q ≤ E.2.2.1 → s.heap[q]? = E.2.2.2.1[q]?) {H : Heap} {locs : List Loc} {d : Drawn} (a2 : Rep E n M H) (a3 : ∀ q ∈ locs, Ab E q.base) : va_S (Ab E) (s.setDrawn d).heap H locs := by
  refine ⟨?_, fun q hq hA => ?_, a3⟩
  · show s.heap.size ≤ H.size
    rw [h1, a2.1]
    exact Nat.le_refl _
  · have hq2 : q ≤ E.2.2.1 := Nat.not_lt.mp hA
    exact (a2.2.1 q hq2).trans (h2 q hq2).symm
theorem g_kept (h2 : ∀ q, q ≤ E.2.2.1 → s.heap[q]? = E.2.2.2.1[q]?) (d : Drawn) : ∀ a : Nat, a < E.2.2.2.1.size → ¬ Ab E a → (s.setDrawn d).heap[a]? = E.2.2.2.1[a]? := fun a _ hA => h2 a (Nat.not_lt.mp hA)
set_option maxHeartbeats 200000 in
theorem g_getsC {ix : Nat} (X : CX E p s m c cc nL own) (h1 : s.heap.size = E.2.2.1 + 1 + n) (h2 : ∀ q, q ≤ E.2.2.1 → s.heap[q]? = E.2.2.2.1[q]?) (hl : Cond.fieldLink own ix "java/lang/String" "COMPACT_STRINGS" "Z" ∈ lwG) (hd : decode cc pc = .ok (.getstatic ix, 3)) (kk : G E p l e R s m args below meth c nL n M cells slots Q (pc + 3) lv (iV 1 :: st)) : G E p l e R s m args below meth c nL n M cells slots Q pc lv st := by
  intro H locs ls d a1 a2 a3 a4
  have X := X.dr d
  have hZ : va_Z "java/lang/String" "COMPACT_STRINGS" "Z" (.int 1) (Ab E) (s.setDrawn d) (s.setDrawn d).heap := X.2.2.2.2.2.2.2.2.2.2.2.2.2.1.kept (g_kept h2 d)
  exact va_gets X.1 X.2.1 hZ (g_vaS h1 h2 a2 a3) X.2.2.2.1 (X.w0 hl args) (fun _ h => h) hd (kk H locs ls d a1 a2 a3 a4)
set_option maxHeartbeats 200000 in
theorem g_getsF {P : Value → Prop} {ix : Nat} (X : CX E p s m c cc nL own) (h1 : s.heap.size = E.2.2.1 + 1 + n) (h2 : ∀ q, q ≤ E.2.2.1 → s.heap[q]? = E.2.2.2.1[q]?) (hl : Cond.fieldLink own ix "jdk/internal/util/Preconditions" "SIOOBE_FORMATTER" "Ljava/util/function/BiFunction;" ∈ lwG) (hd : decode cc pc = .ok (.getstatic ix, 3)) (hw : ∀ v : Value, v.category = 1 → P v) (kk : ∀ v : Value, v.category = 1 → P v → G E p l e R s m args below meth c nL n M cells slots Q (pc + 3) lv (uV v :: st)) : G E p l e R s m args below meth c nL n M cells slots Q pc lv st := by
  intro H locs ls d a1 a2 a3 a4
  have X := X.dr d
  rcases X.2.2.2.2.2.2.2.2.2.2.2.2.2.2.kept (g_kept h2 d) with hZ | ⟨t, hZ⟩
  · exact va_gets X.1 X.2.1 hZ (g_vaS h1 h2 a2 a3) X.2.2.2.1 (X.w0 hl args) (fun _ h => h) hd (kk _ rfl (hw _ rfl) H locs ls d a1 a2 a3 a4)
  · exact va_gets X.1 X.2.1 hZ (g_vaS h1 h2 a2 a3) X.2.2.2.1 (X.w0 hl args) (fun _ h => h) hd (kk _ rfl (hw _ rfl) H locs ls d a1 a2 a3 a4)
set_option maxHeartbeats 200000 in
theorem g_getSV {ix i : Nat} (X : CX E p s m c cc nL own) (h1 : s.heap.size = E.2.2.1 + 1 + n) (h2 : ∀ q, q ≤ E.2.2.1 → s.heap[q]? = E.2.2.2.1[q]?) (hl : Cond.fieldLink own ix "java/lang/String" "value" "[B" ∈ lwG) (hd : decode cc pc = .ok (.getfield ix, 3)) (hi : i < 4) (kk : G E p l e R s m args below meth c nL n M cells slots Q (pc + 3) lv (tV E i :: st)) : G E p l e R s m args below meth c nL n M cells slots Q pc lv (sV E i :: st) := by
  intro H locs ls d a1 a2 a3 a4
  have X := X.dr d
  have hE := ((X.2.2.2.2.2.2.2.2.2.2.2.1.1 i hi).2.2.1).kept (g_kept h2 d)
  exact vk_getf X.1 X.2.1 hE (g_vaS h1 h2 a2 a3) X.2.2.2.1 (X.w0 hl args) (fun _ h => h) hd (kk H locs ls d a1 a2 a3 a4)
set_option maxHeartbeats 200000 in
theorem g_getSC {ix i : Nat} (X : CX E p s m c cc nL own) (h1 : s.heap.size = E.2.2.1 + 1 + n) (h2 : ∀ q, q ≤ E.2.2.1 → s.heap[q]? = E.2.2.2.1[q]?) (hl : Cond.fieldLink own ix "java/lang/String" "coder" "B" ∈ lwG) (hd : decode cc pc = .ok (.getfield ix, 3)) (hi : i < 4) (kk : G E p l e R s m args below meth c nL n M cells slots Q (pc + 3) lv (iV 0 :: st)) : G E p l e R s m args below meth c nL n M cells slots Q pc lv (sV E i :: st) := by
  intro H locs ls d a1 a2 a3 a4
  have X := X.dr d
  have hE := ((X.2.2.2.2.2.2.2.2.2.2.2.1.1 i hi).2.1).kept (g_kept h2 d)
  exact vk_getf X.1 X.2.1 hE (g_vaS h1 h2 a2 a3) X.2.2.2.1 (X.w0 hl args) (fun _ h => h) hd (kk H locs ls d a1 a2 a3 a4)
set_option maxHeartbeats 200000 in
theorem g_alenT {i : Nat} (X : CX E p s m c cc nL own) (h1 : s.heap.size = E.2.2.1 + 1 + n) (h2 : ∀ q, q ≤ E.2.2.1 → s.heap[q]? = E.2.2.2.1[q]?) (hd : decode cc pc = .ok (.arraylength, 1)) (hi : i < 4) (kk : G E p l e R s m args below meth c nL n M cells slots Q (pc + 1) lv (iV (nI (lenS.getD i 0)) :: st)) : G E p l e R s m args below meth c nL n M cells slots Q pc lv (tV E i :: st) := by
  intro H locs ls d a1 a2 a3 a4
  have X := X.dr d
  have hE := ((X.2.2.2.2.2.2.2.2.2.2.2.1.1 i hi).2.2.2).kept (g_kept h2 d)
  exact va_tlen X.1 X.2.1 hE (g_vaS h1 h2 a2 a3) rfl hd (kk H locs ls d a1 a2 a3 a4)
set_option maxHeartbeats 200000 in
theorem g_baldT {P : Prop} {i : Nat} {x : Int32} (X : CX E p s m c cc nL own) (h1 : s.heap.size = E.2.2.1 + 1 + n) (h2 : ∀ q, q ≤ E.2.2.1 → s.heap[q]? = E.2.2.2.1[q]?) (hd : decode cc pc = .ok (.baload, 1)) (hi : i < 4) (hw : vp_in x (lenS.getD i 0) ∧ P) (kk : P → G E p l e R s m args below meth c nL n M cells slots Q (pc + 1) lv (iV ((bytS.getD i []).getD x.toNatClampNeg 0) :: st)) : G E p l e R s m args below meth c nL n M cells slots Q pc lv (iV x :: tV E i :: st) := by
  intro H locs ls d a1 a2 a3 a4
  have X := X.dr d
  have hE := ((X.2.2.2.2.2.2.2.2.2.2.2.1.1 i hi).2.2.2).kept (g_kept h2 d)
  exact va_tb X.1 X.2.1 hE (g_vaS h1 h2 a2 a3) hw.1 rfl hd (kk hw.2 H locs ls d a1 a2 a3 a4)
set_option maxHeartbeats 200000 in
theorem g_runT {y : MethodName} {bytes : ByteArray} {maxL na ix i : Nat} {ret : Option FieldType} {rm : Room} {As rest : List AV} {Qc : Array Value → State → Outcome → State → Prop} {H : Heap} {locs : List Loc} {ls : Array Slot} {d : Drawn} (X : CX E p s m c cc nL own) (hy : CW own ix y bytes maxL ret na) (hi : Cond.instanceMethod y ∈ lwG ∧ Cond.selects "java/lang/String" y y ∈ lwG) (hR : RmOk rm R maxL) (hd : decode cc pc = .ok (.invokevirtual ix, 3)) (hM : CT E l y bytes maxL ret rm n M (sV E i :: As) Qc) (hr : i < 4) (hna : As.length = na) (hst : st = As.reverse ++ sV E i :: rest) (h8 : szA rest ≤ 8) (hf : cells + rm.cells ≤ R.cells ∧ slots + rm.slots ≤ R.slots) (a2 : Rep E n M H) (a4 : ls.size = nL) :
    va_RunD lw_cs p l e R (s.setDrawn d) m args below meth c H locs cells slots rm.cells rm.slots (F0 m pc ls (st.map (toV E.2.2.1))) (rest.map (toV E.2.2.1)) (Qc ((sV E i :: As).map (toV E.2.2.1)).toArray) (Ab E) := by
  have X2 := X.dr d
  have hcell : ∃ cellB : Cell, H[E.2.2.2.2.1 i]? = some cellB ∧ cellB.vm.isStatics = false ∧ (s.setDrawn d).vm.findClass "java/lang/String" = some cellB.cls := by
    obtain ⟨cell, g1, g2, g3, -⟩ := ((X2.2.2.2.2.2.2.2.2.2.2.2.1.1 i hr).1).kept (H1 := H) (fun a _ hA => a2.2.1 a (Nat.not_lt.mp hA))
    exact ⟨cell, g1, g2, g3⟩
  refine va_runV_D (C := "java/lang/String") (b := E.2.2.2.2.1 i) (As := As.map (toV E.2.2.1)) (Ts := lwG) ⟨X.1, X.2.1, X.2.2.1, X.2.2.2.1, fun w h => X.w h args d⟩ hM ⟨cb_of X d hy hR, X.w hi.1 args d, X.w hi.2 args d⟩ ⟨blindP (K := True), hcell, fun U hU hW => ?_⟩ rfl (by rw [List.length_map]; exact hna) a4 ?_ ?_ hd hf
  · exact preP (av := sV E i :: As) X d a2 U hU hW
  · show st.map (toV E.2.2.1) = _
    rw [hst, List.map_append, List.map_reverse, List.map_cons]
    rfl
  · show 2 * 0 + _ ≤ 8
    rw [cats]; omega
end GS
end
