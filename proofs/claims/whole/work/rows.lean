section
-- ===== PART A: goes FIRST, ahead of the names: the tables' words, and 'selects' of the private methods out of them =====
/-- a private method of a class that the tables say can be made, by its rows of tables_1 -/
def lw_okq (q : MethodName × Nat) : Prop := (q.1.cls ≠ "java/lang/invoke/MethodHandle" ∧ q.1.cls ≠ "java/lang/invoke/VarHandle") ∧ Cond.instantiable q.1.cls q.2 ∈ tables_1 ∧ Cond.privateMethod q.1 ∈ tables_1 ∧ Cond.instanceMethod q.1 ∈ tables_1
theorem lw_p0 : lw_okq (⟨"NestRanges", "refuseBad", "()I"⟩, 10) := ⟨⟨by decide +kernel, by decide +kernel⟩, List.mem_of_getElem? (i := 12) (by decide +kernel), List.mem_of_getElem? (i := 239) (by decide +kernel), List.mem_of_getElem? (i := 240) (by decide +kernel)⟩
theorem lw_p1 : lw_okq (⟨"NestRanges", "refuseFull", "()I"⟩, 10) := ⟨⟨by decide +kernel, by decide +kernel⟩, List.mem_of_getElem? (i := 12) (by decide +kernel), List.mem_of_getElem? (i := 281) (by decide +kernel), List.mem_of_getElem? (i := 282) (by decide +kernel)⟩
theorem lw_p2 : lw_okq (⟨"NestRanges", "settle", "()V"⟩, 10) := ⟨⟨by decide +kernel, by decide +kernel⟩, List.mem_of_getElem? (i := 12) (by decide +kernel), List.mem_of_getElem? (i := 285) (by decide +kernel), List.mem_of_getElem? (i := 286) (by decide +kernel)⟩
theorem lw_p3 : lw_okq (⟨"NestRanges$Text", "hangTogether", "(II)Z"⟩, 6) := ⟨⟨by decide +kernel, by decide +kernel⟩, List.mem_of_getElem? (i := 20) (by decide +kernel), List.mem_of_getElem? (i := 357) (by decide +kernel), List.mem_of_getElem? (i := 358) (by decide +kernel)⟩
theorem lw_p4 : lw_okq (⟨"NestRanges", "makeNest", "()V"⟩, 10) := ⟨⟨by decide +kernel, by decide +kernel⟩, List.mem_of_getElem? (i := 12) (by decide +kernel), List.mem_of_getElem? (i := 370) (by decide +kernel), List.mem_of_getElem? (i := 371) (by decide +kernel)⟩
theorem lw_p5 : lw_okq (⟨"NestRanges$Sections", "addCut", "(I)V"⟩, 5) := ⟨⟨by decide +kernel, by decide +kernel⟩, List.mem_of_getElem? (i := 118) (by decide +kernel), List.mem_of_getElem? (i := 379) (by decide +kernel), List.mem_of_getElem? (i := 380) (by decide +kernel)⟩
theorem lw_p6 : lw_okq (⟨"NestRanges$Sections", "cover", "(LNestRanges$Text;I)V"⟩, 5) := ⟨⟨by decide +kernel, by decide +kernel⟩, List.mem_of_getElem? (i := 118) (by decide +kernel), List.mem_of_getElem? (i := 384) (by decide +kernel), List.mem_of_getElem? (i := 385) (by decide +kernel)⟩
theorem lw_p7 : lw_okq (⟨"NestRanges$Weights", "addStacks", "(IIII)V"⟩, 8) := ⟨⟨by decide +kernel, by decide +kernel⟩, List.mem_of_getElem? (i := 83) (by decide +kernel), List.mem_of_getElem? (i := 400) (by decide +kernel), List.mem_of_getElem? (i := 401) (by decide +kernel)⟩
theorem lw_p8 : lw_okq (⟨"NestRanges$Weights", "addStack", "(II)V"⟩, 8) := ⟨⟨by decide +kernel, by decide +kernel⟩, List.mem_of_getElem? (i := 83) (by decide +kernel), List.mem_of_getElem? (i := 404) (by decide +kernel), List.mem_of_getElem? (i := 405) (by decide +kernel)⟩
theorem lw_p9 : lw_okq (⟨"NestRanges$Weights", "outermostRank", "(I)I"⟩, 8) := ⟨⟨by decide +kernel, by decide +kernel⟩, List.mem_of_getElem? (i := 83) (by decide +kernel), List.mem_of_getElem? (i := 408) (by decide +kernel), List.mem_of_getElem? (i := 409) (by decide +kernel)⟩
theorem lw_p10 : lw_okq (⟨"NestRanges$Weights", "setAll", "(III)V"⟩, 8) := ⟨⟨by decide +kernel, by decide +kernel⟩, List.mem_of_getElem? (i := 83) (by decide +kernel), List.mem_of_getElem? (i := 416) (by decide +kernel), List.mem_of_getElem? (i := 417) (by decide +kernel)⟩
theorem lw_p11 : lw_okq (⟨"NestRanges$Weights", "offerAlike", "(IIIIII)V"⟩, 8) := ⟨⟨by decide +kernel, by decide +kernel⟩, List.mem_of_getElem? (i := 83) (by decide +kernel), List.mem_of_getElem? (i := 420) (by decide +kernel), List.mem_of_getElem? (i := 421) (by decide +kernel)⟩
theorem lw_p12 : lw_okq (⟨"NestRanges$Weights", "cheapest", "(III)I"⟩, 8) := ⟨⟨by decide +kernel, by decide +kernel⟩, List.mem_of_getElem? (i := 83) (by decide +kernel), List.mem_of_getElem? (i := 424) (by decide +kernel), List.mem_of_getElem? (i := 425) (by decide +kernel)⟩
theorem lw_p13 : lw_okq (⟨"NestRanges$Weights", "mannersOf", "(IIII)I"⟩, 8) := ⟨⟨by decide +kernel, by decide +kernel⟩, List.mem_of_getElem? (i := 83) (by decide +kernel), List.mem_of_getElem? (i := 428) (by decide +kernel), List.mem_of_getElem? (i := 429) (by decide +kernel)⟩
theorem lw_p14 : lw_okq (⟨"NestRanges$Weights", "offer", "(IIII)V"⟩, 8) := ⟨⟨by decide +kernel, by decide +kernel⟩, List.mem_of_getElem? (i := 83) (by decide +kernel), List.mem_of_getElem? (i := 433) (by decide +kernel), List.mem_of_getElem? (i := 434) (by decide +kernel)⟩
theorem lw_p15 : lw_okq (⟨"NestRanges$Weights", "endOfLike", "(IIII)I"⟩, 8) := ⟨⟨by decide +kernel, by decide +kernel⟩, List.mem_of_getElem? (i := 83) (by decide +kernel), List.mem_of_getElem? (i := 440) (by decide +kernel), List.mem_of_getElem? (i := 441) (by decide +kernel)⟩
def lw_privs_1 : List (MethodName × Nat) := [(⟨"NestRanges", "refuseBad", "()I"⟩, 10), (⟨"NestRanges", "refuseFull", "()I"⟩, 10), (⟨"NestRanges", "settle", "()V"⟩, 10), (⟨"NestRanges$Text", "hangTogether", "(II)Z"⟩, 6), (⟨"NestRanges", "makeNest", "()V"⟩, 10), (⟨"NestRanges$Sections", "addCut", "(I)V"⟩, 5), (⟨"NestRanges$Sections", "cover", "(LNestRanges$Text;I)V"⟩, 5), (⟨"NestRanges$Weights", "addStacks", "(IIII)V"⟩, 8), (⟨"NestRanges$Weights", "addStack", "(II)V"⟩, 8), (⟨"NestRanges$Weights", "outermostRank", "(I)I"⟩, 8), (⟨"NestRanges$Weights", "setAll", "(III)V"⟩, 8), (⟨"NestRanges$Weights", "offerAlike", "(IIIIII)V"⟩, 8), (⟨"NestRanges$Weights", "cheapest", "(III)I"⟩, 8), (⟨"NestRanges$Weights", "mannersOf", "(IIII)I"⟩, 8), (⟨"NestRanges$Weights", "offer", "(IIII)V"⟩, 8), (⟨"NestRanges$Weights", "endOfLike", "(IIII)I"⟩, 8)]
theorem lw_r1 : ∀ q ∈ lw_privs_1, lw_okq q := List.forall_mem_cons.mpr ⟨lw_p0, List.forall_mem_cons.mpr ⟨lw_p1, List.forall_mem_cons.mpr ⟨lw_p2, List.forall_mem_cons.mpr ⟨lw_p3, List.forall_mem_cons.mpr ⟨lw_p4, List.forall_mem_cons.mpr ⟨lw_p5, List.forall_mem_cons.mpr ⟨lw_p6, List.forall_mem_cons.mpr ⟨lw_p7, List.forall_mem_cons.mpr ⟨lw_p8, List.forall_mem_cons.mpr ⟨lw_p9, List.forall_mem_cons.mpr ⟨lw_p10, List.forall_mem_cons.mpr ⟨lw_p11, List.forall_mem_cons.mpr ⟨lw_p12, List.forall_mem_cons.mpr ⟨lw_p13, List.forall_mem_cons.mpr ⟨lw_p14, List.forall_mem_cons.mpr ⟨lw_p15, fun _ h => absurd h List.not_mem_nil⟩⟩⟩⟩⟩⟩⟩⟩⟩⟩⟩⟩⟩⟩⟩⟩
theorem lw_p16 : lw_okq (⟨"NestRanges$Nest", "goingOnAt", "(I)I"⟩, 12) := ⟨⟨by decide +kernel, by decide +kernel⟩, List.mem_of_getElem? (i := 148) (by decide +kernel), List.mem_of_getElem? (i := 464) (by decide +kernel), List.mem_of_getElem? (i := 465) (by decide +kernel)⟩
theorem lw_p17 : lw_okq (⟨"NestRanges$Nest", "addEmptyOnes", "(LNestRanges$Text;II)V"⟩, 12) := ⟨⟨by decide +kernel, by decide +kernel⟩, List.mem_of_getElem? (i := 148) (by decide +kernel), List.mem_of_getElem? (i := 473) (by decide +kernel), List.mem_of_getElem? (i := 474) (by decide +kernel)⟩
theorem lw_p18 : lw_okq (⟨"NestRanges$Nest", "addNode", "(IIII)I"⟩, 12) := ⟨⟨by decide +kernel, by decide +kernel⟩, List.mem_of_getElem? (i := 148) (by decide +kernel), List.mem_of_getElem? (i := 478) (by decide +kernel), List.mem_of_getElem? (i := 479) (by decide +kernel)⟩
theorem lw_p19 : lw_okq (⟨"NestRanges$Nest", "addPieces", "(II)I"⟩, 12) := ⟨⟨by decide +kernel, by decide +kernel⟩, List.mem_of_getElem? (i := 148) (by decide +kernel), List.mem_of_getElem? (i := 482) (by decide +kernel), List.mem_of_getElem? (i := 483) (by decide +kernel)⟩
theorem lw_p20 : lw_okq (⟨"NestRanges$Nest", "stretch", "(II)V"⟩, 12) := ⟨⟨by decide +kernel, by decide +kernel⟩, List.mem_of_getElem? (i := 148) (by decide +kernel), List.mem_of_getElem? (i := 488) (by decide +kernel), List.mem_of_getElem? (i := 489) (by decide +kernel)⟩
theorem lw_p21 : lw_okq (⟨"NestRanges$Nest", "isPiece", "(I)Z"⟩, 12) := ⟨⟨by decide +kernel, by decide +kernel⟩, List.mem_of_getElem? (i := 148) (by decide +kernel), List.mem_of_getElem? (i := 496) (by decide +kernel), List.mem_of_getElem? (i := 497) (by decide +kernel)⟩
theorem lw_p22 : lw_okq (⟨"NestRanges$Text", "isAcross", "(II)Z"⟩, 6) := ⟨⟨by decide +kernel, by decide +kernel⟩, List.mem_of_getElem? (i := 20) (by decide +kernel), List.mem_of_getElem? (i := 524) (by decide +kernel), List.mem_of_getElem? (i := 525) (by decide +kernel)⟩
theorem lw_p23 : lw_okq (⟨"NestRanges", "fewestWithout", "(IZ)I"⟩, 10) := ⟨⟨by decide +kernel, by decide +kernel⟩, List.mem_of_getElem? (i := 12) (by decide +kernel), List.mem_of_getElem? (i := 560) (by decide +kernel), List.mem_of_getElem? (i := 561) (by decide +kernel)⟩
theorem lw_p24 : lw_okq (⟨"NestRangesModel", "begins", "(I)V"⟩, 25) := ⟨⟨by decide +kernel, by decide +kernel⟩, List.mem_of_getElem? (i := 635) (by decide +kernel), List.mem_of_getElem? (i := 641) (by decide +kernel), List.mem_of_getElem? (i := 642) (by decide +kernel)⟩
theorem lw_p25 : lw_okq (⟨"NestRangesModel", "bad", "()I"⟩, 25) := ⟨⟨by decide +kernel, by decide +kernel⟩, List.mem_of_getElem? (i := 635) (by decide +kernel), List.mem_of_getElem? (i := 729) (by decide +kernel), List.mem_of_getElem? (i := 730) (by decide +kernel)⟩
theorem lw_p26 : lw_okq (⟨"NestRangesModel", "isFromTo", "(II)Z"⟩, 25) := ⟨⟨by decide +kernel, by decide +kernel⟩, List.mem_of_getElem? (i := 635) (by decide +kernel), List.mem_of_getElem? (i := 740) (by decide +kernel), List.mem_of_getElem? (i := 741) (by decide +kernel)⟩
theorem lw_p27 : lw_okq (⟨"NestRangesModel", "full", "()I"⟩, 25) := ⟨⟨by decide +kernel, by decide +kernel⟩, List.mem_of_getElem? (i := 635) (by decide +kernel), List.mem_of_getElem? (i := 744) (by decide +kernel), List.mem_of_getElem? (i := 745) (by decide +kernel)⟩
theorem lw_p28 : lw_okq (⟨"NestRangesModel", "comes", "(III)V"⟩, 25) := ⟨⟨by decide +kernel, by decide +kernel⟩, List.mem_of_getElem? (i := 635) (by decide +kernel), List.mem_of_getElem? (i := 748) (by decide +kernel), List.mem_of_getElem? (i := 749) (by decide +kernel)⟩
theorem lw_p29 : lw_okq (⟨"NestRangesModel", "isTooMuch", "()Z"⟩, 25) := ⟨⟨by decide +kernel, by decide +kernel⟩, List.mem_of_getElem? (i := 635) (by decide +kernel), List.mem_of_getElem? (i := 752) (by decide +kernel), List.mem_of_getElem? (i := 753) (by decide +kernel)⟩
theorem lw_p30 : lw_okq (⟨"NestRangesModel", "coverMany", "(I)I"⟩, 25) := ⟨⟨by decide +kernel, by decide +kernel⟩, List.mem_of_getElem? (i := 635) (by decide +kernel), List.mem_of_getElem? (i := 756) (by decide +kernel), List.mem_of_getElem? (i := 757) (by decide +kernel)⟩
theorem lw_p31 : lw_okq (⟨"NestRangesModel", "notes", "()V"⟩, 25) := ⟨⟨by decide +kernel, by decide +kernel⟩, List.mem_of_getElem? (i := 635) (by decide +kernel), List.mem_of_getElem? (i := 760) (by decide +kernel), List.mem_of_getElem? (i := 761) (by decide +kernel)⟩
def lw_privs_2 : List (MethodName × Nat) := [(⟨"NestRanges$Nest", "goingOnAt", "(I)I"⟩, 12), (⟨"NestRanges$Nest", "addEmptyOnes", "(LNestRanges$Text;II)V"⟩, 12), (⟨"NestRanges$Nest", "addNode", "(IIII)I"⟩, 12), (⟨"NestRanges$Nest", "addPieces", "(II)I"⟩, 12), (⟨"NestRanges$Nest", "stretch", "(II)V"⟩, 12), (⟨"NestRanges$Nest", "isPiece", "(I)Z"⟩, 12), (⟨"NestRanges$Text", "isAcross", "(II)Z"⟩, 6), (⟨"NestRanges", "fewestWithout", "(IZ)I"⟩, 10), (⟨"NestRangesModel", "begins", "(I)V"⟩, 25), (⟨"NestRangesModel", "bad", "()I"⟩, 25), (⟨"NestRangesModel", "isFromTo", "(II)Z"⟩, 25), (⟨"NestRangesModel", "full", "()I"⟩, 25), (⟨"NestRangesModel", "comes", "(III)V"⟩, 25), (⟨"NestRangesModel", "isTooMuch", "()Z"⟩, 25), (⟨"NestRangesModel", "coverMany", "(I)I"⟩, 25), (⟨"NestRangesModel", "notes", "()V"⟩, 25)]
theorem lw_r2 : ∀ q ∈ lw_privs_2, lw_okq q := List.forall_mem_cons.mpr ⟨lw_p16, List.forall_mem_cons.mpr ⟨lw_p17, List.forall_mem_cons.mpr ⟨lw_p18, List.forall_mem_cons.mpr ⟨lw_p19, List.forall_mem_cons.mpr ⟨lw_p20, List.forall_mem_cons.mpr ⟨lw_p21, List.forall_mem_cons.mpr ⟨lw_p22, List.forall_mem_cons.mpr ⟨lw_p23, List.forall_mem_cons.mpr ⟨lw_p24, List.forall_mem_cons.mpr ⟨lw_p25, List.forall_mem_cons.mpr ⟨lw_p26, List.forall_mem_cons.mpr ⟨lw_p27, List.forall_mem_cons.mpr ⟨lw_p28, List.forall_mem_cons.mpr ⟨lw_p29, List.forall_mem_cons.mpr ⟨lw_p30, List.forall_mem_cons.mpr ⟨lw_p31, fun _ h => absurd h List.not_mem_nil⟩⟩⟩⟩⟩⟩⟩⟩⟩⟩⟩⟩⟩⟩⟩⟩
theorem lw_p32 : lw_okq (⟨"NestRangesModel", "isRange", "(I)Z"⟩, 25) := ⟨⟨by decide +kernel, by decide +kernel⟩, List.mem_of_getElem? (i := 635) (by decide +kernel), List.mem_of_getElem? (i := 768) (by decide +kernel), List.mem_of_getElem? (i := 769) (by decide +kernel)⟩
theorem lw_p33 : lw_okq (⟨"NestRangesModel", "goes", "(I)V"⟩, 25) := ⟨⟨by decide +kernel, by decide +kernel⟩, List.mem_of_getElem? (i := 635) (by decide +kernel), List.mem_of_getElem? (i := 772) (by decide +kernel), List.mem_of_getElem? (i := 773) (by decide +kernel)⟩
theorem lw_p34 : lw_okq (⟨"NestRangesModel", "isEmpty", "(I)Z"⟩, 25) := ⟨⟨by decide +kernel, by decide +kernel⟩, List.mem_of_getElem? (i := 635) (by decide +kernel), List.mem_of_getElem? (i := 792) (by decide +kernel), List.mem_of_getElem? (i := 793) (by decide +kernel)⟩
theorem lw_p35 : lw_okq (⟨"NestRangesModel", "hangsOn", "(I)I"⟩, 25) := ⟨⟨by decide +kernel, by decide +kernel⟩, List.mem_of_getElem? (i := 635) (by decide +kernel), List.mem_of_getElem? (i := 807) (by decide +kernel), List.mem_of_getElem? (i := 808) (by decide +kernel)⟩
theorem lw_p36 : lw_okq (⟨"NestRangesModel", "hangsBy", "(I)I"⟩, 25) := ⟨⟨by decide +kernel, by decide +kernel⟩, List.mem_of_getElem? (i := 635) (by decide +kernel), List.mem_of_getElem? (i := 811) (by decide +kernel), List.mem_of_getElem? (i := 812) (by decide +kernel)⟩
theorem lw_p37 : lw_okq (⟨"NestRangesModel", "no", "()I"⟩, 25) := ⟨⟨by decide +kernel, by decide +kernel⟩, List.mem_of_getElem? (i := 635) (by decide +kernel), List.mem_of_getElem? (i := 819) (by decide +kernel), List.mem_of_getElem? (i := 820) (by decide +kernel)⟩
theorem lw_p38 : lw_okq (⟨"NestRangesModel", "takesBack", "()V"⟩, 25) := ⟨⟨by decide +kernel, by decide +kernel⟩, List.mem_of_getElem? (i := 635) (by decide +kernel), List.mem_of_getElem? (i := 823) (by decide +kernel), List.mem_of_getElem? (i := 824) (by decide +kernel)⟩
theorem lw_p39 : lw_okq (⟨"NestRangesModel", "setThe", "()I"⟩, 25) := ⟨⟨by decide +kernel, by decide +kernel⟩, List.mem_of_getElem? (i := 635) (by decide +kernel), List.mem_of_getElem? (i := 831) (by decide +kernel), List.mem_of_getElem? (i := 832) (by decide +kernel)⟩
theorem lw_p40 : lw_okq (⟨"NestRangesModel", "setNest", "(IZ)I"⟩, 25) := ⟨⟨by decide +kernel, by decide +kernel⟩, List.mem_of_getElem? (i := 635) (by decide +kernel), List.mem_of_getElem? (i := 835) (by decide +kernel), List.mem_of_getElem? (i := 836) (by decide +kernel)⟩
theorem lw_p41 : lw_okq (⟨"NestRangesModel", "setCuts", "(I)V"⟩, 25) := ⟨⟨by decide +kernel, by decide +kernel⟩, List.mem_of_getElem? (i := 635) (by decide +kernel), List.mem_of_getElem? (i := 839) (by decide +kernel), List.mem_of_getElem? (i := 840) (by decide +kernel)⟩
theorem lw_p42 : lw_okq (⟨"NestRangesModel", "comesCut", "(I)V"⟩, 25) := ⟨⟨by decide +kernel, by decide +kernel⟩, List.mem_of_getElem? (i := 635) (by decide +kernel), List.mem_of_getElem? (i := 843) (by decide +kernel), List.mem_of_getElem? (i := 844) (by decide +kernel)⟩
theorem lw_p43 : lw_okq (⟨"NestRangesModel", "sections", "()I"⟩, 25) := ⟨⟨by decide +kernel, by decide +kernel⟩, List.mem_of_getElem? (i := 635) (by decide +kernel), List.mem_of_getElem? (i := 847) (by decide +kernel), List.mem_of_getElem? (i := 848) (by decide +kernel)⟩
theorem lw_p44 : lw_okq (⟨"NestRangesModel", "setStacks", "(Z)V"⟩, 25) := ⟨⟨by decide +kernel, by decide +kernel⟩, List.mem_of_getElem? (i := 635) (by decide +kernel), List.mem_of_getElem? (i := 851) (by decide +kernel), List.mem_of_getElem? (i := 852) (by decide +kernel)⟩
theorem lw_p45 : lw_okq (⟨"NestRangesModel", "mayStack", "(IZ)Z"⟩, 25) := ⟨⟨by decide +kernel, by decide +kernel⟩, List.mem_of_getElem? (i := 635) (by decide +kernel), List.mem_of_getElem? (i := 858) (by decide +kernel), List.mem_of_getElem? (i := 859) (by decide +kernel)⟩
theorem lw_p46 : lw_okq (⟨"NestRangesModel", "nextRow", "(I)Z"⟩, 25) := ⟨⟨by decide +kernel, by decide +kernel⟩, List.mem_of_getElem? (i := 635) (by decide +kernel), List.mem_of_getElem? (i := 862) (by decide +kernel), List.mem_of_getElem? (i := 863) (by decide +kernel)⟩
theorem lw_p47 : lw_okq (⟨"NestRangesModel", "setLeast", "(II)V"⟩, 25) := ⟨⟨by decide +kernel, by decide +kernel⟩, List.mem_of_getElem? (i := 635) (by decide +kernel), List.mem_of_getElem? (i := 866) (by decide +kernel), List.mem_of_getElem? (i := 867) (by decide +kernel)⟩
def lw_privs_3 : List (MethodName × Nat) := [(⟨"NestRangesModel", "isRange", "(I)Z"⟩, 25), (⟨"NestRangesModel", "goes", "(I)V"⟩, 25), (⟨"NestRangesModel", "isEmpty", "(I)Z"⟩, 25), (⟨"NestRangesModel", "hangsOn", "(I)I"⟩, 25), (⟨"NestRangesModel", "hangsBy", "(I)I"⟩, 25), (⟨"NestRangesModel", "no", "()I"⟩, 25), (⟨"NestRangesModel", "takesBack", "()V"⟩, 25), (⟨"NestRangesModel", "setThe", "()I"⟩, 25), (⟨"NestRangesModel", "setNest", "(IZ)I"⟩, 25), (⟨"NestRangesModel", "setCuts", "(I)V"⟩, 25), (⟨"NestRangesModel", "comesCut", "(I)V"⟩, 25), (⟨"NestRangesModel", "sections", "()I"⟩, 25), (⟨"NestRangesModel", "setStacks", "(Z)V"⟩, 25), (⟨"NestRangesModel", "mayStack", "(IZ)Z"⟩, 25), (⟨"NestRangesModel", "nextRow", "(I)Z"⟩, 25), (⟨"NestRangesModel", "setLeast", "(II)V"⟩, 25)]
theorem lw_r3 : ∀ q ∈ lw_privs_3, lw_okq q := List.forall_mem_cons.mpr ⟨lw_p32, List.forall_mem_cons.mpr ⟨lw_p33, List.forall_mem_cons.mpr ⟨lw_p34, List.forall_mem_cons.mpr ⟨lw_p35, List.forall_mem_cons.mpr ⟨lw_p36, List.forall_mem_cons.mpr ⟨lw_p37, List.forall_mem_cons.mpr ⟨lw_p38, List.forall_mem_cons.mpr ⟨lw_p39, List.forall_mem_cons.mpr ⟨lw_p40, List.forall_mem_cons.mpr ⟨lw_p41, List.forall_mem_cons.mpr ⟨lw_p42, List.forall_mem_cons.mpr ⟨lw_p43, List.forall_mem_cons.mpr ⟨lw_p44, List.forall_mem_cons.mpr ⟨lw_p45, List.forall_mem_cons.mpr ⟨lw_p46, List.forall_mem_cons.mpr ⟨lw_p47, fun _ h => absurd h List.not_mem_nil⟩⟩⟩⟩⟩⟩⟩⟩⟩⟩⟩⟩⟩⟩⟩⟩
theorem lw_p48 : lw_okq (⟨"NestRangesModel", "splitsBy", "(III)I"⟩, 25) := ⟨⟨by decide +kernel, by decide +kernel⟩, List.mem_of_getElem? (i := 635) (by decide +kernel), List.mem_of_getElem? (i := 871) (by decide +kernel), List.mem_of_getElem? (i := 872) (by decide +kernel)⟩
theorem lw_p49 : lw_okq (⟨"NestRangesModel", "rangeAt", "(III)I"⟩, 25) := ⟨⟨by decide +kernel, by decide +kernel⟩, List.mem_of_getElem? (i := 635) (by decide +kernel), List.mem_of_getElem? (i := 878) (by decide +kernel), List.mem_of_getElem? (i := 879) (by decide +kernel)⟩
theorem lw_p50 : lw_okq (⟨"NestRangesModel", "setNodes", "()V"⟩, 25) := ⟨⟨by decide +kernel, by decide +kernel⟩, List.mem_of_getElem? (i := 635) (by decide +kernel), List.mem_of_getElem? (i := 903) (by decide +kernel), List.mem_of_getElem? (i := 904) (by decide +kernel)⟩
theorem lw_p51 : lw_okq (⟨"NestRangesModel", "comesEmpty", "(I)V"⟩, 25) := ⟨⟨by decide +kernel, by decide +kernel⟩, List.mem_of_getElem? (i := 635) (by decide +kernel), List.mem_of_getElem? (i := 907) (by decide +kernel), List.mem_of_getElem? (i := 908) (by decide +kernel)⟩
theorem lw_p52 : lw_okq (⟨"NestRangesModel", "comesNode", "(IIIII)V"⟩, 25) := ⟨⟨by decide +kernel, by decide +kernel⟩, List.mem_of_getElem? (i := 635) (by decide +kernel), List.mem_of_getElem? (i := 911) (by decide +kernel), List.mem_of_getElem? (i := 912) (by decide +kernel)⟩
theorem lw_p53 : lw_okq (⟨"NestRangesModel", "comesPieces", "(I)V"⟩, 25) := ⟨⟨by decide +kernel, by decide +kernel⟩, List.mem_of_getElem? (i := 635) (by decide +kernel), List.mem_of_getElem? (i := 915) (by decide +kernel), List.mem_of_getElem? (i := 916) (by decide +kernel)⟩
theorem lw_p54 : lw_okq (⟨"NestRangesModel", "alikeAt", "(I)I"⟩, 25) := ⟨⟨by decide +kernel, by decide +kernel⟩, List.mem_of_getElem? (i := 635) (by decide +kernel), List.mem_of_getElem? (i := 919) (by decide +kernel), List.mem_of_getElem? (i := 920) (by decide +kernel)⟩
theorem lw_p55 : lw_okq (⟨"NestRangesModel", "stackAt", "(II)I"⟩, 25) := ⟨⟨by decide +kernel, by decide +kernel⟩, List.mem_of_getElem? (i := 635) (by decide +kernel), List.mem_of_getElem? (i := 923) (by decide +kernel), List.mem_of_getElem? (i := 924) (by decide +kernel)⟩
theorem lw_p56 : lw_okq (⟨"NestRangesModel", "liesIn", "(I)V"⟩, 25) := ⟨⟨by decide +kernel, by decide +kernel⟩, List.mem_of_getElem? (i := 635) (by decide +kernel), List.mem_of_getElem? (i := 927) (by decide +kernel), List.mem_of_getElem? (i := 928) (by decide +kernel)⟩
theorem lw_p57 : lw_okq (⟨"NestRangesModel", "nodeTells", "(II)I"⟩, 25) := ⟨⟨by decide +kernel, by decide +kernel⟩, List.mem_of_getElem? (i := 635) (by decide +kernel), List.mem_of_getElem? (i := 935) (by decide +kernel), List.mem_of_getElem? (i := 936) (by decide +kernel)⟩
theorem lw_p58 : lw_okq (⟨"NestRangesModel", "piecesOf", "(I)I"⟩, 25) := ⟨⟨by decide +kernel, by decide +kernel⟩, List.mem_of_getElem? (i := 635) (by decide +kernel), List.mem_of_getElem? (i := 947) (by decide +kernel), List.mem_of_getElem? (i := 948) (by decide +kernel)⟩
theorem lw_p59 : lw_okq (⟨"NestRangesModel", "pieces", "(I)I"⟩, 25) := ⟨⟨by decide +kernel, by decide +kernel⟩, List.mem_of_getElem? (i := 635) (by decide +kernel), List.mem_of_getElem? (i := 955) (by decide +kernel), List.mem_of_getElem? (i := 956) (by decide +kernel)⟩
theorem lw_p60 : lw_okq (⟨"NestRangesModel", "acrossMany", "(I)I"⟩, 25) := ⟨⟨by decide +kernel, by decide +kernel⟩, List.mem_of_getElem? (i := 635) (by decide +kernel), List.mem_of_getElem? (i := 959) (by decide +kernel), List.mem_of_getElem? (i := 960) (by decide +kernel)⟩
theorem lw_p61 : lw_okq (⟨"NestRangesModel", "crosses", "(II)Z"⟩, 25) := ⟨⟨by decide +kernel, by decide +kernel⟩, List.mem_of_getElem? (i := 635) (by decide +kernel), List.mem_of_getElem? (i := 963) (by decide +kernel), List.mem_of_getElem? (i := 964) (by decide +kernel)⟩
theorem lw_p62 : lw_okq (⟨"NestRangesModel", "tells", "(I)I"⟩, 25) := ⟨⟨by decide +kernel, by decide +kernel⟩, List.mem_of_getElem? (i := 635) (by decide +kernel), List.mem_of_getElem? (i := 995) (by decide +kernel), List.mem_of_getElem? (i := 996) (by decide +kernel)⟩
def lw_privs_4 : List (MethodName × Nat) := [(⟨"NestRangesModel", "splitsBy", "(III)I"⟩, 25), (⟨"NestRangesModel", "rangeAt", "(III)I"⟩, 25), (⟨"NestRangesModel", "setNodes", "()V"⟩, 25), (⟨"NestRangesModel", "comesEmpty", "(I)V"⟩, 25), (⟨"NestRangesModel", "comesNode", "(IIIII)V"⟩, 25), (⟨"NestRangesModel", "comesPieces", "(I)V"⟩, 25), (⟨"NestRangesModel", "alikeAt", "(I)I"⟩, 25), (⟨"NestRangesModel", "stackAt", "(II)I"⟩, 25), (⟨"NestRangesModel", "liesIn", "(I)V"⟩, 25), (⟨"NestRangesModel", "nodeTells", "(II)I"⟩, 25), (⟨"NestRangesModel", "piecesOf", "(I)I"⟩, 25), (⟨"NestRangesModel", "pieces", "(I)I"⟩, 25), (⟨"NestRangesModel", "acrossMany", "(I)I"⟩, 25), (⟨"NestRangesModel", "crosses", "(II)Z"⟩, 25), (⟨"NestRangesModel", "tells", "(I)I"⟩, 25)]
theorem lw_r4 : ∀ q ∈ lw_privs_4, lw_okq q := List.forall_mem_cons.mpr ⟨lw_p48, List.forall_mem_cons.mpr ⟨lw_p49, List.forall_mem_cons.mpr ⟨lw_p50, List.forall_mem_cons.mpr ⟨lw_p51, List.forall_mem_cons.mpr ⟨lw_p52, List.forall_mem_cons.mpr ⟨lw_p53, List.forall_mem_cons.mpr ⟨lw_p54, List.forall_mem_cons.mpr ⟨lw_p55, List.forall_mem_cons.mpr ⟨lw_p56, List.forall_mem_cons.mpr ⟨lw_p57, List.forall_mem_cons.mpr ⟨lw_p58, List.forall_mem_cons.mpr ⟨lw_p59, List.forall_mem_cons.mpr ⟨lw_p60, List.forall_mem_cons.mpr ⟨lw_p61, List.forall_mem_cons.mpr ⟨lw_p62, fun _ h => absurd h List.not_mem_nil⟩⟩⟩⟩⟩⟩⟩⟩⟩⟩⟩⟩⟩⟩⟩
def lw_privs : List (MethodName × Nat) := lw_privs_1 ++ (lw_privs_2 ++ (lw_privs_3 ++ (lw_privs_4)))
def lw_tbl : List Cond := k2_sels lw_privs ++ tables_1
theorem lw_privs_ok : ∀ q ∈ lw_privs, lw_okq q := by
  show ∀ q ∈ lw_privs_1 ++ (lw_privs_2 ++ (lw_privs_3 ++ (lw_privs_4))), lw_okq q
  exact List.forall_mem_append.mpr ⟨lw_r1, List.forall_mem_append.mpr ⟨lw_r2, List.forall_mem_append.mpr ⟨lw_r3, lw_r4⟩⟩⟩
end
section
/-! names, layouts and code tables: written by wip/whole/gen1.py out of the printed claim -/
def cT0 : u_T := fun k => match k with
  | 0 => ("NestRanges$History", "kept", "[LNestRanges$Text;", true)
  | 1 => ("NestRanges$History", "next", "I", false)
  | _ => ("NestRanges$History", "count", "I", false)
def cY0 : Nat → FieldType := fun k => match k with
  | 0 => .array (.object "NestRanges$Text")
  | 1 => .int
  | _ => .int
theorem cN0 : ∀ a, a < 3 → ∀ b, b < 3 → a ≠ b → (cT0 a).2.1 ≠ (cT0 b).2.1 := by decide +kernel
theorem cY0_ok : ∀ k, k < 3 → parseFieldDescriptor (cT0 k).2.2.1 = some (cY0 k) := by decide +kernel
theorem cW0 : ∀ w ∈ u_ws "NestRanges$History" cT0 3, w ∈ lw_tbl := by
  intro w hw
  have h : u_ws "NestRanges$History" cT0 3 = [138, 140, 142].filterMap (fun i => lw_tbl[i]?) := by decide +kernel
  rw [h] at hw
  obtain ⟨i, -, hi⟩ := List.mem_filterMap.mp hw
  exact List.mem_of_getElem? hi
def cT1 : u_T := fun k => match k with
  | 0 => ("NestRanges$Nest", "sections", "LNestRanges$Sections;", true)
  | 1 => ("NestRanges$Nest", "chosen", "[I", true)
  | 2 => ("NestRanges$Nest", "ranges", "[I", true)
  | 3 => ("NestRanges$Nest", "begins", "[I", true)
  | 4 => ("NestRanges$Nest", "ends", "[I", true)
  | 5 => ("NestRanges$Nest", "depths", "[I", true)
  | 6 => ("NestRanges$Nest", "outers", "[I", true)
  | 7 => ("NestRanges$Nest", "open", "[I", true)
  | 8 => ("NestRanges$Nest", "size", "I", false)
  | 9 => ("NestRanges$Nest", "fewest", "I", false)
  | 10 => ("NestRanges$Nest", "asFew", "I", false)
  | _ => ("NestRanges$Nest", "plainSplits", "I", false)
def cY1 : Nat → FieldType := fun k => match k with
  | 0 => .object "NestRanges$Sections"
  | 1 => .array (.int)
  | 2 => .array (.int)
  | 3 => .array (.int)
  | 4 => .array (.int)
  | 5 => .array (.int)
  | 6 => .array (.int)
  | 7 => .array (.int)
  | 8 => .int
  | 9 => .int
  | 10 => .int
  | _ => .int
theorem cN1 : ∀ a, a < 12 → ∀ b, b < 12 → a ≠ b → (cT1 a).2.1 ≠ (cT1 b).2.1 := by decide +kernel
theorem cY1_ok : ∀ k, k < 12 → parseFieldDescriptor (cT1 k).2.2.1 = some (cY1 k) := by decide +kernel
theorem cW1 : ∀ w ∈ u_ws "NestRanges$Nest" cT1 12, w ∈ lw_tbl := by
  intro w hw
  have h : u_ws "NestRanges$Nest" cT1 12 = [241, 243, 245, 247, 249, 251, 253, 255, 257, 259, 261, 263].filterMap (fun i => lw_tbl[i]?) := by decide +kernel
  rw [h] at hw
  obtain ⟨i, -, hi⟩ := List.mem_filterMap.mp hw
  exact List.mem_of_getElem? hi
def cT2 : u_T := fun k => match k with
  | 0 => ("NestRanges$Sections", "cuts", "[I", true)
  | 1 => ("NestRanges$Sections", "covers", "[I", true)
  | 2 => ("NestRanges$Sections", "shared", "[I", true)
  | 3 => ("NestRanges$Sections", "cutCount", "I", false)
  | _ => ("NestRanges$Sections", "size", "I", false)
def cY2 : Nat → FieldType := fun k => match k with
  | 0 => .array (.int)
  | 1 => .array (.int)
  | 2 => .array (.int)
  | 3 => .int
  | _ => .int
theorem cN2 : ∀ a, a < 5 → ∀ b, b < 5 → a ≠ b → (cT2 a).2.1 ≠ (cT2 b).2.1 := by decide +kernel
theorem cY2_ok : ∀ k, k < 5 → parseFieldDescriptor (cT2 k).2.2.1 = some (cY2 k) := by decide +kernel
theorem cW2 : ∀ w ∈ u_ws "NestRanges$Sections" cT2 5, w ∈ lw_tbl := by
  intro w hw
  have h : u_ws "NestRanges$Sections" cT2 5 = [199, 201, 203, 205, 207].filterMap (fun i => lw_tbl[i]?) := by decide +kernel
  rw [h] at hw
  obtain ⟨i, -, hi⟩ := List.mem_filterMap.mp hw
  exact List.mem_of_getElem? hi
def cT3 : u_T := fun k => match k with
  | 0 => ("NestRanges$Text", "kinds", "[I", true)
  | 1 => ("NestRanges$Text", "begins", "[I", true)
  | 2 => ("NestRanges$Text", "ends", "[I", true)
  | 3 => ("NestRanges$Text", "ranks", "[I", true)
  | 4 => ("NestRanges$Text", "count", "I", false)
  | _ => ("NestRanges$Text", "length", "I", false)
def cY3 : Nat → FieldType := fun k => match k with
  | 0 => .array (.int)
  | 1 => .array (.int)
  | 2 => .array (.int)
  | 3 => .array (.int)
  | 4 => .int
  | _ => .int
theorem cN3 : ∀ a, a < 6 → ∀ b, b < 6 → a ≠ b → (cT3 a).2.1 ≠ (cT3 b).2.1 := by decide +kernel
theorem cY3_ok : ∀ k, k < 6 → parseFieldDescriptor (cT3 k).2.2.1 = some (cY3 k) := by decide +kernel
theorem cW3 : ∀ w ∈ u_ws "NestRanges$Text" cT3 6, w ∈ lw_tbl := by
  intro w hw
  have h : u_ws "NestRanges$Text" cT3 6 = [111, 113, 115, 117, 119, 121].filterMap (fun i => lw_tbl[i]?) := by decide +kernel
  rw [h] at hw
  obtain ⟨i, -, hi⟩ := List.mem_filterMap.mp hw
  exact List.mem_of_getElem? hi
def cT4 : u_T := fun k => match k with
  | 0 => ("NestRanges$Weights", "stacks", "[[I", true)
  | 1 => ("NestRanges$Weights", "costs", "[[I", true)
  | 2 => ("NestRanges$Weights", "manners", "[[I", true)
  | 3 => ("NestRanges$Weights", "counts", "[I", true)
  | 4 => ("NestRanges$Weights", "ranks", "[I", true)
  | 5 => ("NestRanges$Weights", "shared", "I", false)
  | 6 => ("NestRanges$Weights", "fewest", "I", false)
  | _ => ("NestRanges$Weights", "asFew", "I", false)
def cY4 : Nat → FieldType := fun k => match k with
  | 0 => .array (.array (.int))
  | 1 => .array (.array (.int))
  | 2 => .array (.array (.int))
  | 3 => .array (.int)
  | 4 => .array (.int)
  | 5 => .int
  | 6 => .int
  | _ => .int
theorem cN4 : ∀ a, a < 8 → ∀ b, b < 8 → a ≠ b → (cT4 a).2.1 ≠ (cT4 b).2.1 := by decide +kernel
theorem cY4_ok : ∀ k, k < 8 → parseFieldDescriptor (cT4 k).2.2.1 = some (cY4 k) := by decide +kernel
theorem cW4 : ∀ w ∈ u_ws "NestRanges$Weights" cT4 8, w ∈ lw_tbl := by
  intro w hw
  have h : u_ws "NestRanges$Weights" cT4 8 = [163, 165, 167, 169, 171, 173, 175, 177].filterMap (fun i => lw_tbl[i]?) := by decide +kernel
  rw [h] at hw
  obtain ⟨i, -, hi⟩ := List.mem_filterMap.mp hw
  exact List.mem_of_getElem? hi
def cT5 : u_T := fun k => match k with
  | 0 => ("NestRanges", "now", "LNestRanges$Text;", true)
  | 1 => ("NestRanges", "trial", "LNestRanges$Text;", true)
  | 2 => ("NestRanges", "past", "LNestRanges$History;", true)
  | 3 => ("NestRanges", "weights", "LNestRanges$Weights;", true)
  | 4 => ("NestRanges", "side", "LNestRanges$Sections;", true)
  | 5 => ("NestRanges", "nest", "LNestRanges$Nest;", true)
  | 6 => ("NestRanges", "nestStands", "Z", false)
  | 7 => ("NestRanges", "bads", "I", false)
  | 8 => ("NestRanges", "nos", "I", false)
  | _ => ("NestRanges", "fulls", "I", false)
def cY5 : Nat → FieldType := fun k => match k with
  | 0 => .object "NestRanges$Text"
  | 1 => .object "NestRanges$Text"
  | 2 => .object "NestRanges$History"
  | 3 => .object "NestRanges$Weights"
  | 4 => .object "NestRanges$Sections"
  | 5 => .object "NestRanges$Nest"
  | 6 => .boolean
  | 7 => .int
  | 8 => .int
  | _ => .int
theorem cN5 : ∀ a, a < 10 → ∀ b, b < 10 → a ≠ b → (cT5 a).2.1 ≠ (cT5 b).2.1 := by decide +kernel
theorem cY5_ok : ∀ k, k < 10 → parseFieldDescriptor (cT5 k).2.2.1 = some (cY5 k) := by decide +kernel
theorem cW5 : ∀ w ∈ u_ws "NestRanges" cT5 10, w ∈ lw_tbl := by
  intro w hw
  have h : u_ws "NestRanges" cT5 10 = [276, 278, 280, 282, 284, 286, 288, 290, 292, 294].filterMap (fun i => lw_tbl[i]?) := by decide +kernel
  rw [h] at hw
  obtain ⟨i, -, hi⟩ := List.mem_filterMap.mp hw
  exact List.mem_of_getElem? hi
def cT6 : u_T := fun k => match k with
  | 0 => ("NestRangesModel", "refused", "[I", true)
  | 1 => ("NestRangesModel", "places", "I", false)
  | 2 => ("NestRangesModel", "ranges", "I", false)
  | 3 => ("NestRangesModel", "kindOf", "[I", true)
  | 4 => ("NestRangesModel", "fromOf", "[I", true)
  | 5 => ("NestRangesModel", "toOf", "[I", true)
  | 6 => ("NestRangesModel", "rankOf", "[I", true)
  | 7 => ("NestRangesModel", "ahead", "[I", true)
  | 8 => ("NestRangesModel", "undoMany", "I", false)
  | 9 => ("NestRangesModel", "cutMany", "I", false)
  | 10 => ("NestRangesModel", "cuts", "[I", true)
  | 11 => ("NestRangesModel", "covers", "[I", true)
  | 12 => ("NestRangesModel", "stackMany", "[I", true)
  | 13 => ("NestRangesModel", "stacks", "[I", true)
  | 14 => ("NestRangesModel", "least", "[I", true)
  | 15 => ("NestRangesModel", "ways", "[J", true)
  | 16 => ("NestRangesModel", "chosen", "[I", true)
  | 17 => ("NestRangesModel", "row", "[I", true)
  | 18 => ("NestRangesModel", "nodeMany", "I", false)
  | 19 => ("NestRangesModel", "nodeRange", "[I", true)
  | 20 => ("NestRangesModel", "nodeFrom", "[I", true)
  | 21 => ("NestRangesModel", "nodeTo", "[I", true)
  | 22 => ("NestRangesModel", "nodeDeep", "[I", true)
  | 23 => ("NestRangesModel", "nodeIn", "[I", true)
  | _ => ("NestRangesModel", "openOf", "[I", true)
def cY6 : Nat → FieldType := fun k => match k with
  | 0 => .array (.int)
  | 1 => .int
  | 2 => .int
  | 3 => .array (.int)
  | 4 => .array (.int)
  | 5 => .array (.int)
  | 6 => .array (.int)
  | 7 => .array (.int)
  | 8 => .int
  | 9 => .int
  | 10 => .array (.int)
  | 11 => .array (.int)
  | 12 => .array (.int)
  | 13 => .array (.int)
  | 14 => .array (.int)
  | 15 => .array (.long)
  | 16 => .array (.int)
  | 17 => .array (.int)
  | 18 => .int
  | 19 => .array (.int)
  | 20 => .array (.int)
  | 21 => .array (.int)
  | 22 => .array (.int)
  | 23 => .array (.int)
  | _ => .array (.int)
theorem cN6 : ∀ a, a < 25 → ∀ b, b < 25 → a ≠ b → (cT6 a).2.1 ≠ (cT6 b).2.1 := by decide +kernel
theorem cY6_ok : ∀ k, k < 25 → parseFieldDescriptor (cT6 k).2.2.1 = some (cY6 k) := by decide +kernel
theorem cW6 : ∀ w ∈ u_ws "NestRangesModel" cT6 25, w ∈ lw_tbl := by
  intro w hw
  have h : u_ws "NestRangesModel" cT6 25 = [732, 734, 736, 738, 740, 742, 744, 746, 748, 750, 752, 754, 756, 758, 760, 762, 764, 766, 768, 770, 772, 774, 776, 778, 780].filterMap (fun i => lw_tbl[i]?) := by decide +kernel
  rw [h] at hw
  obtain ⟨i, -, hi⟩ := List.mem_filterMap.mp hw
  exact List.mem_of_getElem? hi
abbrev classes : List vw_C := [("NestRanges$History", cT0, 3), ("NestRanges$Nest", cT1, 12), ("NestRanges$Sections", cT2, 5), ("NestRanges$Text", cT3, 6), ("NestRanges$Weights", cT4, 8), ("NestRanges", cT5, 10), ("NestRangesModel", cT6, 25)]
/-- of each class, its fields: kind (0 int, 1 boolean) and, of a reference, how many cells behind the object its cell lies -/
def clsF : List (List (Nat × Nat)) := [[(30, 1), (0, 0), (0, 0)],
  [(12, 1), (10015, 5), (10083, 6), (10083, 7), (10083, 8), (10083, 9), (10083, 10), (10005, 11), (0, 0), (0, 0), (0, 0), (0, 0)],
  [(10016, 1), (10015, 2), (10015, 3), (0, 0), (0, 0)],
  [(10008, 1), (10008, 2), (10008, 3), (10004, 4), (0, 0), (0, 0)],
  [(31, 1), (31, 17), (32, 33), (10015, 36), (10008, 37), (0, 0), (0, 0), (0, 0)],
  [(13, 1), (13, 6), (10, 11), (14, 73), (12, 111), (11, 115), (1, 0), (0, 0), (0, 0), (0, 0)],
  [(10003, 1), (0, 0), (0, 0), (10009, 2), (10009, 3), (10009, 4), (10004, 5), (10360, 6), (0, 0), (0, 0), (10016, 7), (10015, 8), (10015, 9), (11800, 10), (11800, 11), (21800, 12), (10015, 13), (10005, 14), (0, 0), (10128, 15), (10128, 16), (10128, 17), (10128, 18), (10128, 19), (10008, 20)]]
def layX : List Nat := [15, 13, 10008, 10008, 10008, 10004, 13, 10008, 10008, 10008, 10004, 10, 30, 13, 10008, 10008, 10008, 10004, 13, 10008, 10008, 10008, 10004, 13, 10008, 10008, 10008, 10004, 13, 10008, 10008, 10008, 10004, 13, 10008, 10008, 10008, 10004, 13, 10008, 10008, 10008, 10004, 13, 10008, 10008, 10008, 10004, 13, 10008, 10008, 10008, 10004, 13, 10008, 10008, 10008, 10004, 13, 10008, 10008, 10008, 10004, 13, 10008, 10008, 10008, 10004, 13, 10008, 10008, 10008, 10004, 14, 31, 10120, 10120, 10120, 10120, 10120, 10120, 10120, 10120, 10120, 10120, 10120, 10120, 10120, 10120, 10120, 31, 10120, 10120, 10120, 10120, 10120, 10120, 10120, 10120, 10120, 10120, 10120, 10120, 10120, 10120, 10120, 32, 10120, 10120, 10015, 10008, 12, 10016, 10015, 10015, 11, 12, 10016, 10015, 10015, 10015, 10083, 10083, 10083, 10083, 10083, 10005]
def layM : List Nat := [16, 10003, 10009, 10009, 10009, 10004, 10360, 10016, 10015, 10015, 11800, 11800, 21800, 10015, 10005, 10128, 10128, 10128, 10128, 10128, 10008]
abbrev INS : Type := Nat × Int × List Nat
abbrev nO : INS := (99, 0, [])
abbrev mInt_bitCount : Nat := 0
def tInt_bitCount : List (List INS) := [[(2, 0, [0, 0]), (2, 0, [0, 0]), (0, 1, [1, 0, 0, 0]), (9, 0, [8]), (0, 1431655765, [3, 4, 265, 340]), nO, nO, (9, 0, [3]), (9, 0, [1]), (5, 0, [0, 0]), (2, 0, [0, 0]), (0, 858993459, [3, 4, 266, 341]), nO, nO, (9, 0, [3]), (2, 0, [0, 0])],
  [(0, 2, [1, 0, 0, 0]), (9, 0, [8]), (0, 858993459, [3, 4, 266, 341]), nO, nO, (9, 0, [3]), (9, 0, [0]), (5, 0, [0, 0]), (2, 0, [0, 0]), (2, 0, [0, 0]), (0, 4, [1, 0, 0, 0]), (9, 0, [8]), (9, 0, [0]), (0, 252645135, [3, 4, 267, 342]), nO, nO],
  [(9, 0, [3]), (5, 0, [0, 0]), (2, 0, [0, 0]), (2, 0, [0, 0]), (0, 8, [2, 1, 0, 0]), nO, (9, 0, [8]), (9, 0, [0]), (5, 0, [0, 0]), (2, 0, [0, 0]), (2, 0, [0, 0]), (0, 16, [2, 1, 0, 0]), nO, (9, 0, [8]), (9, 0, [0]), (5, 0, [0, 0])],
  [(2, 0, [0, 0]), (0, 63, [2, 1, 0, 0]), nO, (9, 0, [3]), (31, 0, [0])]]
abbrev mSt_at : Nat := 1
def tSt_at : List (List INS) := [[(2, 0, [1, 0]), (20, 0, [2, 9]), nO, nO, (2, 0, [1, 0]), (0, 5, [1, 0, 0, 0]), (21, 0, [2, 11]), nO, nO, (0, (-1), [1, 0, 0, 0]), (31, 0, [0]), (2, 0, [0, 0]), (0, 4, [1, 0, 0, 0]), (2, 0, [1, 0]), (9, 0, [2]), (9, 0, [7])],
  [(0, 15, [2, 1, 0, 0]), nO, (9, 0, [3]), (0, 1, [1, 0, 0, 0]), (9, 0, [1]), (31, 0, [0])]]
abbrev mSt_with : Nat := 2
def tSt_with : List (List INS) := [[(2, 0, [1, 0]), (20, 0, [2, 9]), nO, nO, (2, 0, [1, 0]), (0, 5, [1, 0, 0, 0]), (21, 0, [2, 11]), nO, nO, (2, 0, [0, 0]), (31, 0, [0]), (2, 0, [0, 0]), (2, 0, [2, 0]), (0, 1, [1, 0, 0, 0]), (9, 0, [0]), (0, 4, [1, 0, 0, 0])],
  [(2, 0, [1, 0]), (9, 0, [2]), (9, 0, [6]), (9, 0, [4]), (31, 0, [0])]]
abbrev mSt_alike : Nat := 3
def tSt_alike : List (List INS) := [[(0, 0, [1, 0, 0, 0]), (5, 0, [2, 0]), (2, 0, [2, 0]), (0, 5, [1, 0, 0, 0]), (21, 0, [3, 35]), nO, nO, (2, 0, [0, 0]), (2, 0, [2, 0]), (35, 0, [9, 1, 2, 1, 0, 513, 501, 500, 0, 73]), nO, nO, (5, 0, [3, 0]), (2, 0, [3, 0]), (0, (-1), [1, 0, 0, 0]), (21, 0, [0, 27])],
  [nO, nO, (2, 0, [3, 0]), (2, 0, [1, 0]), (2, 0, [2, 0]), (35, 0, [9, 1, 2, 1, 0, 513, 501, 500, 0, 73]), nO, nO, (21, 0, [0, 29]), nO, nO, (2, 0, [2, 0]), (31, 0, [0]), (8, 1, [2]), nO, nO],
  [(19, 0, [2]), nO, nO, (0, 5, [1, 0, 0, 0]), (31, 0, [0])]]
abbrev mTe_clear : Nat := 4
def tTe_clear : List (List INS) := [[(4, 0, [0, 0]), (0, 0, [1, 0, 0, 0]), (24, 0, [24, 3, 4, 104]), nO, nO, (4, 0, [0, 0]), (2, 0, [1, 0]), (24, 0, [28, 3, 5, 108]), nO, nO, (0, 0, [1, 0, 0, 0]), (5, 0, [2, 0]), (2, 0, [2, 0]), (0, 4, [1, 0, 0, 0]), (21, 0, [3, 30]), nO],
  [nO, (4, 0, [0, 0]), (23, 0, [21, 3, 3, 102]), nO, nO, (2, 0, [2, 0]), (2, 0, [2, 0]), (26, 0, []), (8, 1, [2]), nO, nO, (19, 0, [12]), nO, nO, (33, 0, [])]]
abbrev mTe_copy : Nat := 5
def tTe_copy : List (List INS) := [[(4, 0, [0, 0]), (4, 0, [1, 0]), (23, 0, [24, 3, 4, 104]), nO, nO, (24, 0, [24, 3, 4, 104]), nO, nO, (4, 0, [0, 0]), (4, 0, [1, 0]), (23, 0, [28, 3, 5, 108]), nO, nO, (24, 0, [28, 3, 5, 108]), nO, nO],
  [(0, 0, [1, 0, 0, 0]), (5, 0, [2, 0]), (2, 0, [2, 0]), (0, 8, [2, 1, 0, 0]), nO, (21, 0, [3, 66]), nO, nO, (4, 0, [0, 0]), (23, 0, [9, 3, 0, 92]), nO, nO, (2, 0, [2, 0]), (4, 0, [1, 0]), (23, 0, [9, 3, 0, 92]), nO],
  [nO, (2, 0, [2, 0]), (25, 0, []), (26, 0, []), (4, 0, [0, 0]), (23, 0, [15, 3, 1, 95]), nO, nO, (2, 0, [2, 0]), (4, 0, [1, 0]), (23, 0, [15, 3, 1, 95]), nO, nO, (2, 0, [2, 0]), (25, 0, []), (26, 0, [])],
  [(4, 0, [0, 0]), (23, 0, [18, 3, 2, 99]), nO, nO, (2, 0, [2, 0]), (4, 0, [1, 0]), (23, 0, [18, 3, 2, 99]), nO, nO, (2, 0, [2, 0]), (25, 0, []), (26, 0, []), (8, 1, [2]), nO, nO, (19, 0, [18])],
  [nO, nO, (0, 0, [1, 0, 0, 0]), (5, 0, [2, 0]), (2, 0, [2, 0]), (0, 4, [1, 0, 0, 0]), (21, 0, [3, 91]), nO, nO, (4, 0, [0, 0]), (23, 0, [21, 3, 3, 102]), nO, nO, (2, 0, [2, 0]), (4, 0, [1, 0]), (23, 0, [21, 3, 3, 102])],
  [nO, nO, (2, 0, [2, 0]), (25, 0, []), (26, 0, []), (8, 1, [2]), nO, nO, (19, 0, [68]), nO, nO, (33, 0, [])]]
abbrev mTe_isKindNumber : Nat := 6
def tTe_isKindNumber : List (List INS) := [[(2, 0, [0, 0]), (20, 0, [2, 13]), nO, nO, (2, 0, [0, 0]), (0, 4, [1, 0, 0, 0]), (21, 0, [3, 13]), nO, nO, (0, 1, [1, 0, 0, 0]), (19, 0, [14]), nO, nO, (0, 0, [1, 0, 0, 0]), (31, 0, [1])]]
abbrev mTe_has : Nat := 7
def tTe_has : List (List INS) := [[(2, 0, [1, 0]), (20, 0, [2, 22]), nO, nO, (2, 0, [1, 0]), (4, 0, [0, 0]), (23, 0, [24, 3, 4, 104]), nO, nO, (21, 0, [3, 22]), nO, nO, (2, 0, [1, 0]), (0, 8, [2, 1, 0, 0]), nO, (21, 0, [3, 22])],
  [nO, nO, (0, 1, [1, 0, 0, 0]), (19, 0, [23]), nO, nO, (0, 0, [1, 0, 0, 0]), (31, 0, [1])]]
abbrev mTe_holds : Nat := 8
def tTe_holds : List (List INS) := [[(2, 0, [1, 0]), (20, 0, [2, 21]), nO, nO, (2, 0, [1, 0]), (2, 0, [2, 0]), (21, 0, [4, 21]), nO, nO, (2, 0, [2, 0]), (4, 0, [0, 0]), (23, 0, [28, 3, 5, 108]), nO, nO, (21, 0, [4, 21]), nO],
  [nO, (0, 1, [1, 0, 0, 0]), (19, 0, [22]), nO, nO, (0, 0, [1, 0, 0, 0]), (31, 0, [1])]]
abbrev mTe_isEmpty : Nat := 9
def tTe_isEmpty : List (List INS) := [[(4, 0, [0, 0]), (2, 0, [1, 0]), (34, 0, [35, 7, 1, 1, 3, 368, 363, 361, 362, 65]), nO, nO, (20, 0, [0, 23]), nO, nO, (4, 0, [0, 0]), (23, 0, [15, 3, 1, 95]), nO, nO, (2, 0, [1, 0]), (25, 0, []), (4, 0, [0, 0]), (23, 0, [18, 3, 2, 99])],
  [nO, nO, (2, 0, [1, 0]), (25, 0, []), (21, 0, [1, 27]), nO, nO, (0, 1, [1, 0, 0, 0]), (19, 0, [28]), nO, nO, (0, 0, [1, 0, 0, 0]), (31, 0, [1])]]
abbrev mTe_rankOf : Nat := 10
def tTe_rankOf : List (List INS) := [[(4, 0, [0, 0]), (2, 0, [1, 0]), (34, 0, [35, 7, 1, 1, 3, 368, 363, 361, 362, 65]), nO, nO, (20, 0, [1, 10]), nO, nO, (0, 0, [1, 0, 0, 0]), (31, 0, [0]), (4, 0, [0, 0]), (23, 0, [9, 3, 0, 92]), nO, nO, (2, 0, [1, 0]), (25, 0, [])],
  [(5, 0, [2, 0]), (2, 0, [2, 0]), (35, 0, [39, 6, 1, 1, 0, 460, 316, 315, 0, 65]), nO, nO, (20, 0, [0, 33]), nO, nO, (4, 0, [0, 0]), (23, 0, [21, 3, 3, 102]), nO, nO, (2, 0, [2, 0]), (25, 0, []), (19, 0, [34]), nO],
  [nO, (0, 0, [1, 0, 0, 0]), (31, 0, [0])]]
abbrev mTe_ranksAsOne : Nat := 11
def tTe_ranksAsOne : List (List INS) := [[(0, 0, [1, 0, 0, 0]), (5, 0, [1, 0]), (0, 0, [1, 0, 0, 0]), (5, 0, [2, 0]), (2, 0, [2, 0]), (0, 4, [1, 0, 0, 0]), (21, 0, [3, 27]), nO, nO, (0, 10, [2, 1, 0, 0]), nO, (2, 0, [1, 0]), (9, 0, [2]), (4, 0, [0, 0]), (23, 0, [21, 3, 3, 102]), nO],
  [nO, (2, 0, [2, 0]), (25, 0, []), (9, 0, [0]), (5, 0, [1, 0]), (8, 1, [2]), nO, nO, (19, 0, [4]), nO, nO, (2, 0, [1, 0]), (31, 0, [0])]]
abbrev mTe_coverAt : Nat := 12
def tTe_coverAt : List (List INS) := [[(0, 0, [1, 0, 0, 0]), (5, 0, [2, 0]), (0, 0, [1, 0, 0, 0]), (5, 0, [3, 0]), (2, 0, [3, 0]), (4, 0, [0, 0]), (23, 0, [24, 3, 4, 104]), nO, nO, (21, 0, [3, 50]), nO, nO, (2, 0, [3, 0]), (0, 8, [2, 1, 0, 0]), nO, (21, 0, [3, 50])],
  [nO, nO, (4, 0, [0, 0]), (23, 0, [15, 3, 1, 95]), nO, nO, (2, 0, [3, 0]), (25, 0, []), (2, 0, [1, 0]), (21, 0, [4, 44]), nO, nO, (2, 0, [1, 0]), (4, 0, [0, 0]), (23, 0, [18, 3, 2, 99]), nO],
  [nO, (2, 0, [3, 0]), (25, 0, []), (21, 0, [3, 44]), nO, nO, (2, 0, [2, 0]), (0, 1, [1, 0, 0, 0]), (2, 0, [3, 0]), (9, 0, [6]), (9, 0, [4]), (5, 0, [2, 0]), (8, 1, [3]), nO, nO, (19, 0, [4])],
  [nO, nO, (2, 0, [2, 0]), (31, 0, [0])]]
abbrev mTe_isCrowded : Nat := 13
def tTe_isCrowded : List (List INS) := [[(0, 0, [1, 0, 0, 0]), (5, 0, [1, 0]), (2, 0, [1, 0]), (4, 0, [0, 0]), (23, 0, [24, 3, 4, 104]), nO, nO, (21, 0, [3, 41]), nO, nO, (2, 0, [1, 0]), (0, 8, [2, 1, 0, 0]), nO, (21, 0, [3, 41]), nO, nO],
  [(4, 0, [0, 0]), (4, 0, [0, 0]), (23, 0, [15, 3, 1, 95]), nO, nO, (2, 0, [1, 0]), (25, 0, []), (34, 0, [42, 12, 1, 1, 3, 333, 336, 334, 335, 65]), nO, nO, (35, 0, [46, 0, 1, 1, 0, 337, 339, 338, 0, 71]), nO, nO, (0, 5, [1, 0, 0, 0]), (21, 0, [5, 35]), nO],
  [nO, (0, 1, [1, 0, 0, 0]), (31, 0, [1]), (8, 1, [1]), nO, nO, (19, 0, [2]), nO, nO, (0, 0, [1, 0, 0, 0]), (31, 0, [1])]]
abbrev mTe_howManyAcross : Nat := 14
def tTe_howManyAcross : List (List INS) := [[(0, 0, [1, 0, 0, 0]), (5, 0, [2, 0]), (0, 0, [1, 0, 0, 0]), (5, 0, [3, 0]), (2, 0, [3, 0]), (4, 0, [0, 0]), (23, 0, [24, 3, 4, 104]), nO, nO, (21, 0, [3, 45]), nO, nO, (2, 0, [3, 0]), (0, 8, [2, 1, 0, 0]), nO, (21, 0, [3, 45])],
  [nO, nO, (4, 0, [0, 0]), (2, 0, [1, 0]), (2, 0, [3, 0]), (34, 0, [51, 15, 2, 1, 3, 586, 589, 588, 22, 65]), nO, nO, (20, 0, [1, 36]), nO, nO, (4, 0, [0, 0]), (2, 0, [3, 0]), (2, 0, [1, 0]), (34, 0, [51, 15, 2, 1, 3, 586, 589, 588, 22, 65]), nO],
  [nO, (20, 0, [0, 39]), nO, nO, (8, 1, [2]), nO, nO, (8, 1, [3]), nO, nO, (19, 0, [4]), nO, nO, (2, 0, [2, 0]), (31, 0, [0])]]
abbrev mTe_isAcross : Nat := 15
def tTe_isAcross : List (List INS) := [[(4, 0, [0, 0]), (2, 0, [1, 0]), (34, 0, [35, 7, 1, 1, 3, 368, 363, 361, 362, 65]), nO, nO, (20, 0, [0, 16]), nO, nO, (4, 0, [0, 0]), (2, 0, [2, 0]), (34, 0, [35, 7, 1, 1, 3, 368, 363, 361, 362, 65]), nO, nO, (20, 0, [1, 18]), nO, nO],
  [(0, 0, [1, 0, 0, 0]), (31, 0, [1]), (4, 0, [0, 0]), (23, 0, [15, 3, 1, 95]), nO, nO, (2, 0, [1, 0]), (25, 0, []), (4, 0, [0, 0]), (23, 0, [15, 3, 1, 95]), nO, nO, (2, 0, [2, 0]), (25, 0, []), (21, 0, [3, 67]), nO],
  [nO, (4, 0, [0, 0]), (23, 0, [15, 3, 1, 95]), nO, nO, (2, 0, [2, 0]), (25, 0, []), (4, 0, [0, 0]), (23, 0, [18, 3, 2, 99]), nO, nO, (2, 0, [1, 0]), (25, 0, []), (21, 0, [3, 67]), nO, nO],
  [(4, 0, [0, 0]), (23, 0, [18, 3, 2, 99]), nO, nO, (2, 0, [1, 0]), (25, 0, []), (4, 0, [0, 0]), (23, 0, [18, 3, 2, 99]), nO, nO, (2, 0, [2, 0]), (25, 0, []), (21, 0, [3, 67]), nO, nO, (0, 1, [1, 0, 0, 0])],
  [(19, 0, [68]), nO, nO, (0, 0, [1, 0, 0, 0]), (31, 0, [1])]]
abbrev mTe_append : Nat := 16
def tTe_append : List (List INS) := [[(4, 0, [0, 0]), (23, 0, [24, 3, 4, 104]), nO, nO, (20, 0, [2, 16]), nO, nO, (4, 0, [0, 0]), (23, 0, [24, 3, 4, 104]), nO, nO, (0, 8, [2, 1, 0, 0]), nO, (21, 0, [2, 18]), nO, nO],
  [(0, 0, [1, 0, 0, 0]), (31, 0, [1]), (4, 0, [0, 0]), (23, 0, [9, 3, 0, 92]), nO, nO, (4, 0, [0, 0]), (23, 0, [24, 3, 4, 104]), nO, nO, (2, 0, [1, 0]), (26, 0, []), (4, 0, [0, 0]), (23, 0, [15, 3, 1, 95]), nO, nO],
  [(4, 0, [0, 0]), (23, 0, [24, 3, 4, 104]), nO, nO, (2, 0, [2, 0]), (26, 0, []), (4, 0, [0, 0]), (23, 0, [18, 3, 2, 99]), nO, nO, (4, 0, [0, 0]), (23, 0, [24, 3, 4, 104]), nO, nO, (2, 0, [3, 0]), (26, 0, [])],
  [(4, 0, [0, 0]), (16, 0, []), (23, 0, [24, 3, 4, 104]), nO, nO, (0, 1, [1, 0, 0, 0]), (9, 0, [0]), (24, 0, [24, 3, 4, 104]), nO, nO, (0, 1, [1, 0, 0, 0]), (31, 0, [1])]]
abbrev mTe_lay : Nat := 17
def tTe_lay : List (List INS) := [[(4, 0, [0, 0]), (2, 0, [1, 0]), (34, 0, [35, 7, 1, 1, 3, 368, 363, 361, 362, 65]), nO, nO, (20, 0, [1, 9]), nO, nO, (33, 0, []), (4, 0, [0, 0]), (23, 0, [15, 3, 1, 95]), nO, nO, (2, 0, [1, 0]), (2, 0, [2, 0]), (26, 0, [])],
  [(4, 0, [0, 0]), (23, 0, [18, 3, 2, 99]), nO, nO, (2, 0, [1, 0]), (2, 0, [3, 0]), (26, 0, []), (33, 0, [])]]
abbrev mTe_remove : Nat := 18
def tTe_remove : List (List INS) := [[(4, 0, [0, 0]), (2, 0, [1, 0]), (34, 0, [35, 7, 1, 1, 3, 368, 363, 361, 362, 65]), nO, nO, (20, 0, [1, 9]), nO, nO, (33, 0, []), (2, 0, [1, 0]), (5, 0, [2, 0]), (2, 0, [2, 0]), (0, 1, [1, 0, 0, 0]), (9, 0, [0]), (4, 0, [0, 0]), (23, 0, [24, 3, 4, 104])],
  [nO, nO, (21, 0, [3, 77]), nO, nO, (2, 0, [2, 0]), (0, 1, [1, 0, 0, 0]), (9, 0, [0]), (0, 8, [2, 1, 0, 0]), nO, (21, 0, [3, 77]), nO, nO, (4, 0, [0, 0]), (23, 0, [9, 3, 0, 92]), nO],
  [nO, (2, 0, [2, 0]), (4, 0, [0, 0]), (23, 0, [9, 3, 0, 92]), nO, nO, (2, 0, [2, 0]), (0, 1, [1, 0, 0, 0]), (9, 0, [0]), (25, 0, []), (26, 0, []), (4, 0, [0, 0]), (23, 0, [15, 3, 1, 95]), nO, nO, (2, 0, [2, 0])],
  [(4, 0, [0, 0]), (23, 0, [15, 3, 1, 95]), nO, nO, (2, 0, [2, 0]), (0, 1, [1, 0, 0, 0]), (9, 0, [0]), (25, 0, []), (26, 0, []), (4, 0, [0, 0]), (23, 0, [18, 3, 2, 99]), nO, nO, (2, 0, [2, 0]), (4, 0, [0, 0]), (23, 0, [18, 3, 2, 99])],
  [nO, nO, (2, 0, [2, 0]), (0, 1, [1, 0, 0, 0]), (9, 0, [0]), (25, 0, []), (26, 0, []), (8, 1, [2]), nO, nO, (19, 0, [11]), nO, nO, (4, 0, [0, 0]), (16, 0, []), (23, 0, [24, 3, 4, 104])],
  [nO, nO, (0, 1, [1, 0, 0, 0]), (9, 0, [1]), (24, 0, [24, 3, 4, 104]), nO, nO, (33, 0, [])]]
abbrev mTe_putIn : Nat := 19
def tTe_putIn : List (List INS) := [[(4, 0, [0, 0]), (16, 0, []), (23, 0, [28, 3, 5, 108]), nO, nO, (2, 0, [2, 0]), (9, 0, [0]), (24, 0, [28, 3, 5, 108]), nO, nO, (0, 0, [1, 0, 0, 0]), (5, 0, [3, 0]), (2, 0, [3, 0]), (4, 0, [0, 0]), (23, 0, [24, 3, 4, 104]), nO],
  [nO, (21, 0, [3, 102]), nO, nO, (2, 0, [3, 0]), (0, 8, [2, 1, 0, 0]), nO, (21, 0, [3, 102]), nO, nO, (4, 0, [0, 0]), (23, 0, [15, 3, 1, 95]), nO, nO, (2, 0, [3, 0]), (25, 0, [])],
  [(2, 0, [1, 0]), (21, 0, [4, 54]), nO, nO, (4, 0, [0, 0]), (23, 0, [15, 3, 1, 95]), nO, nO, (2, 0, [3, 0]), (25, 0, []), (2, 0, [1, 0]), (21, 0, [1, 58]), nO, nO, (4, 0, [0, 0]), (2, 0, [3, 0])],
  [(34, 0, [55, 9, 1, 1, 3, 393, 396, 394, 395, 65]), nO, nO, (20, 0, [1, 58]), nO, nO, (0, 1, [1, 0, 0, 0]), (19, 0, [59]), nO, nO, (0, 0, [1, 0, 0, 0]), (5, 0, [4, 1]), nO, (2, 0, [4, 1]), nO, (20, 0, [0, 76])],
  [nO, nO, (4, 0, [0, 0]), (23, 0, [15, 3, 1, 95]), nO, nO, (2, 0, [3, 0]), (17, 0, []), (25, 0, []), (2, 0, [2, 0]), (9, 0, [0]), (26, 0, []), (4, 0, [0, 0]), (23, 0, [18, 3, 2, 99]), nO, nO],
  [(2, 0, [3, 0]), (25, 0, []), (2, 0, [1, 0]), (21, 0, [5, 96]), nO, nO, (4, 0, [0, 0]), (23, 0, [18, 3, 2, 99]), nO, nO, (2, 0, [3, 0]), (17, 0, []), (25, 0, []), (2, 0, [2, 0]), (9, 0, [0]), (26, 0, [])],
  [(8, 1, [3]), nO, nO, (19, 0, [12]), nO, nO, (33, 0, [])]]
abbrev mTe_takeOut : Nat := 20
def tTe_takeOut : List (List INS) := [[(4, 0, [0, 0]), (16, 0, []), (23, 0, [28, 3, 5, 108]), nO, nO, (2, 0, [2, 0]), (2, 0, [1, 0]), (9, 0, [1]), (9, 0, [1]), (24, 0, [28, 3, 5, 108]), nO, nO, (0, 0, [1, 0, 0, 0]), (5, 0, [3, 0]), (2, 0, [3, 0]), (4, 0, [0, 0])],
  [(23, 0, [24, 3, 4, 104]), nO, nO, (21, 0, [3, 68]), nO, nO, (2, 0, [3, 0]), (0, 8, [2, 1, 0, 0]), nO, (21, 0, [3, 68]), nO, nO, (4, 0, [0, 0]), (23, 0, [15, 3, 1, 95]), nO, nO],
  [(2, 0, [3, 0]), (4, 0, [0, 0]), (23, 0, [15, 3, 1, 95]), nO, nO, (2, 0, [3, 0]), (25, 0, []), (2, 0, [1, 0]), (2, 0, [2, 0]), (35, 0, [58, 21, 3, 1, 0, 405, 407, 406, 0, 65]), nO, nO, (26, 0, []), (4, 0, [0, 0]), (23, 0, [18, 3, 2, 99]), nO],
  [nO, (2, 0, [3, 0]), (4, 0, [0, 0]), (23, 0, [18, 3, 2, 99]), nO, nO, (2, 0, [3, 0]), (25, 0, []), (2, 0, [1, 0]), (2, 0, [2, 0]), (35, 0, [58, 21, 3, 1, 0, 405, 407, 406, 0, 65]), nO, nO, (26, 0, []), (8, 1, [3]), nO],
  [nO, (19, 0, [14]), nO, nO, (33, 0, [])]]
abbrev mTe_afterTaking : Nat := 21
def tTe_afterTaking : List (List INS) := [[(2, 0, [0, 0]), (2, 0, [2, 0]), (21, 0, [2, 11]), nO, nO, (2, 0, [0, 0]), (2, 0, [2, 0]), (2, 0, [1, 0]), (9, 0, [1]), (9, 0, [1]), (31, 0, [0]), (2, 0, [0, 0]), (2, 0, [1, 0]), (36, 0, [62, 1, 408, 409, 72, 410]), nO, nO],
  [(31, 0, [0])]]
abbrev mTe_gatherInto : Nat := 22
def tTe_gatherInto : List (List INS) := [[(4, 0, [0, 0]), (2, 0, [1, 0]), (34, 0, [55, 9, 1, 1, 3, 393, 396, 394, 395, 65]), nO, nO, (20, 0, [0, 9]), nO, nO, (33, 0, []), (0, 0, [1, 0, 0, 0]), (5, 0, [2, 0]), (2, 0, [2, 0]), (0, 8, [2, 1, 0, 0]), nO, (21, 0, [3, 95]), nO],
  [nO, (4, 0, [0, 0]), (23, 0, [24, 3, 4, 104]), nO, nO, (0, 8, [2, 1, 0, 0]), nO, (36, 0, [62, 1, 408, 409, 72, 410]), nO, nO, (0, 1, [1, 0, 0, 0]), (9, 0, [1]), (5, 0, [3, 0]), (2, 0, [3, 0]), (2, 0, [1, 0]), (21, 0, [5, 89])],
  [nO, nO, (4, 0, [0, 0]), (2, 0, [1, 0]), (2, 0, [3, 0]), (34, 0, [68, 23, 2, 1, 3, 419, 422, 421, 3, 65]), nO, nO, (20, 0, [0, 83]), nO, nO, (4, 0, [0, 0]), (2, 0, [1, 0]), (4, 0, [0, 0]), (23, 0, [15, 3, 1, 95]), nO],
  [nO, (2, 0, [1, 0]), (25, 0, []), (4, 0, [0, 0]), (23, 0, [15, 3, 1, 95]), nO, nO, (2, 0, [3, 0]), (25, 0, []), (36, 0, [62, 1, 408, 409, 72, 410]), nO, nO, (4, 0, [0, 0]), (23, 0, [18, 3, 2, 99]), nO, nO],
  [(2, 0, [1, 0]), (25, 0, []), (4, 0, [0, 0]), (23, 0, [18, 3, 2, 99]), nO, nO, (2, 0, [3, 0]), (25, 0, []), (36, 0, [71, 0, 423, 424, 72, 425]), nO, nO, (34, 0, [74, 17, 3, 0, 3, 426, 376, 374, 375, 65]), nO, nO, (4, 0, [0, 0]), (2, 0, [3, 0])],
  [(34, 0, [78, 18, 1, 0, 3, 427, 367, 365, 366, 65]), nO, nO, (8, (-1), [3]), nO, nO, (19, 0, [29]), nO, nO, (8, 1, [2]), nO, nO, (19, 0, [11]), nO, nO, (33, 0, [])]]
abbrev mTe_hangTogether : Nat := 23
def tTe_hangTogether : List (List INS) := [[(4, 0, [0, 0]), (2, 0, [1, 0]), (34, 0, [55, 9, 1, 1, 3, 393, 396, 394, 395, 65]), nO, nO, (20, 0, [1, 31]), nO, nO, (4, 0, [0, 0]), (2, 0, [2, 0]), (34, 0, [55, 9, 1, 1, 3, 393, 396, 394, 395, 65]), nO, nO, (20, 0, [1, 31]), nO, nO],
  [(4, 0, [0, 0]), (23, 0, [9, 3, 0, 92]), nO, nO, (2, 0, [1, 0]), (25, 0, []), (4, 0, [0, 0]), (23, 0, [9, 3, 0, 92]), nO, nO, (2, 0, [2, 0]), (25, 0, []), (21, 0, [0, 33]), nO, nO, (0, 0, [1, 0, 0, 0])],
  [(31, 0, [1]), (4, 0, [0, 0]), (23, 0, [15, 3, 1, 95]), nO, nO, (2, 0, [1, 0]), (25, 0, []), (4, 0, [0, 0]), (23, 0, [18, 3, 2, 99]), nO, nO, (2, 0, [2, 0]), (25, 0, []), (21, 0, [4, 67]), nO, nO],
  [(4, 0, [0, 0]), (23, 0, [15, 3, 1, 95]), nO, nO, (2, 0, [2, 0]), (25, 0, []), (4, 0, [0, 0]), (23, 0, [18, 3, 2, 99]), nO, nO, (2, 0, [1, 0]), (25, 0, []), (21, 0, [4, 67]), nO, nO, (0, 1, [1, 0, 0, 0])],
  [(19, 0, [68]), nO, nO, (0, 0, [1, 0, 0, 0]), (31, 0, [1])]]
abbrev mTe_placeBy : Nat := 24
def tTe_placeBy : List (List INS) := [[(4, 0, [0, 0]), (23, 0, [28, 3, 5, 108]), nO, nO, (13, 0, []), (1, 1, [1, 0, 0, 0]), (11, 0, [0]), (6, 0, [3, 0]), (3, 0, [3, 0]), (1, 1, [1, 0, 0, 0]), (15, 0, []), (20, 0, [3, 18]), nO, nO, (0, 0, [1, 0, 0, 0]), (19, 0, [22])],
  [nO, nO, (3, 0, [1, 0]), (3, 0, [3, 0]), (12, 0, [1]), (14, 0, []), (31, 0, [0])]]
abbrev mHi_forget : Nat := 25
def tHi_forget : List (List INS) := [[(4, 0, [0, 0]), (0, 0, [1, 0, 0, 0]), (24, 0, [21, 0, 2, 136]), nO, nO, (33, 0, [])]]
abbrev mHi_keep : Nat := 26
def tHi_keep : List (List INS) := [[(4, 0, [0, 0]), (23, 0, [17, 0, 1, 135]), nO, nO, (20, 0, [2, 16]), nO, nO, (4, 0, [0, 0]), (23, 0, [17, 0, 1, 135]), nO, nO, (0, 12, [2, 1, 0, 0]), nO, (21, 0, [2, 21]), nO, nO],
  [(4, 0, [0, 0]), (0, 0, [1, 0, 0, 0]), (24, 0, [17, 0, 1, 135]), nO, nO, (4, 0, [0, 0]), (23, 0, [11, 0, 0, 134]), nO, nO, (4, 0, [0, 0]), (23, 0, [17, 0, 1, 135]), nO, nO, (29, 0, []), (4, 0, [1, 0]), (34, 0, [25, 5, 1, 0, 3, 355, 324, 322, 323, 65])],
  [nO, nO, (4, 0, [0, 0]), (4, 0, [0, 0]), (23, 0, [17, 0, 1, 135]), nO, nO, (0, 1, [1, 0, 0, 0]), (9, 0, [0]), (0, 12, [2, 1, 0, 0]), nO, (10, 0, [1]), (24, 0, [17, 0, 1, 135]), nO, nO, (4, 0, [0, 0])],
  [(23, 0, [21, 0, 2, 136]), nO, nO, (0, 12, [2, 1, 0, 0]), nO, (21, 0, [3, 66]), nO, nO, (4, 0, [0, 0]), (16, 0, []), (23, 0, [21, 0, 2, 136]), nO, nO, (0, 1, [1, 0, 0, 0]), (9, 0, [0]), (24, 0, [21, 0, 2, 136])],
  [nO, nO, (33, 0, [])]]
abbrev mHi_takeBack : Nat := 27
def tHi_takeBack : List (List INS) := [[(4, 0, [0, 0]), (23, 0, [21, 0, 2, 136]), nO, nO, (20, 0, [4, 9]), nO, nO, (0, 0, [1, 0, 0, 0]), (31, 0, [1]), (4, 0, [0, 0]), (4, 0, [0, 0]), (23, 0, [17, 0, 1, 135]), nO, nO, (20, 0, [4, 22]), nO],
  [nO, (0, 11, [2, 1, 0, 0]), nO, (19, 0, [28]), nO, nO, (4, 0, [0, 0]), (23, 0, [17, 0, 1, 135]), nO, nO, (0, 1, [1, 0, 0, 0]), (9, 0, [1]), (24, 0, [17, 0, 1, 135]), nO, nO, (4, 0, [0, 0])],
  [(23, 0, [17, 0, 1, 135]), nO, nO, (0, 12, [2, 1, 0, 0]), nO, (21, 0, [2, 42]), nO, nO, (0, 0, [1, 0, 0, 0]), (31, 0, [1]), (4, 0, [1, 0]), (4, 0, [0, 0]), (23, 0, [11, 0, 0, 134]), nO, nO, (4, 0, [0, 0])],
  [(23, 0, [17, 0, 1, 135]), nO, nO, (29, 0, []), (34, 0, [25, 5, 1, 0, 3, 355, 324, 322, 323, 65]), nO, nO, (4, 0, [0, 0]), (16, 0, []), (23, 0, [21, 0, 2, 136]), nO, nO, (0, 1, [1, 0, 0, 0]), (9, 0, [1]), (24, 0, [21, 0, 2, 136]), nO],
  [nO, (0, 1, [1, 0, 0, 0]), (31, 0, [1])]]
abbrev mSe_has : Nat := 28
def tSe_has : List (List INS) := [[(2, 0, [1, 0]), (20, 0, [2, 22]), nO, nO, (2, 0, [1, 0]), (4, 0, [0, 0]), (23, 0, [25, 2, 4, 196]), nO, nO, (21, 0, [3, 22]), nO, nO, (2, 0, [1, 0]), (0, 15, [2, 1, 0, 0]), nO, (21, 0, [3, 22])],
  [nO, nO, (0, 1, [1, 0, 0, 0]), (19, 0, [23]), nO, nO, (0, 0, [1, 0, 0, 0]), (31, 0, [1])]]
abbrev mSe_isCut : Nat := 29
def tSe_isCut : List (List INS) := [[(2, 0, [1, 0]), (20, 0, [2, 32]), nO, nO, (2, 0, [1, 0]), (4, 0, [0, 0]), (23, 0, [21, 2, 3, 195]), nO, nO, (21, 0, [3, 32]), nO, nO, (2, 0, [1, 0]), (0, 16, [2, 1, 0, 0]), nO, (21, 0, [3, 32])],
  [nO, nO, (4, 0, [0, 0]), (23, 0, [9, 2, 0, 186]), nO, nO, (2, 0, [1, 0]), (25, 0, []), (2, 0, [2, 0]), (21, 0, [1, 32]), nO, nO, (0, 1, [1, 0, 0, 0]), (19, 0, [33]), nO, nO],
  [(0, 0, [1, 0, 0, 0]), (31, 0, [1])]]
abbrev mSe_cut : Nat := 30
def tSe_cut : List (List INS) := [[(4, 0, [0, 0]), (0, 0, [1, 0, 0, 0]), (24, 0, [21, 2, 3, 195]), nO, nO, (0, 0, [1, 0, 0, 0]), (5, 0, [3, 0]), (2, 0, [3, 0]), (4, 0, [1, 0]), (23, 0, [28, 3, 4, 107]), nO, nO, (21, 0, [3, 60]), nO, nO, (2, 0, [3, 0])],
  [(0, 8, [2, 1, 0, 0]), nO, (21, 0, [3, 60]), nO, nO, (2, 0, [3, 0]), (2, 0, [2, 0]), (21, 0, [0, 54]), nO, nO, (4, 0, [1, 0]), (2, 0, [3, 0]), (34, 0, [33, 9, 1, 1, 3, 440, 396, 394, 395, 65]), nO, nO, (20, 0, [1, 54])],
  [nO, nO, (4, 0, [0, 0]), (4, 0, [1, 0]), (23, 0, [37, 3, 1, 97]), nO, nO, (2, 0, [3, 0]), (25, 0, []), (34, 0, [40, 31, 1, 0, 2, 441, 444, 443, 5, 68]), nO, nO, (4, 0, [0, 0]), (4, 0, [1, 0]), (23, 0, [44, 3, 2, 100]), nO],
  [nO, (2, 0, [3, 0]), (25, 0, []), (34, 0, [40, 31, 1, 0, 2, 441, 444, 443, 5, 68]), nO, nO, (8, 1, [3]), nO, nO, (19, 0, [7]), nO, nO, (4, 0, [0, 0]), (0, 0, [1, 0, 0, 0]), (4, 0, [0, 0]), (23, 0, [21, 2, 3, 195])],
  [nO, nO, (0, 1, [1, 0, 0, 0]), (9, 0, [1]), (36, 0, [47, 0, 445, 424, 72, 425]), nO, nO, (24, 0, [25, 2, 4, 196]), nO, nO, (4, 0, [0, 0]), (4, 0, [1, 0]), (2, 0, [2, 0]), (34, 0, [53, 32, 2, 0, 2, 446, 449, 448, 6, 68]), nO, nO],
  [(33, 0, [])]]
abbrev mSe_addCut : Nat := 31
def tSe_addCut : List (List INS) := [[(0, 0, [1, 0, 0, 0]), (5, 0, [2, 0]), (2, 0, [2, 0]), (4, 0, [0, 0]), (23, 0, [21, 2, 3, 195]), nO, nO, (21, 0, [3, 32]), nO, nO, (2, 0, [2, 0]), (0, 16, [2, 1, 0, 0]), nO, (21, 0, [3, 32]), nO, nO],
  [(4, 0, [0, 0]), (23, 0, [9, 2, 0, 186]), nO, nO, (2, 0, [2, 0]), (25, 0, []), (2, 0, [1, 0]), (21, 0, [3, 32]), nO, nO, (8, 1, [2]), nO, nO, (19, 0, [2]), nO, nO],
  [(2, 0, [2, 0]), (4, 0, [0, 0]), (23, 0, [21, 2, 3, 195]), nO, nO, (21, 0, [3, 57]), nO, nO, (2, 0, [2, 0]), (0, 16, [2, 1, 0, 0]), nO, (21, 0, [3, 57]), nO, nO, (4, 0, [0, 0]), (23, 0, [9, 2, 0, 186])],
  [nO, nO, (2, 0, [2, 0]), (25, 0, []), (2, 0, [1, 0]), (21, 0, [1, 57]), nO, nO, (33, 0, []), (2, 0, [2, 0]), (4, 0, [0, 0]), (23, 0, [21, 2, 3, 195]), nO, nO, (21, 0, [4, 74]), nO],
  [nO, (4, 0, [0, 0]), (23, 0, [21, 2, 3, 195]), nO, nO, (0, 16, [2, 1, 0, 0]), nO, (21, 0, [2, 75]), nO, nO, (33, 0, []), (4, 0, [0, 0]), (23, 0, [21, 2, 3, 195]), nO, nO, (5, 0, [3, 0])],
  [(2, 0, [3, 0]), (2, 0, [2, 0]), (21, 0, [5, 105]), nO, nO, (4, 0, [0, 0]), (23, 0, [9, 2, 0, 186]), nO, nO, (2, 0, [3, 0]), (4, 0, [0, 0]), (23, 0, [9, 2, 0, 186]), nO, nO, (2, 0, [3, 0]), (0, 1, [1, 0, 0, 0])],
  [(9, 0, [1]), (25, 0, []), (26, 0, []), (8, (-1), [3]), nO, nO, (19, 0, [80]), nO, nO, (4, 0, [0, 0]), (23, 0, [9, 2, 0, 186]), nO, nO, (2, 0, [2, 0]), (2, 0, [1, 0]), (26, 0, [])],
  [(4, 0, [0, 0]), (16, 0, []), (23, 0, [21, 2, 3, 195]), nO, nO, (0, 1, [1, 0, 0, 0]), (9, 0, [0]), (24, 0, [21, 2, 3, 195]), nO, nO, (33, 0, [])]]
abbrev mSe_cover : Nat := 32
def tSe_cover : List (List INS) := [[(2, 0, [2, 0]), (20, 0, [3, 8]), nO, nO, (0, (-1), [1, 0, 0, 0]), (19, 0, [13]), nO, nO, (0, 1, [1, 0, 0, 0]), (2, 0, [2, 0]), (9, 0, [6]), (0, (-1), [1, 0, 0, 0]), (9, 0, [5]), (5, 0, [3, 0]), (0, 0, [1, 0, 0, 0]), (5, 0, [4, 1])],
  [nO, (2, 0, [4, 1]), nO, (4, 0, [0, 0]), (23, 0, [25, 2, 4, 196]), nO, nO, (21, 0, [3, 101]), nO, nO, (2, 0, [4, 1]), nO, (0, 15, [2, 1, 0, 0]), nO, (21, 0, [3, 101]), nO],
  [nO, (4, 0, [0, 0]), (23, 0, [15, 2, 1, 189]), nO, nO, (2, 0, [4, 1]), nO, (4, 0, [1, 0]), (4, 0, [0, 0]), (23, 0, [9, 2, 0, 186]), nO, nO, (2, 0, [4, 1]), nO, (25, 0, []), (34, 0, [57, 12, 1, 1, 3, 450, 336, 334, 335, 65])],
  [nO, nO, (2, 0, [3, 0]), (9, 0, [3]), (26, 0, []), (4, 0, [0, 0]), (23, 0, [18, 2, 2, 193]), nO, nO, (2, 0, [4, 1]), nO, (0, 0, [1, 0, 0, 0]), (26, 0, []), (2, 0, [4, 1]), nO, (20, 0, [5, 95])],
  [nO, nO, (4, 0, [0, 0]), (23, 0, [18, 2, 2, 193]), nO, nO, (2, 0, [4, 1]), nO, (0, 1, [1, 0, 0, 0]), (9, 0, [1]), (4, 0, [0, 0]), (23, 0, [15, 2, 1, 189]), nO, nO, (2, 0, [4, 1]), nO],
  [(0, 1, [1, 0, 0, 0]), (9, 0, [1]), (25, 0, []), (4, 0, [0, 0]), (23, 0, [15, 2, 1, 189]), nO, nO, (2, 0, [4, 1]), nO, (25, 0, []), (9, 0, [3]), (35, 0, [61, 0, 1, 1, 0, 451, 339, 338, 0, 71]), nO, nO, (26, 0, []), (8, 1, [4])],
  [nO, nO, (19, 0, [17]), nO, nO, (33, 0, [])]]
abbrev mWe_weigh : Nat := 33
def tWe_weigh : List (List INS) := [[(0, 0, [1, 0, 0, 0]), (5, 0, [4, 1]), nO, (2, 0, [4, 1]), nO, (0, 8, [2, 1, 0, 0]), nO, (21, 0, [3, 37]), nO, nO, (4, 0, [0, 0]), (23, 0, [26, 4, 4, 157]), nO, nO, (2, 0, [4, 1]), nO],
  [(2, 0, [3, 0]), (20, 0, [0, 24]), nO, nO, (0, 0, [1, 0, 0, 0]), (19, 0, [30]), nO, nO, (4, 0, [1, 0]), (2, 0, [4, 1]), nO, (34, 0, [39, 10, 1, 1, 3, 456, 459, 457, 458, 65]), nO, nO, (26, 0, []), (8, 1, [4])],
  [nO, nO, (19, 0, [3]), nO, nO, (4, 0, [2, 0]), (23, 0, [45, 2, 4, 197]), nO, nO, (0, 15, [2, 1, 0, 0]), nO, (36, 0, [50, 1, 461, 409, 72, 410]), nO, nO, (5, 0, [4, 1]), nO],
  [(2, 0, [4, 1]), nO, (0, 1, [1, 0, 0, 0]), (9, 0, [1]), (5, 0, [5, 1]), nO, (2, 0, [5, 1]), nO, (20, 0, [2, 172]), nO, nO, (4, 0, [0, 0]), (23, 0, [22, 4, 3, 156]), nO, nO, (2, 0, [5, 1])],
  [nO, (0, 0, [1, 0, 0, 0]), (26, 0, []), (4, 0, [0, 0]), (2, 0, [5, 1]), nO, (4, 0, [2, 0]), (23, 0, [56, 2, 1, 190]), nO, nO, (2, 0, [5, 1]), nO, (25, 0, []), (0, 0, [1, 0, 0, 0]), (0, 0, [1, 0, 0, 0]), (34, 0, [59, 34, 4, 0, 4, 462, 465, 464, 7, 67])],
  [nO, nO, (2, 0, [5, 1]), nO, (0, 1, [1, 0, 0, 0]), (9, 0, [0]), (2, 0, [4, 1]), nO, (21, 0, [2, 95]), nO, nO, (0, 1, [1, 0, 0, 0]), (19, 0, [96]), nO, nO, (0, 0, [1, 0, 0, 0])],
  [(5, 0, [6, 1]), nO, (4, 0, [0, 0]), (2, 0, [5, 1]), nO, (2, 0, [6, 1]), nO, (20, 0, [0, 110]), nO, nO, (0, 0, [1, 0, 0, 0]), (19, 0, [112]), nO, nO, (0, 1000000, [2, 3, 63, 477]), nO],
  [(2, 0, [6, 1]), nO, (20, 0, [0, 121]), nO, nO, (0, 1, [1, 0, 0, 0]), (19, 0, [122]), nO, nO, (0, 0, [1, 0, 0, 0]), (34, 0, [64, 37, 3, 0, 4, 478, 481, 480, 10, 67]), nO, nO, (4, 0, [0, 0]), (4, 0, [2, 0]), (23, 0, [68, 2, 2, 194])],
  [nO, nO, (2, 0, [5, 1]), nO, (25, 0, []), (24, 0, [29, 4, 5, 158]), nO, nO, (2, 0, [6, 1]), nO, (20, 0, [1, 166]), nO, nO, (4, 0, [0, 0]), (2, 0, [5, 1]), nO],
  [(0, 0, [1, 0, 0, 0]), (0, 0, [1, 0, 0, 0]), (4, 0, [0, 0]), (23, 0, [22, 4, 3, 156]), nO, nO, (2, 0, [5, 1]), nO, (25, 0, []), (0, 0, [1, 0, 0, 0]), (4, 0, [0, 0]), (23, 0, [22, 4, 3, 156]), nO, nO, (2, 0, [5, 1]), nO],
  [(0, 1, [1, 0, 0, 0]), (9, 0, [0]), (25, 0, []), (34, 0, [70, 38, 6, 0, 4, 482, 485, 484, 11, 67]), nO, nO, (8, (-1), [5]), nO, nO, (19, 0, [54]), nO, nO, (4, 0, [0, 0]), (2, 0, [4, 1]), nO, (20, 0, [1, 182])],
  [nO, nO, (0, 0, [1, 0, 0, 0]), (19, 0, [194]), nO, nO, (4, 0, [0, 0]), (0, 0, [1, 0, 0, 0]), (0, 0, [1, 0, 0, 0]), (4, 0, [0, 0]), (23, 0, [22, 4, 3, 156]), nO, nO, (0, 0, [1, 0, 0, 0]), (25, 0, []), (34, 0, [74, 41, 3, 1, 4, 486, 489, 488, 12, 67])],
  [nO, nO, (24, 0, [33, 4, 6, 159]), nO, nO, (4, 0, [0, 0]), (2, 0, [4, 1]), nO, (20, 0, [1, 207]), nO, nO, (0, 1, [1, 0, 0, 0]), (19, 0, [223]), nO, nO, (4, 0, [0, 0])],
  [(0, 0, [1, 0, 0, 0]), (0, 0, [1, 0, 0, 0]), (4, 0, [0, 0]), (23, 0, [22, 4, 3, 156]), nO, nO, (0, 0, [1, 0, 0, 0]), (25, 0, []), (4, 0, [0, 0]), (23, 0, [33, 4, 6, 159]), nO, nO, (34, 0, [78, 42, 4, 1, 4, 490, 493, 492, 13, 67]), nO, nO, (24, 0, [36, 4, 7, 161])],
  [nO, nO, (33, 0, [])]]
abbrev mWe_addStacks : Nat := 34
def tWe_addStacks : List (List INS) := [[(2, 0, [2, 0]), (20, 0, [1, 12]), nO, nO, (4, 0, [0, 0]), (2, 0, [1, 0]), (2, 0, [4, 1]), nO, (34, 0, [82, 35, 2, 0, 4, 466, 469, 468, 8, 67]), nO, nO, (33, 0, []), (2, 0, [3, 0]), (0, 5, [1, 0, 0, 0]), (21, 0, [2, 18]), nO],
  [nO, (33, 0, []), (4, 0, [0, 0]), (2, 0, [2, 0]), (34, 0, [86, 36, 1, 1, 4, 470, 473, 472, 9, 67]), nO, nO, (5, 0, [5, 1]), nO, (0, 0, [1, 0, 0, 0]), (5, 0, [6, 1]), nO, (2, 0, [6, 1]), nO, (0, 8, [2, 1, 0, 0]), nO],
  [(21, 0, [3, 88]), nO, nO, (0, 1, [1, 0, 0, 0]), (2, 0, [6, 1]), nO, (9, 0, [6]), (5, 0, [7, 1]), nO, (2, 0, [2, 0]), (2, 0, [7, 1]), nO, (9, 0, [3]), (20, 0, [0, 82]), nO, nO],
  [(4, 0, [0, 0]), (23, 0, [26, 4, 4, 157]), nO, nO, (2, 0, [6, 1]), nO, (25, 0, []), (2, 0, [5, 1]), nO, (21, 0, [1, 82]), nO, nO, (4, 0, [0, 0]), (2, 0, [1, 0]), (2, 0, [2, 0]), (2, 0, [7, 1])],
  [nO, (0, (-1), [1, 0, 0, 0]), (9, 0, [5]), (9, 0, [3]), (2, 0, [3, 0]), (0, 1, [1, 0, 0, 0]), (9, 0, [0]), (2, 0, [4, 1]), nO, (2, 0, [3, 0]), (2, 0, [6, 1]), nO, (35, 0, [89, 2, 3, 1, 0, 474, 476, 475, 0, 73]), nO, nO, (34, 0, [59, 34, 4, 0, 4, 462, 465, 464, 7, 67])],
  [nO, nO, (8, 1, [6]), nO, nO, (19, 0, [28]), nO, nO, (33, 0, [])]]
abbrev mWe_addStack : Nat := 35
def tWe_addStack : List (List INS) := [[(4, 0, [0, 0]), (23, 0, [22, 4, 3, 156]), nO, nO, (2, 0, [1, 0]), (25, 0, []), (5, 0, [3, 0]), (2, 0, [3, 0]), (20, 0, [2, 17]), nO, nO, (2, 0, [3, 0]), (0, 120, [2, 1, 0, 0]), nO, (21, 0, [2, 18]), nO],
  [nO, (33, 0, []), (4, 0, [0, 0]), (23, 0, [11, 4, 0, 153]), nO, nO, (2, 0, [1, 0]), (29, 0, []), (2, 0, [3, 0]), (2, 0, [2, 0]), (26, 0, []), (4, 0, [0, 0]), (23, 0, [22, 4, 3, 156]), nO, nO, (2, 0, [1, 0])],
  [(2, 0, [3, 0]), (0, 1, [1, 0, 0, 0]), (9, 0, [0]), (26, 0, []), (33, 0, [])]]
abbrev mWe_outermostRank : Nat := 36
def tWe_outermostRank : List (List INS) := [[(0, 4, [1, 0, 0, 0]), (5, 0, [2, 0]), (0, 0, [1, 0, 0, 0]), (5, 0, [3, 0]), (2, 0, [3, 0]), (0, 8, [2, 1, 0, 0]), nO, (21, 0, [3, 35]), nO, nO, (2, 0, [1, 0]), (0, 1, [1, 0, 0, 0]), (2, 0, [3, 0]), (9, 0, [6]), (9, 0, [3]), (20, 0, [0, 29])],
  [nO, nO, (2, 0, [2, 0]), (4, 0, [0, 0]), (23, 0, [26, 4, 4, 157]), nO, nO, (2, 0, [3, 0]), (25, 0, []), (36, 0, [50, 1, 461, 409, 72, 410]), nO, nO, (5, 0, [2, 0]), (8, 1, [3]), nO, nO],
  [(19, 0, [4]), nO, nO, (2, 0, [2, 0]), (31, 0, [0])]]
abbrev mWe_setAll : Nat := 37
def tWe_setAll : List (List INS) := [[(0, 0, [1, 0, 0, 0]), (5, 0, [4, 1]), nO, (2, 0, [4, 1]), nO, (4, 0, [0, 0]), (23, 0, [22, 4, 3, 156]), nO, nO, (2, 0, [1, 0]), (25, 0, []), (21, 0, [3, 42]), nO, nO, (4, 0, [0, 0]), (23, 0, [16, 4, 1, 154])],
  [nO, nO, (2, 0, [1, 0]), (29, 0, []), (2, 0, [4, 1]), nO, (2, 0, [2, 0]), (26, 0, []), (4, 0, [0, 0]), (23, 0, [19, 4, 2, 155]), nO, nO, (2, 0, [1, 0]), (0, 1, [1, 0, 0, 0]), (9, 0, [3]), (29, 0, [])],
  [(2, 0, [4, 1]), nO, (2, 0, [3, 0]), (26, 0, []), (8, 1, [4]), nO, nO, (19, 0, [3]), nO, nO, (33, 0, [])]]
abbrev mWe_offerAlike : Nat := 38
def tWe_offerAlike : List (List INS) := [[(2, 0, [2, 0]), (0, 5, [1, 0, 0, 0]), (21, 0, [4, 17]), nO, nO, (2, 0, [1, 0]), (20, 0, [2, 17]), nO, nO, (2, 0, [1, 0]), (0, 1, [1, 0, 0, 0]), (9, 0, [0]), (0, 15, [2, 1, 0, 0]), nO, (21, 0, [2, 18]), nO],
  [nO, (33, 0, []), (4, 0, [0, 0]), (2, 0, [1, 0]), (0, 1, [1, 0, 0, 0]), (9, 0, [0]), (2, 0, [5, 1]), nO, (2, 0, [6, 1]), nO, (34, 0, [74, 41, 3, 1, 4, 486, 489, 488, 12, 67]), nO, nO, (5, 0, [7, 1]), nO, (4, 0, [0, 0])],
  [(2, 0, [1, 0]), (0, 1, [1, 0, 0, 0]), (9, 0, [0]), (2, 0, [5, 1]), nO, (2, 0, [6, 1]), nO, (2, 0, [7, 1]), nO, (34, 0, [78, 42, 4, 1, 4, 490, 493, 492, 13, 67]), nO, nO, (5, 0, [8, 1]), nO, (2, 0, [3, 0]), (5, 0, [9, 1])],
  [nO, (2, 0, [9, 1]), nO, (2, 0, [4, 1]), nO, (21, 0, [3, 80]), nO, nO, (4, 0, [0, 0]), (2, 0, [1, 0]), (2, 0, [9, 1]), nO, (2, 0, [7, 1]), nO, (4, 0, [0, 0]), (23, 0, [29, 4, 5, 158])],
  [nO, nO, (9, 0, [0]), (2, 0, [2, 0]), (9, 0, [1]), (2, 0, [8, 1]), nO, (34, 0, [94, 39, 4, 0, 4, 495, 498, 497, 14, 67]), nO, nO, (8, 1, [9]), nO, nO, (19, 0, [49]), nO, nO],
  [(2, 0, [3, 0]), (5, 0, [9, 1]), nO, (2, 0, [5, 1]), nO, (5, 0, [10, 1]), nO, (0, 0, [1, 0, 0, 0]), (5, 0, [11, 1]), nO, (2, 0, [11, 1]), nO, (0, 240, [3, 2, 0, 0]), nO, nO, (21, 0, [3, 227])],
  [nO, nO, (2, 0, [9, 1]), nO, (2, 0, [4, 1]), nO, (21, 0, [3, 227]), nO, nO, (2, 0, [10, 1]), nO, (2, 0, [6, 1]), nO, (21, 0, [3, 227]), nO, nO],
  [(4, 0, [0, 0]), (23, 0, [11, 4, 0, 153]), nO, nO, (2, 0, [1, 0]), (29, 0, []), (2, 0, [9, 1]), nO, (25, 0, []), (2, 0, [2, 0]), (35, 0, [97, 1, 2, 1, 0, 499, 501, 500, 0, 73]), nO, nO, (5, 0, [12, 1]), nO, (4, 0, [0, 0])],
  [(23, 0, [11, 4, 0, 153]), nO, nO, (2, 0, [1, 0]), (0, 1, [1, 0, 0, 0]), (9, 0, [0]), (29, 0, []), (2, 0, [10, 1]), nO, (25, 0, []), (2, 0, [2, 0]), (35, 0, [97, 1, 2, 1, 0, 499, 501, 500, 0, 73]), nO, nO, (5, 0, [13, 1]), nO],
  [(4, 0, [0, 0]), (2, 0, [1, 0]), (2, 0, [9, 1]), nO, (2, 0, [4, 1]), nO, (2, 0, [2, 0]), (34, 0, [100, 40, 4, 1, 4, 502, 505, 504, 15, 67]), nO, nO, (5, 0, [14, 1]), nO, (4, 0, [0, 0]), (2, 0, [1, 0]), (0, 1, [1, 0, 0, 0]), (9, 0, [0])],
  [(2, 0, [10, 1]), nO, (2, 0, [6, 1]), nO, (2, 0, [2, 0]), (34, 0, [100, 40, 4, 1, 4, 502, 505, 504, 15, 67]), nO, nO, (5, 0, [15, 1]), nO, (2, 0, [12, 1]), nO, (2, 0, [13, 1]), nO, (21, 0, [1, 199]), nO],
  [nO, (2, 0, [12, 1]), nO, (0, (-1), [1, 0, 0, 0]), (21, 0, [0, 199]), nO, nO, (4, 0, [0, 0]), (2, 0, [1, 0]), (2, 0, [2, 0]), (0, 1, [1, 0, 0, 0]), (9, 0, [0]), (2, 0, [9, 1]), nO, (2, 0, [14, 1]), nO],
  [(2, 0, [10, 1]), nO, (2, 0, [15, 1]), nO, (34, 0, [70, 38, 6, 0, 4, 482, 485, 484, 11, 67]), nO, nO, (2, 0, [12, 1]), nO, (2, 0, [13, 1]), nO, (21, 0, [4, 210]), nO, nO, (2, 0, [14, 1]), nO],
  [(5, 0, [9, 1]), nO, (2, 0, [13, 1]), nO, (2, 0, [12, 1]), nO, (21, 0, [4, 221]), nO, nO, (2, 0, [15, 1]), nO, (5, 0, [10, 1]), nO, (8, 1, [11]), nO, nO],
  [(19, 0, [90]), nO, nO, (33, 0, [])]]
abbrev mWe_offer : Nat := 39
def tWe_offer : List (List INS) := [[(4, 0, [0, 0]), (23, 0, [19, 4, 2, 155]), nO, nO, (2, 0, [1, 0]), (0, 1, [1, 0, 0, 0]), (9, 0, [3]), (29, 0, []), (7, 0, [5, 1]), nO, (2, 0, [3, 0]), (4, 0, [0, 0]), (23, 0, [16, 4, 1, 154]), nO, nO, (2, 0, [1, 0])],
  [(29, 0, []), (2, 0, [2, 0]), (25, 0, []), (21, 0, [3, 40]), nO, nO, (4, 0, [0, 0]), (23, 0, [16, 4, 1, 154]), nO, nO, (2, 0, [1, 0]), (29, 0, []), (2, 0, [2, 0]), (2, 0, [3, 0]), (26, 0, []), (4, 0, [5, 1])],
  [nO, (2, 0, [2, 0]), (2, 0, [4, 1]), nO, (26, 0, []), (19, 0, [68]), nO, nO, (2, 0, [3, 0]), (4, 0, [0, 0]), (23, 0, [16, 4, 1, 154]), nO, nO, (2, 0, [1, 0]), (29, 0, []), (2, 0, [2, 0])],
  [(25, 0, []), (21, 0, [1, 68]), nO, nO, (4, 0, [5, 1]), nO, (2, 0, [2, 0]), (0, 1000000000, [2, 3, 103, 494]), nO, (4, 0, [5, 1]), nO, (2, 0, [2, 0]), (25, 0, []), (2, 0, [4, 1]), nO, (9, 0, [0])],
  [(36, 0, [50, 1, 461, 409, 72, 410]), nO, nO, (26, 0, []), (33, 0, [])]]
abbrev mWe_endOfLike : Nat := 40
def tWe_endOfLike : List (List INS) := [[(4, 0, [0, 0]), (23, 0, [11, 4, 0, 153]), nO, nO, (2, 0, [1, 0]), (29, 0, []), (2, 0, [2, 0]), (25, 0, []), (2, 0, [4, 1]), nO, (35, 0, [97, 1, 2, 1, 0, 499, 501, 500, 0, 73]), nO, nO, (5, 0, [5, 1]), nO, (2, 0, [2, 0])],
  [(0, 1, [1, 0, 0, 0]), (9, 0, [0]), (5, 0, [6, 1]), nO, (2, 0, [6, 1]), nO, (2, 0, [3, 0]), (21, 0, [3, 51]), nO, nO, (4, 0, [0, 0]), (23, 0, [11, 4, 0, 153]), nO, nO, (2, 0, [1, 0]), (29, 0, [])],
  [(2, 0, [6, 1]), nO, (25, 0, []), (2, 0, [4, 1]), nO, (35, 0, [97, 1, 2, 1, 0, 499, 501, 500, 0, 73]), nO, nO, (2, 0, [5, 1]), nO, (21, 0, [1, 51]), nO, nO, (8, 1, [6]), nO, nO],
  [(19, 0, [20]), nO, nO, (2, 0, [6, 1]), nO, (31, 0, [0])]]
abbrev mWe_cheapest : Nat := 41
def tWe_cheapest : List (List INS) := [[(0, 1000000, [2, 3, 63, 477]), nO, (5, 0, [4, 1]), nO, (2, 0, [2, 0]), (5, 0, [5, 1]), nO, (2, 0, [5, 1]), nO, (2, 0, [3, 0]), (21, 0, [3, 35]), nO, nO, (2, 0, [4, 1]), nO, (4, 0, [0, 0])],
  [(23, 0, [16, 4, 1, 154]), nO, nO, (2, 0, [1, 0]), (29, 0, []), (2, 0, [5, 1]), nO, (25, 0, []), (36, 0, [50, 1, 461, 409, 72, 410]), nO, nO, (5, 0, [4, 1]), nO, (8, 1, [5]), nO, nO],
  [(19, 0, [7]), nO, nO, (2, 0, [4, 1]), nO, (31, 0, [0])]]
abbrev mWe_mannersOf : Nat := 42
def tWe_mannersOf : List (List INS) := [[(4, 0, [0, 0]), (23, 0, [19, 4, 2, 155]), nO, nO, (2, 0, [1, 0]), (0, 1, [1, 0, 0, 0]), (9, 0, [3]), (29, 0, []), (7, 0, [5, 1]), nO, (0, 0, [1, 0, 0, 0]), (5, 0, [6, 1]), nO, (2, 0, [2, 0]), (5, 0, [7, 1]), nO],
  [(2, 0, [7, 1]), nO, (2, 0, [3, 0]), (21, 0, [3, 57]), nO, nO, (4, 0, [0, 0]), (23, 0, [16, 4, 1, 154]), nO, nO, (2, 0, [1, 0]), (29, 0, []), (2, 0, [7, 1]), nO, (25, 0, []), (2, 0, [4, 1])],
  [nO, (21, 0, [1, 51]), nO, nO, (0, 1000000000, [2, 3, 103, 494]), nO, (2, 0, [6, 1]), nO, (4, 0, [5, 1]), nO, (2, 0, [7, 1]), nO, (25, 0, []), (9, 0, [0]), (36, 0, [50, 1, 461, 409, 72, 410]), nO],
  [nO, (5, 0, [6, 1]), nO, (8, 1, [7]), nO, nO, (19, 0, [16]), nO, nO, (2, 0, [6, 1]), nO, (31, 0, [0])]]
abbrev mWe_choose : Nat := 43
def tWe_choose : List (List INS) := [[(4, 0, [0, 0]), (23, 0, [33, 4, 6, 159]), nO, nO, (5, 0, [3, 0]), (4, 0, [1, 0]), (23, 0, [45, 2, 4, 197]), nO, nO, (4, 0, [2, 0]), (30, 0, []), (36, 0, [50, 1, 461, 409, 72, 410]), nO, nO, (5, 0, [4, 1]), nO],
  [(0, 0, [1, 0, 0, 0]), (5, 0, [5, 1]), nO, (2, 0, [5, 1]), nO, (2, 0, [4, 1]), nO, (21, 0, [3, 138]), nO, nO, (0, 0, [1, 0, 0, 0]), (5, 0, [6, 1]), nO, (2, 0, [6, 1]), nO, (4, 0, [0, 0])],
  [(23, 0, [22, 4, 3, 156]), nO, nO, (2, 0, [5, 1]), nO, (25, 0, []), (21, 0, [3, 132]), nO, nO, (2, 0, [5, 1]), nO, (20, 0, [1, 50]), nO, nO, (0, 0, [1, 0, 0, 0]), (19, 0, [79])],
  [nO, nO, (4, 0, [1, 0]), (23, 0, [68, 2, 2, 194]), nO, nO, (2, 0, [5, 1]), nO, (0, 1, [1, 0, 0, 0]), (9, 0, [1]), (25, 0, []), (4, 0, [2, 0]), (2, 0, [5, 1]), nO, (0, 1, [1, 0, 0, 0]), (9, 0, [1])],
  [(25, 0, []), (4, 0, [0, 0]), (23, 0, [11, 4, 0, 153]), nO, nO, (2, 0, [5, 1]), nO, (29, 0, []), (2, 0, [6, 1]), nO, (25, 0, []), (35, 0, [104, 3, 2, 1, 0, 510, 512, 511, 0, 73]), nO, nO, (9, 0, [1]), (5, 0, [7, 1])],
  [nO, (2, 0, [7, 1]), nO, (4, 0, [0, 0]), (23, 0, [16, 4, 1, 154]), nO, nO, (2, 0, [5, 1]), nO, (29, 0, []), (2, 0, [6, 1]), nO, (25, 0, []), (9, 0, [0]), (2, 0, [3, 0]), (21, 0, [1, 126])],
  [nO, nO, (4, 0, [2, 0]), (2, 0, [5, 1]), nO, (4, 0, [0, 0]), (23, 0, [11, 4, 0, 153]), nO, nO, (2, 0, [5, 1]), nO, (29, 0, []), (2, 0, [6, 1]), nO, (25, 0, []), (26, 0, [])],
  [(4, 0, [0, 0]), (23, 0, [16, 4, 1, 154]), nO, nO, (2, 0, [5, 1]), nO, (29, 0, []), (2, 0, [6, 1]), nO, (25, 0, []), (5, 0, [3, 0]), (19, 0, [132]), nO, nO, (8, 1, [6]), nO],
  [nO, (19, 0, [29]), nO, nO, (8, 1, [5]), nO, nO, (19, 0, [19]), nO, nO, (33, 0, [])]]
abbrev mWe_splitsOfFirst : Nat := 44
def tWe_splitsOfFirst : List (List INS) := [[(0, 0, [1, 0, 0, 0]), (5, 0, [2, 0]), (0, 0, [1, 0, 0, 0]), (5, 0, [3, 0]), (2, 0, [3, 0]), (0, 1, [1, 0, 0, 0]), (9, 0, [0]), (4, 0, [1, 0]), (23, 0, [45, 2, 4, 197]), nO, nO, (21, 0, [3, 59]), nO, nO, (2, 0, [3, 0]), (0, 1, [1, 0, 0, 0])],
  [(9, 0, [0]), (0, 15, [2, 1, 0, 0]), nO, (21, 0, [3, 59]), nO, nO, (2, 0, [2, 0]), (4, 0, [1, 0]), (23, 0, [68, 2, 2, 194]), nO, nO, (2, 0, [3, 0]), (25, 0, []), (4, 0, [0, 0]), (23, 0, [11, 4, 0, 153]), nO],
  [nO, (2, 0, [3, 0]), (29, 0, []), (0, 0, [1, 0, 0, 0]), (25, 0, []), (4, 0, [0, 0]), (23, 0, [11, 4, 0, 153]), nO, nO, (2, 0, [3, 0]), (0, 1, [1, 0, 0, 0]), (9, 0, [0]), (29, 0, []), (0, 0, [1, 0, 0, 0]), (25, 0, []), (35, 0, [104, 3, 2, 1, 0, 510, 512, 511, 0, 73])],
  [nO, nO, (9, 0, [1]), (9, 0, [0]), (5, 0, [2, 0]), (8, 1, [3]), nO, nO, (19, 0, [4]), nO, nO, (2, 0, [2, 0]), (31, 0, [0])]]
abbrev mNe_layNodes : Nat := 45
def tNe_layNodes : List (List INS) := [[(4, 0, [0, 0]), (0, 0, [1, 0, 0, 0]), (24, 0, [40, 1, 8, 233]), nO, nO, (0, 0, [1, 0, 0, 0]), (5, 0, [2, 0]), (0, 0, [1, 0, 0, 0]), (5, 0, [3, 0]), (0, 0, [1, 0, 0, 0]), (5, 0, [4, 1]), nO, (2, 0, [4, 1]), nO, (4, 0, [1, 0]), (23, 0, [53, 3, 5, 109])],
  [nO, nO, (21, 0, [4, 73]), nO, nO, (4, 0, [0, 0]), (23, 0, [12, 1, 0, 218]), nO, nO, (2, 0, [3, 0]), (2, 0, [4, 1]), nO, (34, 0, [58, 29, 2, 1, 2, 522, 525, 523, 524, 68]), nO, nO, (5, 0, [5, 1])],
  [nO, (2, 0, [5, 1]), nO, (20, 0, [0, 44]), nO, nO, (4, 0, [0, 0]), (2, 0, [3, 0]), (34, 0, [62, 46, 1, 1, 1, 526, 529, 528, 16, 69]), nO, nO, (5, 0, [2, 0]), (4, 0, [0, 0]), (4, 0, [1, 0]), (2, 0, [4, 1]), nO],
  [(2, 0, [2, 0]), (34, 0, [66, 47, 3, 0, 1, 535, 538, 537, 17, 69]), nO, nO, (2, 0, [5, 1]), nO, (20, 0, [0, 67]), nO, nO, (4, 0, [0, 0]), (2, 0, [3, 0]), (2, 0, [2, 0]), (34, 0, [70, 48, 2, 1, 1, 544, 547, 546, 19, 69]), nO, nO, (5, 0, [2, 0])],
  [(8, 1, [3]), nO, nO, (8, 1, [4]), nO, nO, (19, 0, [12]), nO, nO, (33, 0, [])]]
abbrev mNe_goingOnAt : Nat := 46
def tNe_goingOnAt : List (List INS) := [[(4, 0, [0, 0]), (23, 0, [12, 1, 0, 218]), nO, nO, (2, 0, [1, 0]), (0, 1, [1, 0, 0, 0]), (9, 0, [1]), (34, 0, [74, 28, 1, 1, 2, 530, 533, 531, 532, 68]), nO, nO, (20, 0, [0, 24]), nO, nO, (4, 0, [0, 0]), (23, 0, [12, 1, 0, 218]), nO],
  [nO, (2, 0, [1, 0]), (34, 0, [74, 28, 1, 1, 2, 530, 533, 531, 532, 68]), nO, nO, (20, 0, [1, 26]), nO, nO, (0, 0, [1, 0, 0, 0]), (31, 0, [0]), (4, 0, [0, 0]), (23, 0, [18, 1, 1, 220]), nO, nO, (2, 0, [1, 0]), (0, 1, [1, 0, 0, 0])],
  [(9, 0, [1]), (25, 0, []), (4, 0, [0, 0]), (23, 0, [18, 1, 1, 220]), nO, nO, (2, 0, [1, 0]), (25, 0, []), (35, 0, [78, 3, 2, 1, 0, 534, 512, 511, 0, 73]), nO, nO, (31, 0, [0])]]
abbrev mNe_addEmptyOnes : Nat := 47
def tNe_addEmptyOnes : List (List INS) := [[(0, 0, [1, 0, 0, 0]), (5, 0, [4, 1]), nO, (2, 0, [4, 1]), nO, (4, 0, [1, 0]), (23, 0, [83, 3, 4, 106]), nO, nO, (21, 0, [3, 55]), nO, nO, (2, 0, [4, 1]), nO, (0, 8, [2, 1, 0, 0]), nO],
  [(21, 0, [3, 55]), nO, nO, (4, 0, [1, 0]), (2, 0, [4, 1]), nO, (34, 0, [86, 9, 1, 1, 3, 539, 396, 394, 395, 65]), nO, nO, (20, 0, [0, 49]), nO, nO, (4, 0, [1, 0]), (23, 0, [89, 3, 1, 96]), nO, nO],
  [(2, 0, [4, 1]), nO, (25, 0, []), (2, 0, [2, 0]), (21, 0, [1, 49]), nO, nO, (4, 0, [0, 0]), (2, 0, [4, 1]), nO, (2, 0, [2, 0]), (2, 0, [2, 0]), (2, 0, [3, 0]), (34, 0, [90, 50, 4, 1, 1, 540, 543, 542, 18, 69]), nO, nO],
  [(18, 0, []), (8, 1, [4]), nO, nO, (19, 0, [3]), nO, nO, (33, 0, [])]]
abbrev mNe_addPieces : Nat := 48
def tNe_addPieces : List (List INS) := [[(4, 0, [0, 0]), (23, 0, [12, 1, 0, 218]), nO, nO, (2, 0, [1, 0]), (34, 0, [74, 28, 1, 1, 2, 530, 533, 531, 532, 68]), nO, nO, (20, 0, [1, 13]), nO, nO, (0, 0, [1, 0, 0, 0]), (31, 0, [0]), (4, 0, [0, 0]), (23, 0, [12, 1, 0, 218]), nO],
  [nO, (23, 0, [94, 2, 0, 187]), nO, nO, (2, 0, [1, 0]), (25, 0, []), (5, 0, [3, 0]), (4, 0, [0, 0]), (23, 0, [12, 1, 0, 218]), nO, nO, (23, 0, [94, 2, 0, 187]), nO, nO, (2, 0, [1, 0]), (0, 1, [1, 0, 0, 0])],
  [(9, 0, [0]), (25, 0, []), (5, 0, [4, 1]), nO, (4, 0, [0, 0]), (23, 0, [12, 1, 0, 218]), nO, nO, (23, 0, [97, 2, 1, 191]), nO, nO, (2, 0, [1, 0]), (25, 0, []), (35, 0, [100, 0, 1, 1, 0, 548, 339, 338, 0, 71]), nO, nO],
  [(5, 0, [5, 1]), nO, (0, 0, [1, 0, 0, 0]), (5, 0, [6, 1]), nO, (2, 0, [6, 1]), nO, (2, 0, [5, 1]), nO, (21, 0, [3, 118]), nO, nO, (2, 0, [6, 1]), nO, (0, 5, [1, 0, 0, 0]), (21, 0, [3, 118])],
  [nO, nO, (2, 0, [6, 1]), nO, (2, 0, [2, 0]), (21, 0, [2, 99]), nO, nO, (4, 0, [0, 0]), (23, 0, [37, 1, 7, 232]), nO, nO, (2, 0, [6, 1]), nO, (4, 0, [0, 0]), (4, 0, [0, 0])],
  [(23, 0, [18, 1, 1, 220]), nO, nO, (2, 0, [1, 0]), (25, 0, []), (2, 0, [6, 1]), nO, (35, 0, [105, 1, 2, 1, 0, 549, 501, 500, 0, 73]), nO, nO, (2, 0, [3, 0]), (2, 0, [4, 1]), nO, (2, 0, [6, 1]), nO, (34, 0, [90, 50, 4, 1, 1, 540, 543, 542, 18, 69])],
  [nO, nO, (26, 0, []), (4, 0, [0, 0]), (4, 0, [0, 0]), (23, 0, [37, 1, 7, 232]), nO, nO, (2, 0, [6, 1]), nO, (25, 0, []), (2, 0, [4, 1]), nO, (34, 0, [108, 49, 2, 0, 1, 550, 553, 552, 20, 69]), nO, nO],
  [(8, 1, [6]), nO, nO, (19, 0, [53]), nO, nO, (2, 0, [5, 1]), nO, (31, 0, [0])]]
abbrev mNe_stretch : Nat := 49
def tNe_stretch : List (List INS) := [[(2, 0, [1, 0]), (20, 0, [2, 19]), nO, nO, (2, 0, [1, 0]), (4, 0, [0, 0]), (23, 0, [40, 1, 8, 233]), nO, nO, (21, 0, [3, 19]), nO, nO, (4, 0, [0, 0]), (23, 0, [28, 1, 4, 226]), nO, nO],
  [(2, 0, [1, 0]), (2, 0, [2, 0]), (26, 0, []), (33, 0, [])]]
abbrev mNe_addNode : Nat := 50
def tNe_addNode : List (List INS) := [[(4, 0, [0, 0]), (23, 0, [40, 1, 8, 233]), nO, nO, (20, 0, [2, 16]), nO, nO, (4, 0, [0, 0]), (23, 0, [40, 1, 8, 233]), nO, nO, (0, 83, [2, 1, 0, 0]), nO, (21, 0, [2, 18]), nO, nO],
  [(0, (-1), [1, 0, 0, 0]), (31, 0, [0]), (4, 0, [0, 0]), (23, 0, [22, 1, 2, 222]), nO, nO, (4, 0, [0, 0]), (23, 0, [40, 1, 8, 233]), nO, nO, (2, 0, [1, 0]), (26, 0, []), (4, 0, [0, 0]), (23, 0, [25, 1, 3, 224]), nO, nO],
  [(4, 0, [0, 0]), (23, 0, [40, 1, 8, 233]), nO, nO, (2, 0, [2, 0]), (26, 0, []), (4, 0, [0, 0]), (23, 0, [28, 1, 4, 226]), nO, nO, (4, 0, [0, 0]), (23, 0, [40, 1, 8, 233]), nO, nO, (2, 0, [3, 0]), (26, 0, [])],
  [(4, 0, [0, 0]), (23, 0, [31, 1, 5, 228]), nO, nO, (4, 0, [0, 0]), (23, 0, [40, 1, 8, 233]), nO, nO, (2, 0, [4, 1]), nO, (26, 0, []), (4, 0, [0, 0]), (23, 0, [34, 1, 6, 230]), nO, nO, (4, 0, [0, 0])],
  [(23, 0, [40, 1, 8, 233]), nO, nO, (2, 0, [4, 1]), nO, (20, 0, [5, 90]), nO, nO, (2, 0, [4, 1]), nO, (0, 5, [1, 0, 0, 0]), (21, 0, [4, 90]), nO, nO, (4, 0, [0, 0]), (23, 0, [37, 1, 7, 232])],
  [nO, nO, (2, 0, [4, 1]), nO, (0, 1, [1, 0, 0, 0]), (9, 0, [1]), (25, 0, []), (19, 0, [91]), nO, nO, (0, (-1), [1, 0, 0, 0]), (26, 0, []), (4, 0, [0, 0]), (16, 0, []), (23, 0, [40, 1, 8, 233]), nO],
  [nO, (0, 1, [1, 0, 0, 0]), (9, 0, [0]), (24, 0, [40, 1, 8, 233]), nO, nO, (4, 0, [0, 0]), (23, 0, [40, 1, 8, 233]), nO, nO, (0, 1, [1, 0, 0, 0]), (9, 0, [1]), (31, 0, [0])]]
abbrev mNe_isPiece : Nat := 51
def tNe_isPiece : List (List INS) := [[(4, 0, [0, 0]), (23, 0, [25, 1, 3, 224]), nO, nO, (2, 0, [1, 0]), (25, 0, []), (4, 0, [0, 0]), (23, 0, [28, 1, 4, 226]), nO, nO, (2, 0, [1, 0]), (25, 0, []), (21, 0, [3, 19]), nO, nO, (0, 1, [1, 0, 0, 0])],
  [(19, 0, [20]), nO, nO, (0, 0, [1, 0, 0, 0]), (31, 0, [1])]]
abbrev mNe_piecesOf : Nat := 52
def tNe_piecesOf : List (List INS) := [[(0, 0, [1, 0, 0, 0]), (5, 0, [2, 0]), (0, 0, [1, 0, 0, 0]), (5, 0, [3, 0]), (2, 0, [3, 0]), (4, 0, [0, 0]), (23, 0, [40, 1, 8, 233]), nO, nO, (21, 0, [3, 39]), nO, nO, (4, 0, [0, 0]), (23, 0, [22, 1, 2, 222]), nO, nO],
  [(2, 0, [3, 0]), (25, 0, []), (2, 0, [1, 0]), (21, 0, [1, 33]), nO, nO, (4, 0, [0, 0]), (2, 0, [3, 0]), (34, 0, [112, 51, 1, 1, 1, 558, 561, 560, 21, 69]), nO, nO, (20, 0, [0, 33]), nO, nO, (8, 1, [2]), nO],
  [nO, (8, 1, [3]), nO, nO, (19, 0, [4]), nO, nO, (2, 0, [2, 0]), (31, 0, [0])]]
abbrev mNe_breakUp : Nat := 53
def tNe_breakUp : List (List INS) := [[(4, 0, [2, 0]), (2, 0, [1, 0]), (34, 0, [115, 7, 1, 1, 3, 567, 363, 361, 362, 65]), nO, nO, (20, 0, [1, 9]), nO, nO, (33, 0, []), (0, 1, [1, 0, 0, 0]), (5, 0, [3, 0]), (0, 0, [1, 0, 0, 0]), (5, 0, [4, 1]), nO, (2, 0, [4, 1]), nO],
  [(4, 0, [0, 0]), (23, 0, [40, 1, 8, 233]), nO, nO, (21, 0, [3, 105]), nO, nO, (4, 0, [0, 0]), (23, 0, [22, 1, 2, 222]), nO, nO, (2, 0, [4, 1]), nO, (25, 0, []), (2, 0, [1, 0]), (21, 0, [1, 99])],
  [nO, nO, (4, 0, [0, 0]), (2, 0, [4, 1]), nO, (34, 0, [112, 51, 1, 1, 1, 558, 561, 560, 21, 69]), nO, nO, (20, 0, [1, 46]), nO, nO, (19, 0, [99]), nO, nO, (2, 0, [3, 0]), (20, 0, [0, 72])],
  [nO, nO, (4, 0, [2, 0]), (2, 0, [1, 0]), (4, 0, [0, 0]), (23, 0, [25, 1, 3, 224]), nO, nO, (2, 0, [4, 1]), nO, (25, 0, []), (4, 0, [0, 0]), (23, 0, [28, 1, 4, 226]), nO, nO, (2, 0, [4, 1])],
  [nO, (25, 0, []), (34, 0, [116, 17, 3, 0, 3, 568, 376, 374, 375, 65]), nO, nO, (19, 0, [97]), nO, nO, (4, 0, [2, 0]), (4, 0, [2, 0]), (23, 0, [120, 3, 0, 94]), nO, nO, (2, 0, [1, 0]), (25, 0, []), (4, 0, [0, 0])],
  [(23, 0, [25, 1, 3, 224]), nO, nO, (2, 0, [4, 1]), nO, (25, 0, []), (4, 0, [0, 0]), (23, 0, [28, 1, 4, 226]), nO, nO, (2, 0, [4, 1]), nO, (25, 0, []), (34, 0, [123, 16, 3, 1, 3, 569, 328, 326, 327, 65]), nO, nO],
  [(18, 0, []), (0, 0, [1, 0, 0, 0]), (5, 0, [3, 0]), (8, 1, [4]), nO, nO, (19, 0, [14]), nO, nO, (33, 0, [])]]
abbrev mNe_greatestDepth : Nat := 54
def tNe_greatestDepth : List (List INS) := [[(0, 0, [1, 0, 0, 0]), (5, 0, [1, 0]), (0, 0, [1, 0, 0, 0]), (5, 0, [2, 0]), (2, 0, [2, 0]), (4, 0, [0, 0]), (23, 0, [40, 1, 8, 233]), nO, nO, (21, 0, [3, 29]), nO, nO, (2, 0, [1, 0]), (4, 0, [0, 0]), (23, 0, [31, 1, 5, 228]), nO],
  [nO, (2, 0, [2, 0]), (25, 0, []), (36, 0, [127, 0, 646, 424, 72, 425]), nO, nO, (5, 0, [1, 0]), (8, 1, [2]), nO, nO, (19, 0, [4]), nO, nO, (2, 0, [1, 0]), (31, 0, [0])]]
abbrev mNe_depthsTogether : Nat := 55
def tNe_depthsTogether : List (List INS) := [[(0, 0, [1, 0, 0, 0]), (5, 0, [1, 0]), (0, 0, [1, 0, 0, 0]), (5, 0, [2, 0]), (2, 0, [2, 0]), (4, 0, [0, 0]), (23, 0, [40, 1, 8, 233]), nO, nO, (21, 0, [3, 27]), nO, nO, (2, 0, [1, 0]), (4, 0, [0, 0]), (23, 0, [31, 1, 5, 228]), nO],
  [nO, (2, 0, [2, 0]), (25, 0, []), (9, 0, [0]), (5, 0, [1, 0]), (8, 1, [2]), nO, nO, (19, 0, [4]), nO, nO, (2, 0, [1, 0]), (31, 0, [0])]]
abbrev mNe_howManyEmpty : Nat := 56
def tNe_howManyEmpty : List (List INS) := [[(0, 0, [1, 0, 0, 0]), (5, 0, [1, 0]), (0, 0, [1, 0, 0, 0]), (5, 0, [2, 0]), (2, 0, [2, 0]), (4, 0, [0, 0]), (23, 0, [40, 1, 8, 233]), nO, nO, (21, 0, [3, 29]), nO, nO, (4, 0, [0, 0]), (2, 0, [2, 0]), (34, 0, [112, 51, 1, 1, 1, 558, 561, 560, 21, 69]), nO],
  [nO, (20, 0, [1, 23]), nO, nO, (8, 1, [1]), nO, nO, (8, 1, [2]), nO, nO, (19, 0, [4]), nO, nO, (2, 0, [1, 0]), (31, 0, [0])]]
abbrev mNe_longest : Nat := 57
def tNe_longest : List (List INS) := [[(0, 0, [1, 0, 0, 0]), (5, 0, [1, 0]), (0, 0, [1, 0, 0, 0]), (5, 0, [2, 0]), (2, 0, [2, 0]), (4, 0, [0, 0]), (23, 0, [40, 1, 8, 233]), nO, nO, (21, 0, [3, 36]), nO, nO, (2, 0, [1, 0]), (4, 0, [0, 0]), (23, 0, [28, 1, 4, 226]), nO],
  [nO, (2, 0, [2, 0]), (25, 0, []), (4, 0, [0, 0]), (23, 0, [25, 1, 3, 224]), nO, nO, (2, 0, [2, 0]), (25, 0, []), (9, 0, [1]), (36, 0, [127, 0, 646, 424, 72, 425]), nO, nO, (5, 0, [1, 0]), (8, 1, [2]), nO],
  [nO, (19, 0, [4]), nO, nO, (2, 0, [1, 0]), (31, 0, [0])]]
abbrev mNe_howManyInNone : Nat := 58
def tNe_howManyInNone : List (List INS) := [[(0, 0, [1, 0, 0, 0]), (5, 0, [1, 0]), (0, 0, [1, 0, 0, 0]), (5, 0, [2, 0]), (2, 0, [2, 0]), (4, 0, [0, 0]), (23, 0, [40, 1, 8, 233]), nO, nO, (21, 0, [3, 30]), nO, nO, (4, 0, [0, 0]), (23, 0, [31, 1, 5, 228]), nO, nO],
  [(2, 0, [2, 0]), (25, 0, []), (20, 0, [1, 24]), nO, nO, (8, 1, [1]), nO, nO, (8, 1, [2]), nO, nO, (19, 0, [4]), nO, nO, (2, 0, [1, 0]), (31, 0, [0])]]
abbrev mX_anew : Nat := 59
def tX_anew : List (List INS) := [[(2, 0, [1, 0]), (20, 0, [2, 10]), nO, nO, (2, 0, [1, 0]), (0, 90, [2, 1, 0, 0]), nO, (21, 0, [5, 15]), nO, nO, (4, 0, [0, 0]), (34, 0, [61, 85, 0, 1, 5, 301, 304, 303, 0, 64]), nO, nO, (31, 0, [0]), (4, 0, [0, 0])],
  [(23, 0, [12, 5, 0, 266]), nO, nO, (23, 0, [65, 3, 4, 105]), nO, nO, (5, 0, [2, 0]), (4, 0, [0, 0]), (23, 0, [12, 5, 0, 266]), nO, nO, (2, 0, [1, 0]), (34, 0, [68, 4, 1, 0, 3, 305, 91, 89, 90, 65]), nO, nO, (4, 0, [0, 0])],
  [(23, 0, [22, 5, 2, 268]), nO, nO, (34, 0, [72, 25, 0, 0, 0, 306, 309, 307, 308, 66]), nO, nO, (4, 0, [0, 0]), (0, 0, [1, 0, 0, 0]), (24, 0, [47, 5, 6, 272]), nO, nO, (2, 0, [2, 0]), (31, 0, [0])]]
abbrev mX_range : Nat := 60
def tX_range : List (List INS) := [[(2, 0, [1, 0]), (35, 0, [75, 6, 1, 1, 0, 314, 316, 315, 0, 65]), nO, nO, (20, 0, [0, 19]), nO, nO, (4, 0, [0, 0]), (23, 0, [12, 5, 0, 266]), nO, nO, (2, 0, [2, 0]), (2, 0, [3, 0]), (34, 0, [79, 8, 2, 1, 3, 317, 320, 318, 319, 65]), nO, nO],
  [(20, 0, [1, 24]), nO, nO, (4, 0, [0, 0]), (34, 0, [61, 85, 0, 1, 5, 301, 304, 303, 0, 64]), nO, nO, (31, 0, [0]), (4, 0, [0, 0]), (23, 0, [16, 5, 1, 267]), nO, nO, (4, 0, [0, 0]), (23, 0, [12, 5, 0, 266]), nO, nO],
  [(34, 0, [83, 5, 1, 0, 3, 321, 324, 322, 323, 65]), nO, nO, (4, 0, [0, 0]), (23, 0, [16, 5, 1, 267]), nO, nO, (2, 0, [1, 0]), (2, 0, [2, 0]), (2, 0, [3, 0]), (34, 0, [87, 16, 3, 1, 3, 325, 328, 326, 327, 65]), nO, nO, (20, 0, [0, 58]), nO, nO],
  [(4, 0, [0, 0]), (23, 0, [16, 5, 1, 267]), nO, nO, (34, 0, [91, 13, 0, 1, 3, 329, 332, 330, 331, 65]), nO, nO, (20, 0, [0, 63]), nO, nO, (4, 0, [0, 0]), (34, 0, [95, 86, 0, 1, 5, 343, 346, 345, 1, 64]), nO, nO, (31, 0, [0]), (4, 0, [0, 0])],
  [(34, 0, [98, 87, 0, 0, 5, 347, 350, 349, 2, 64]), nO, nO, (4, 0, [0, 0]), (23, 0, [12, 5, 0, 266]), nO, nO, (23, 0, [65, 3, 4, 105]), nO, nO, (0, 1, [1, 0, 0, 0]), (9, 0, [1]), (31, 0, [0])]]
abbrev mX_drop : Nat := 61
def tX_drop : List (List INS) := [[(4, 0, [0, 0]), (23, 0, [12, 5, 0, 266]), nO, nO, (2, 0, [1, 0]), (34, 0, [101, 7, 1, 1, 3, 360, 363, 361, 362, 65]), nO, nO, (20, 0, [1, 16]), nO, nO, (4, 0, [0, 0]), (34, 0, [61, 85, 0, 1, 5, 301, 304, 303, 0, 64]), nO, nO, (31, 0, [0])],
  [(4, 0, [0, 0]), (23, 0, [16, 5, 1, 267]), nO, nO, (4, 0, [0, 0]), (23, 0, [12, 5, 0, 266]), nO, nO, (34, 0, [83, 5, 1, 0, 3, 321, 324, 322, 323, 65]), nO, nO, (4, 0, [0, 0]), (23, 0, [16, 5, 1, 267]), nO, nO, (2, 0, [1, 0])],
  [(34, 0, [104, 18, 1, 0, 3, 364, 367, 365, 366, 65]), nO, nO, (4, 0, [0, 0]), (34, 0, [98, 87, 0, 0, 5, 347, 350, 349, 2, 64]), nO, nO, (4, 0, [0, 0]), (23, 0, [12, 5, 0, 266]), nO, nO, (23, 0, [65, 3, 4, 105]), nO, nO, (31, 0, [0])]]
abbrev mX_moves : Nat := 62
def tX_moves : List (List INS) := [[(4, 0, [0, 0]), (23, 0, [12, 5, 0, 266]), nO, nO, (2, 0, [1, 0]), (34, 0, [101, 7, 1, 1, 3, 360, 363, 361, 362, 65]), nO, nO, (20, 0, [0, 23]), nO, nO, (4, 0, [0, 0]), (23, 0, [12, 5, 0, 266]), nO, nO, (2, 0, [2, 0])],
  [(2, 0, [3, 0]), (34, 0, [79, 8, 2, 1, 3, 317, 320, 318, 319, 65]), nO, nO, (20, 0, [1, 28]), nO, nO, (4, 0, [0, 0]), (34, 0, [61, 85, 0, 1, 5, 301, 304, 303, 0, 64]), nO, nO, (31, 0, [0]), (4, 0, [0, 0]), (23, 0, [16, 5, 1, 267]), nO, nO],
  [(4, 0, [0, 0]), (23, 0, [12, 5, 0, 266]), nO, nO, (34, 0, [83, 5, 1, 0, 3, 321, 324, 322, 323, 65]), nO, nO, (4, 0, [0, 0]), (23, 0, [16, 5, 1, 267]), nO, nO, (2, 0, [1, 0]), (2, 0, [2, 0]), (2, 0, [3, 0]), (34, 0, [107, 17, 3, 0, 3, 373, 376, 374, 375, 65]), nO],
  [nO, (4, 0, [0, 0]), (23, 0, [16, 5, 1, 267]), nO, nO, (34, 0, [91, 13, 0, 1, 3, 329, 332, 330, 331, 65]), nO, nO, (20, 0, [0, 64]), nO, nO, (4, 0, [0, 0]), (34, 0, [95, 86, 0, 1, 5, 343, 346, 345, 1, 64]), nO, nO, (31, 0, [0])],
  [(4, 0, [0, 0]), (23, 0, [12, 5, 0, 266]), nO, nO, (23, 0, [111, 3, 2, 101]), nO, nO, (2, 0, [1, 0]), (25, 0, []), (4, 0, [0, 0]), (23, 0, [12, 5, 0, 266]), nO, nO, (23, 0, [115, 3, 1, 98]), nO, nO],
  [(2, 0, [1, 0]), (25, 0, []), (9, 0, [1]), (5, 0, [4, 1]), nO, (4, 0, [0, 0]), (34, 0, [98, 87, 0, 0, 5, 347, 350, 349, 2, 64]), nO, nO, (2, 0, [3, 0]), (2, 0, [2, 0]), (9, 0, [1]), (2, 0, [4, 1]), nO, (9, 0, [1]), (31, 0, [0])]]
abbrev mX_kind : Nat := 63
def tX_kind : List (List INS) := [[(4, 0, [0, 0]), (23, 0, [12, 5, 0, 266]), nO, nO, (2, 0, [1, 0]), (34, 0, [101, 7, 1, 1, 3, 360, 363, 361, 362, 65]), nO, nO, (20, 0, [0, 18]), nO, nO, (2, 0, [2, 0]), (35, 0, [75, 6, 1, 1, 0, 314, 316, 315, 0, 65]), nO, nO, (20, 0, [1, 23])],
  [nO, nO, (4, 0, [0, 0]), (34, 0, [61, 85, 0, 1, 5, 301, 304, 303, 0, 64]), nO, nO, (31, 0, [0]), (4, 0, [0, 0]), (23, 0, [12, 5, 0, 266]), nO, nO, (23, 0, [118, 3, 0, 93]), nO, nO, (2, 0, [1, 0]), (25, 0, [])],
  [(5, 0, [3, 0]), (4, 0, [0, 0]), (23, 0, [16, 5, 1, 267]), nO, nO, (4, 0, [0, 0]), (23, 0, [12, 5, 0, 266]), nO, nO, (34, 0, [83, 5, 1, 0, 3, 321, 324, 322, 323, 65]), nO, nO, (4, 0, [0, 0]), (23, 0, [16, 5, 1, 267]), nO, nO],
  [(23, 0, [118, 3, 0, 93]), nO, nO, (2, 0, [1, 0]), (2, 0, [2, 0]), (26, 0, []), (4, 0, [0, 0]), (34, 0, [98, 87, 0, 0, 5, 347, 350, 349, 2, 64]), nO, nO, (2, 0, [3, 0]), (31, 0, [0])]]
abbrev mX_rank : Nat := 64
def tX_rank : List (List INS) := [[(2, 0, [1, 0]), (35, 0, [75, 6, 1, 1, 0, 314, 316, 315, 0, 65]), nO, nO, (20, 0, [0, 16]), nO, nO, (2, 0, [2, 0]), (20, 0, [2, 16]), nO, nO, (2, 0, [2, 0]), (0, 4, [1, 0, 0, 0]), (21, 0, [2, 21]), nO, nO],
  [(4, 0, [0, 0]), (34, 0, [61, 85, 0, 1, 5, 301, 304, 303, 0, 64]), nO, nO, (31, 0, [0]), (4, 0, [0, 0]), (23, 0, [12, 5, 0, 266]), nO, nO, (23, 0, [121, 3, 3, 103]), nO, nO, (2, 0, [1, 0]), (25, 0, []), (5, 0, [3, 0]), (4, 0, [0, 0])],
  [(23, 0, [16, 5, 1, 267]), nO, nO, (4, 0, [0, 0]), (23, 0, [12, 5, 0, 266]), nO, nO, (34, 0, [83, 5, 1, 0, 3, 321, 324, 322, 323, 65]), nO, nO, (4, 0, [0, 0]), (23, 0, [16, 5, 1, 267]), nO, nO, (23, 0, [121, 3, 3, 103]), nO],
  [nO, (2, 0, [1, 0]), (2, 0, [2, 0]), (26, 0, []), (4, 0, [0, 0]), (34, 0, [98, 87, 0, 0, 5, 347, 350, 349, 2, 64]), nO, nO, (2, 0, [3, 0]), (31, 0, [0])]]
abbrev mX_puts : Nat := 65
def tX_puts : List (List INS) := [[(2, 0, [1, 0]), (20, 0, [2, 26]), nO, nO, (2, 0, [1, 0]), (4, 0, [0, 0]), (23, 0, [12, 5, 0, 266]), nO, nO, (23, 0, [124, 3, 5, 110]), nO, nO, (21, 0, [4, 26]), nO, nO, (2, 0, [2, 0])],
  [(0, 1, [1, 0, 0, 0]), (21, 0, [2, 26]), nO, nO, (2, 0, [2, 0]), (0, 90, [2, 1, 0, 0]), nO, (21, 0, [5, 31]), nO, nO, (4, 0, [0, 0]), (34, 0, [61, 85, 0, 1, 5, 301, 304, 303, 0, 64]), nO, nO, (31, 0, [0]), (4, 0, [0, 0])],
  [(23, 0, [12, 5, 0, 266]), nO, nO, (23, 0, [124, 3, 5, 110]), nO, nO, (2, 0, [2, 0]), (9, 0, [0]), (0, 90, [2, 1, 0, 0]), nO, (21, 0, [5, 50]), nO, nO, (4, 0, [0, 0]), (34, 0, [95, 86, 0, 1, 5, 343, 346, 345, 1, 64]), nO],
  [nO, (31, 0, [0]), (4, 0, [0, 0]), (23, 0, [16, 5, 1, 267]), nO, nO, (4, 0, [0, 0]), (23, 0, [12, 5, 0, 266]), nO, nO, (34, 0, [83, 5, 1, 0, 3, 321, 324, 322, 323, 65]), nO, nO, (4, 0, [0, 0]), (23, 0, [16, 5, 1, 267]), nO],
  [nO, (2, 0, [1, 0]), (2, 0, [2, 0]), (34, 0, [127, 19, 2, 0, 3, 389, 392, 390, 391, 65]), nO, nO, (4, 0, [0, 0]), (34, 0, [98, 87, 0, 0, 5, 347, 350, 349, 2, 64]), nO, nO, (4, 0, [0, 0]), (23, 0, [12, 5, 0, 266]), nO, nO, (23, 0, [124, 3, 5, 110]), nO],
  [nO, (31, 0, [0])]]
abbrev mX_takes : Nat := 66
def tX_takes : List (List INS) := [[(2, 0, [1, 0]), (20, 0, [2, 20]), nO, nO, (2, 0, [2, 0]), (2, 0, [1, 0]), (21, 0, [5, 20]), nO, nO, (2, 0, [2, 0]), (4, 0, [0, 0]), (23, 0, [12, 5, 0, 266]), nO, nO, (23, 0, [124, 3, 5, 110]), nO],
  [nO, (21, 0, [5, 25]), nO, nO, (4, 0, [0, 0]), (34, 0, [61, 85, 0, 1, 5, 301, 304, 303, 0, 64]), nO, nO, (31, 0, [0]), (4, 0, [0, 0]), (23, 0, [16, 5, 1, 267]), nO, nO, (4, 0, [0, 0]), (23, 0, [12, 5, 0, 266]), nO],
  [nO, (34, 0, [83, 5, 1, 0, 3, 321, 324, 322, 323, 65]), nO, nO, (4, 0, [0, 0]), (23, 0, [16, 5, 1, 267]), nO, nO, (2, 0, [1, 0]), (2, 0, [2, 0]), (34, 0, [131, 20, 2, 0, 3, 401, 404, 402, 403, 65]), nO, nO, (4, 0, [0, 0]), (34, 0, [98, 87, 0, 0, 5, 347, 350, 349, 2, 64]), nO],
  [nO, (4, 0, [0, 0]), (23, 0, [12, 5, 0, 266]), nO, nO, (23, 0, [124, 3, 5, 110]), nO, nO, (31, 0, [0])]]
abbrev mX_joins : Nat := 67
def tX_joins : List (List INS) := [[(2, 0, [1, 0]), (35, 0, [75, 6, 1, 1, 0, 314, 316, 315, 0, 65]), nO, nO, (20, 0, [1, 12]), nO, nO, (4, 0, [0, 0]), (34, 0, [61, 85, 0, 1, 5, 301, 304, 303, 0, 64]), nO, nO, (31, 0, [0]), (4, 0, [0, 0]), (23, 0, [16, 5, 1, 267]), nO, nO],
  [(4, 0, [0, 0]), (23, 0, [12, 5, 0, 266]), nO, nO, (34, 0, [83, 5, 1, 0, 3, 321, 324, 322, 323, 65]), nO, nO, (0, 0, [1, 0, 0, 0]), (5, 0, [2, 0]), (2, 0, [2, 0]), (4, 0, [0, 0]), (23, 0, [16, 5, 1, 267]), nO, nO, (23, 0, [65, 3, 4, 105]), nO],
  [nO, (21, 0, [3, 69]), nO, nO, (2, 0, [2, 0]), (0, 8, [2, 1, 0, 0]), nO, (21, 0, [3, 69]), nO, nO, (4, 0, [0, 0]), (23, 0, [16, 5, 1, 267]), nO, nO, (23, 0, [118, 3, 0, 93]), nO],
  [nO, (2, 0, [2, 0]), (25, 0, []), (2, 0, [1, 0]), (21, 0, [1, 63]), nO, nO, (4, 0, [0, 0]), (23, 0, [16, 5, 1, 267]), nO, nO, (2, 0, [2, 0]), (34, 0, [134, 22, 1, 0, 3, 415, 418, 416, 417, 65]), nO, nO, (8, 1, [2])],
  [nO, nO, (19, 0, [25]), nO, nO, (4, 0, [0, 0]), (23, 0, [12, 5, 0, 266]), nO, nO, (23, 0, [65, 3, 4, 105]), nO, nO, (4, 0, [0, 0]), (23, 0, [16, 5, 1, 267]), nO, nO],
  [(23, 0, [65, 3, 4, 105]), nO, nO, (9, 0, [1]), (5, 0, [2, 0]), (4, 0, [0, 0]), (34, 0, [98, 87, 0, 0, 5, 347, 350, 349, 2, 64]), nO, nO, (2, 0, [2, 0]), (31, 0, [0])]]
abbrev mX_splits : Nat := 68
def tX_splits : List (List INS) := [[(2, 0, [1, 0]), (35, 0, [75, 6, 1, 1, 0, 314, 316, 315, 0, 65]), nO, nO, (20, 0, [1, 12]), nO, nO, (4, 0, [0, 0]), (34, 0, [61, 85, 0, 1, 5, 301, 304, 303, 0, 64]), nO, nO, (31, 0, [0]), (4, 0, [0, 0]), (34, 0, [137, 88, 0, 0, 5, 432, 435, 434, 4, 64]), nO, nO],
  [(0, 0, [1, 0, 0, 0]), (5, 0, [2, 0]), (0, 0, [1, 0, 0, 0]), (5, 0, [3, 0]), (2, 0, [3, 0]), (4, 0, [0, 0]), (23, 0, [12, 5, 0, 266]), nO, nO, (23, 0, [65, 3, 4, 105]), nO, nO, (21, 0, [3, 73]), nO, nO, (2, 0, [3, 0])],
  [(0, 8, [2, 1, 0, 0]), nO, (21, 0, [3, 73]), nO, nO, (4, 0, [0, 0]), (23, 0, [12, 5, 0, 266]), nO, nO, (23, 0, [118, 3, 0, 93]), nO, nO, (2, 0, [3, 0]), (25, 0, []), (2, 0, [1, 0]), (21, 0, [1, 67])],
  [nO, nO, (2, 0, [2, 0]), (0, 0, [1, 0, 0, 0]), (4, 0, [0, 0]), (23, 0, [43, 5, 5, 271]), nO, nO, (2, 0, [3, 0]), (34, 0, [140, 52, 1, 1, 1, 554, 557, 555, 556, 69]), nO, nO, (0, 1, [1, 0, 0, 0]), (9, 0, [1]), (36, 0, [144, 0, 562, 424, 72, 425]), nO],
  [nO, (9, 0, [0]), (5, 0, [2, 0]), (8, 1, [3]), nO, nO, (19, 0, [20]), nO, nO, (4, 0, [0, 0]), (23, 0, [12, 5, 0, 266]), nO, nO, (23, 0, [65, 3, 4, 105]), nO, nO],
  [(2, 0, [2, 0]), (9, 0, [0]), (0, 8, [2, 1, 0, 0]), nO, (21, 0, [5, 92]), nO, nO, (4, 0, [0, 0]), (34, 0, [95, 86, 0, 1, 5, 343, 346, 345, 1, 64]), nO, nO, (31, 0, [0]), (4, 0, [0, 0]), (23, 0, [16, 5, 1, 267]), nO, nO],
  [(4, 0, [0, 0]), (23, 0, [12, 5, 0, 266]), nO, nO, (34, 0, [83, 5, 1, 0, 3, 321, 324, 322, 323, 65]), nO, nO, (0, 0, [1, 0, 0, 0]), (5, 0, [3, 0]), (2, 0, [3, 0]), (4, 0, [0, 0]), (23, 0, [12, 5, 0, 266]), nO, nO, (23, 0, [65, 3, 4, 105]), nO],
  [nO, (21, 0, [3, 153]), nO, nO, (2, 0, [3, 0]), (0, 8, [2, 1, 0, 0]), nO, (21, 0, [3, 153]), nO, nO, (4, 0, [0, 0]), (23, 0, [12, 5, 0, 266]), nO, nO, (23, 0, [118, 3, 0, 93]), nO],
  [nO, (2, 0, [3, 0]), (25, 0, []), (2, 0, [1, 0]), (21, 0, [1, 147]), nO, nO, (4, 0, [0, 0]), (23, 0, [43, 5, 5, 271]), nO, nO, (2, 0, [3, 0]), (4, 0, [0, 0]), (23, 0, [16, 5, 1, 267]), nO, nO],
  [(34, 0, [150, 53, 2, 0, 1, 563, 566, 564, 565, 69]), nO, nO, (8, 1, [3]), nO, nO, (19, 0, [105]), nO, nO, (4, 0, [0, 0]), (34, 0, [98, 87, 0, 0, 5, 347, 350, 349, 2, 64]), nO, nO, (2, 0, [2, 0]), (31, 0, [0])]]
abbrev mX_undo : Nat := 69
def tX_undo : List (List INS) := [[(4, 0, [0, 0]), (23, 0, [22, 5, 2, 268]), nO, nO, (4, 0, [0, 0]), (23, 0, [12, 5, 0, 266]), nO, nO, (34, 0, [154, 27, 1, 1, 0, 574, 577, 575, 576, 66]), nO, nO, (20, 0, [1, 27]), nO, nO, (4, 0, [0, 0]), (16, 0, [])],
  [(23, 0, [55, 5, 8, 274]), nO, nO, (0, 1, [1, 0, 0, 0]), (9, 0, [0]), (24, 0, [55, 5, 8, 274]), nO, nO, (0, (-3), [2, 1, 0, 0]), nO, (31, 0, [0]), (4, 0, [0, 0]), (0, 0, [1, 0, 0, 0]), (24, 0, [47, 5, 6, 272]), nO, nO],
  [(4, 0, [0, 0]), (23, 0, [22, 5, 2, 268]), nO, nO, (23, 0, [158, 0, 2, 137]), nO, nO, (31, 0, [0])]]
abbrev mX_of : Nat := 70
def tX_of : List (List INS) := [[(4, 0, [0, 0]), (23, 0, [12, 5, 0, 266]), nO, nO, (2, 0, [1, 0]), (34, 0, [101, 7, 1, 1, 3, 360, 363, 361, 362, 65]), nO, nO, (20, 0, [1, 16]), nO, nO, (4, 0, [0, 0]), (34, 0, [61, 85, 0, 1, 5, 301, 304, 303, 0, 64]), nO, nO, (31, 0, [0])],
  [(2, 0, [2, 0]), (22, 0, [35, 104, 52, 62, 72, 82, 95]), nO, nO, nO, nO, nO, nO, nO, nO, nO, nO, nO, nO, nO, nO],
  [nO, nO, nO, nO, nO, nO, nO, nO, nO, nO, nO, nO, nO, nO, nO, nO],
  [nO, nO, nO, nO, (4, 0, [0, 0]), (23, 0, [12, 5, 0, 266]), nO, nO, (23, 0, [118, 3, 0, 93]), nO, nO, (2, 0, [1, 0]), (25, 0, []), (31, 0, [0]), (4, 0, [0, 0]), (23, 0, [12, 5, 0, 266])],
  [nO, nO, (23, 0, [115, 3, 1, 98]), nO, nO, (2, 0, [1, 0]), (25, 0, []), (31, 0, [0]), (4, 0, [0, 0]), (23, 0, [12, 5, 0, 266]), nO, nO, (23, 0, [111, 3, 2, 101]), nO, nO, (2, 0, [1, 0])],
  [(25, 0, []), (31, 0, [0]), (4, 0, [0, 0]), (34, 0, [137, 88, 0, 0, 5, 432, 435, 434, 4, 64]), nO, nO, (4, 0, [0, 0]), (23, 0, [43, 5, 5, 271]), nO, nO, (2, 0, [1, 0]), (34, 0, [140, 52, 1, 1, 1, 554, 557, 555, 556, 69]), nO, nO, (31, 0, [0]), (4, 0, [0, 0])],
  [(23, 0, [12, 5, 0, 266]), nO, nO, (2, 0, [1, 0]), (34, 0, [159, 14, 1, 1, 3, 582, 585, 583, 584, 65]), nO, nO, (31, 0, [0]), (4, 0, [0, 0]), (34, 0, [61, 85, 0, 1, 5, 301, 304, 303, 0, 64]), nO, nO, (31, 0, [0])]]
abbrev mX_over : Nat := 71
def tX_over : List (List INS) := [[(2, 0, [1, 0]), (20, 0, [2, 15]), nO, nO, (2, 0, [1, 0]), (4, 0, [0, 0]), (23, 0, [12, 5, 0, 266]), nO, nO, (23, 0, [124, 3, 5, 110]), nO, nO, (21, 0, [2, 20]), nO, nO, (4, 0, [0, 0])],
  [(34, 0, [61, 85, 0, 1, 5, 301, 304, 303, 0, 64]), nO, nO, (31, 0, [0]), (4, 0, [0, 0]), (23, 0, [12, 5, 0, 266]), nO, nO, (2, 0, [1, 0]), (34, 0, [162, 12, 1, 1, 3, 594, 336, 334, 335, 65]), nO, nO, (31, 0, [0])]]
abbrev mX_section : Nat := 72
def tX_section : List (List INS) := [[(4, 0, [0, 0]), (34, 0, [137, 88, 0, 0, 5, 432, 435, 434, 4, 64]), nO, nO, (4, 0, [0, 0]), (23, 0, [43, 5, 5, 271]), nO, nO, (23, 0, [165, 1, 0, 219]), nO, nO, (2, 0, [1, 0]), (34, 0, [168, 28, 1, 1, 2, 599, 533, 531, 532, 68]), nO, nO, (20, 0, [1, 23])],
  [nO, nO, (4, 0, [0, 0]), (34, 0, [61, 85, 0, 1, 5, 301, 304, 303, 0, 64]), nO, nO, (31, 0, [0]), (2, 0, [2, 0]), (22, 0, [28, 96, 52, 65, 80]), nO, nO, nO, nO, nO, nO, nO],
  [nO, nO, nO, nO, nO, nO, nO, nO, nO, nO, nO, nO, nO, nO, nO, nO],
  [nO, nO, nO, nO, (4, 0, [0, 0]), (23, 0, [43, 5, 5, 271]), nO, nO, (23, 0, [165, 1, 0, 219]), nO, nO, (23, 0, [169, 2, 0, 188]), nO, nO, (2, 0, [1, 0]), (25, 0, [])],
  [(31, 0, [0]), (4, 0, [0, 0]), (23, 0, [43, 5, 5, 271]), nO, nO, (23, 0, [165, 1, 0, 219]), nO, nO, (23, 0, [169, 2, 0, 188]), nO, nO, (2, 0, [1, 0]), (0, 1, [1, 0, 0, 0]), (9, 0, [0]), (25, 0, []), (31, 0, [0])],
  [(4, 0, [0, 0]), (23, 0, [43, 5, 5, 271]), nO, nO, (23, 0, [165, 1, 0, 219]), nO, nO, (23, 0, [172, 2, 1, 192]), nO, nO, (2, 0, [1, 0]), (25, 0, []), (35, 0, [175, 0, 1, 1, 0, 600, 339, 338, 0, 71]), nO, nO, (31, 0, [0])],
  [(4, 0, [0, 0]), (34, 0, [61, 85, 0, 1, 5, 301, 304, 303, 0, 64]), nO, nO, (31, 0, [0])]]
abbrev mX_stack : Nat := 73
def tX_stack : List (List INS) := [[(4, 0, [0, 0]), (34, 0, [137, 88, 0, 0, 5, 432, 435, 434, 4, 64]), nO, nO, (4, 0, [0, 0]), (23, 0, [43, 5, 5, 271]), nO, nO, (23, 0, [165, 1, 0, 219]), nO, nO, (2, 0, [1, 0]), (34, 0, [168, 28, 1, 1, 2, 599, 533, 531, 532, 68]), nO, nO, (20, 0, [0, 22])],
  [nO, nO, (2, 0, [2, 0]), (20, 0, [3, 27]), nO, nO, (4, 0, [0, 0]), (34, 0, [61, 85, 0, 1, 5, 301, 304, 303, 0, 64]), nO, nO, (31, 0, [0]), (4, 0, [0, 0]), (23, 0, [43, 5, 5, 271]), nO, nO, (23, 0, [180, 1, 1, 221])],
  [nO, nO, (2, 0, [1, 0]), (25, 0, []), (2, 0, [2, 0]), (35, 0, [183, 1, 2, 1, 0, 605, 501, 500, 0, 73]), nO, nO, (31, 0, [0])]]
abbrev mX_least : Nat := 74
def tX_least : List (List INS) := [[(4, 0, [0, 0]), (34, 0, [137, 88, 0, 0, 5, 432, 435, 434, 4, 64]), nO, nO, (4, 0, [0, 0]), (23, 0, [43, 5, 5, 271]), nO, nO, (23, 0, [188, 1, 9, 236]), nO, nO, (31, 0, [0])]]
abbrev mX_ways : Nat := 75
def tX_ways : List (List INS) := [[(4, 0, [0, 0]), (34, 0, [137, 88, 0, 0, 5, 432, 435, 434, 4, 64]), nO, nO, (4, 0, [0, 0]), (23, 0, [43, 5, 5, 271]), nO, nO, (23, 0, [191, 1, 10, 238]), nO, nO, (31, 0, [0])]]
abbrev mX_plain : Nat := 76
def tX_plain : List (List INS) := [[(4, 0, [0, 0]), (34, 0, [137, 88, 0, 0, 5, 432, 435, 434, 4, 64]), nO, nO, (4, 0, [0, 0]), (23, 0, [43, 5, 5, 271]), nO, nO, (23, 0, [194, 1, 11, 240]), nO, nO, (31, 0, [0])]]
abbrev mX_free : Nat := 77
def tX_free : List (List INS) := [[(4, 0, [0, 0]), (0, (-1), [1, 0, 0, 0]), (0, 1, [1, 0, 0, 0]), (34, 0, [197, 89, 2, 1, 5, 622, 625, 624, 23, 64]), nO, nO, (31, 0, [0])]]
abbrev mX_without : Nat := 78
def tX_without : List (List INS) := [[(2, 0, [1, 0]), (20, 0, [2, 9]), nO, nO, (2, 0, [1, 0]), (0, 1, [1, 0, 0, 0]), (21, 0, [5, 14]), nO, nO, (4, 0, [0, 0]), (34, 0, [61, 85, 0, 1, 5, 301, 304, 303, 0, 64]), nO, nO, (31, 0, [0]), (0, (-1), [1, 0, 0, 0]), (5, 0, [2, 0])],
  [(0, (-1), [1, 0, 0, 0]), (5, 0, [3, 0]), (0, 0, [1, 0, 0, 0]), (5, 0, [4, 1]), nO, (2, 0, [4, 1]), nO, (4, 0, [0, 0]), (23, 0, [12, 5, 0, 266]), nO, nO, (23, 0, [65, 3, 4, 105]), nO, nO, (21, 0, [3, 72]), nO],
  [nO, (2, 0, [4, 1]), nO, (0, 8, [2, 1, 0, 0]), nO, (21, 0, [3, 72]), nO, nO, (4, 0, [0, 0]), (2, 0, [4, 1]), nO, (0, 0, [1, 0, 0, 0]), (34, 0, [197, 89, 2, 1, 5, 622, 625, 624, 23, 64]), nO, nO, (5, 0, [5, 1])],
  [nO, (2, 0, [2, 0]), (0, (-1), [1, 0, 0, 0]), (21, 0, [0, 60]), nO, nO, (2, 0, [5, 1]), nO, (2, 0, [3, 0]), (21, 0, [3, 66]), nO, nO, (2, 0, [4, 1]), nO, (5, 0, [2, 0]), (2, 0, [5, 1])],
  [nO, (5, 0, [3, 0]), (8, 1, [4]), nO, nO, (19, 0, [21]), nO, nO, (2, 0, [1, 0]), (20, 0, [1, 80]), nO, nO, (2, 0, [2, 0]), (19, 0, [81]), nO, nO],
  [(2, 0, [3, 0]), (31, 0, [0])]]
abbrev mX_nodes : Nat := 79
def tX_nodes : List (List INS) := [[(4, 0, [0, 0]), (34, 0, [137, 88, 0, 0, 5, 432, 435, 434, 4, 64]), nO, nO, (4, 0, [0, 0]), (23, 0, [43, 5, 5, 271]), nO, nO, (23, 0, [201, 1, 8, 234]), nO, nO, (31, 0, [0])]]
abbrev mX_node : Nat := 80
def tX_node : List (List INS) := [[(2, 0, [1, 0]), (20, 0, [2, 13]), nO, nO, (2, 0, [2, 0]), (20, 0, [2, 13]), nO, nO, (2, 0, [2, 0]), (0, 4, [1, 0, 0, 0]), (21, 0, [5, 18]), nO, nO, (4, 0, [0, 0]), (34, 0, [61, 85, 0, 1, 5, 301, 304, 303, 0, 64]), nO],
  [nO, (31, 0, [0]), (4, 0, [0, 0]), (34, 0, [137, 88, 0, 0, 5, 432, 435, 434, 4, 64]), nO, nO, (2, 0, [1, 0]), (4, 0, [0, 0]), (23, 0, [43, 5, 5, 271]), nO, nO, (23, 0, [201, 1, 8, 234]), nO, nO, (21, 0, [2, 35]), nO],
  [nO, (0, (-1), [1, 0, 0, 0]), (31, 0, [0]), (2, 0, [2, 0]), (22, 0, [32, 108, 68, 78, 88, 98]), nO, nO, nO, nO, nO, nO, nO, nO, nO, nO, nO],
  [nO, nO, nO, nO, nO, nO, nO, nO, nO, nO, nO, nO, nO, nO, nO, nO],
  [nO, nO, nO, nO, (4, 0, [0, 0]), (23, 0, [43, 5, 5, 271]), nO, nO, (23, 0, [204, 1, 2, 223]), nO, nO, (2, 0, [1, 0]), (25, 0, []), (31, 0, [0]), (4, 0, [0, 0]), (23, 0, [43, 5, 5, 271])],
  [nO, nO, (23, 0, [207, 1, 3, 225]), nO, nO, (2, 0, [1, 0]), (25, 0, []), (31, 0, [0]), (4, 0, [0, 0]), (23, 0, [43, 5, 5, 271]), nO, nO, (23, 0, [208, 1, 4, 227]), nO, nO, (2, 0, [1, 0])],
  [(25, 0, []), (31, 0, [0]), (4, 0, [0, 0]), (23, 0, [43, 5, 5, 271]), nO, nO, (23, 0, [209, 1, 5, 229]), nO, nO, (2, 0, [1, 0]), (25, 0, []), (31, 0, [0]), (4, 0, [0, 0]), (23, 0, [43, 5, 5, 271]), nO, nO],
  [(23, 0, [212, 1, 6, 231]), nO, nO, (2, 0, [1, 0]), (25, 0, []), (31, 0, [0])]]
abbrev mX_all : Nat := 81
def tX_all : List (List INS) := [[(2, 0, [1, 0]), (20, 0, [2, 9]), nO, nO, (2, 0, [1, 0]), (0, 4, [1, 0, 0, 0]), (21, 0, [5, 14]), nO, nO, (4, 0, [0, 0]), (34, 0, [61, 85, 0, 1, 5, 301, 304, 303, 0, 64]), nO, nO, (31, 0, [0]), (4, 0, [0, 0]), (34, 0, [137, 88, 0, 0, 5, 432, 435, 434, 4, 64])],
  [nO, nO, (2, 0, [1, 0]), (22, 0, [29, 80, 48, 56, 64, 72]), nO, nO, nO, nO, nO, nO, nO, nO, nO, nO, nO, nO],
  [nO, nO, nO, nO, nO, nO, nO, nO, nO, nO, nO, nO, nO, nO, nO, nO],
  [(4, 0, [0, 0]), (23, 0, [43, 5, 5, 271]), nO, nO, (34, 0, [215, 54, 0, 1, 1, 642, 645, 643, 644, 69]), nO, nO, (31, 0, [0]), (4, 0, [0, 0]), (23, 0, [43, 5, 5, 271]), nO, nO, (34, 0, [218, 55, 0, 1, 1, 647, 650, 648, 649, 69]), nO, nO, (31, 0, [0])],
  [(4, 0, [0, 0]), (23, 0, [43, 5, 5, 271]), nO, nO, (34, 0, [221, 56, 0, 1, 1, 651, 654, 652, 653, 69]), nO, nO, (31, 0, [0]), (4, 0, [0, 0]), (23, 0, [43, 5, 5, 271]), nO, nO, (34, 0, [224, 57, 0, 1, 1, 655, 658, 656, 657, 69]), nO, nO, (31, 0, [0])],
  [(4, 0, [0, 0]), (23, 0, [43, 5, 5, 271]), nO, nO, (34, 0, [227, 58, 0, 1, 1, 659, 662, 660, 661, 69]), nO, nO, (31, 0, [0])]]
abbrev mX_draw : Nat := 82
def tX_draw : List (List INS) := [[(2, 0, [1, 0]), (20, 0, [2, 20]), nO, nO, (2, 0, [1, 0]), (0, 999999, [2, 3, 230, 667]), nO, (21, 0, [4, 20]), nO, nO, (2, 0, [2, 0]), (20, 0, [2, 20]), nO, nO, (2, 0, [2, 0]), (0, 8, [2, 1, 0, 0])],
  [nO, (21, 0, [5, 25]), nO, nO, (4, 0, [0, 0]), (34, 0, [61, 85, 0, 1, 5, 301, 304, 303, 0, 64]), nO, nO, (31, 0, [0]), (4, 0, [0, 0]), (23, 0, [16, 5, 1, 267]), nO, nO, (4, 0, [0, 0]), (23, 0, [12, 5, 0, 266]), nO],
  [nO, (34, 0, [83, 5, 1, 0, 3, 321, 324, 322, 323, 65]), nO, nO, (4, 0, [0, 0]), (23, 0, [16, 5, 1, 267]), nO, nO, (0, 0, [1, 0, 0, 0]), (24, 0, [65, 3, 4, 105]), nO, nO, (2, 0, [1, 0]), (13, 0, []), (6, 0, [3, 0]), (0, 0, [1, 0, 0, 0])],
  [(5, 0, [5, 1]), nO, (2, 0, [5, 1]), nO, (2, 0, [2, 0]), (21, 0, [3, 166]), nO, nO, (3, 0, [3, 0]), (1, 1103515245, [3, 1, 231, 668]), nO, nO, (11, 0, [2]), (1, 12345, [3, 1, 233, 669]), nO, nO],
  [(11, 0, [0]), (1, 2147483648, [3, 1, 235, 670]), nO, nO, (12, 0, [1]), (6, 0, [3, 0]), (4, 0, [0, 0]), (23, 0, [16, 5, 1, 267]), nO, nO, (3, 0, [3, 0]), (1, 1024, [3, 1, 237, 671]), nO, nO, (12, 0, [0]), (34, 0, [239, 24, 1, 1, 3, 672, 675, 673, 674, 65])],
  [nO, nO, (5, 0, [6, 1]), nO, (4, 0, [0, 0]), (23, 0, [16, 5, 1, 267]), nO, nO, (3, 0, [3, 0]), (1, 32768, [3, 1, 243, 676]), nO, nO, (12, 0, [0]), (34, 0, [239, 24, 1, 1, 3, 672, 675, 673, 674, 65]), nO, nO],
  [(5, 0, [7, 1]), nO, (3, 0, [3, 0]), (1, 65536, [3, 1, 245, 677]), nO, nO, (12, 0, [0]), (1, 4, [3, 1, 247, 678]), nO, nO, (12, 0, [1]), (14, 0, []), (5, 0, [8, 1]), nO, (4, 0, [0, 0]), (23, 0, [16, 5, 1, 267])],
  [nO, nO, (2, 0, [8, 1]), nO, (2, 0, [6, 1]), nO, (2, 0, [7, 1]), nO, (36, 0, [249, 1, 679, 409, 72, 410]), nO, nO, (2, 0, [6, 1]), nO, (2, 0, [7, 1]), nO, (36, 0, [144, 0, 562, 424, 72, 425])],
  [nO, nO, (34, 0, [87, 16, 3, 1, 3, 325, 328, 326, 327, 65]), nO, nO, (18, 0, []), (4, 0, [0, 0]), (23, 0, [16, 5, 1, 267]), nO, nO, (34, 0, [91, 13, 0, 1, 3, 329, 332, 330, 331, 65]), nO, nO, (20, 0, [0, 160]), nO, nO],
  [(4, 0, [0, 0]), (23, 0, [16, 5, 1, 267]), nO, nO, (4, 0, [0, 0]), (23, 0, [16, 5, 1, 267]), nO, nO, (23, 0, [65, 3, 4, 105]), nO, nO, (0, 1, [1, 0, 0, 0]), (9, 0, [1]), (34, 0, [104, 18, 1, 0, 3, 364, 367, 365, 366, 65]), nO, nO],
  [(8, 1, [5]), nO, nO, (19, 0, [50]), nO, nO, (4, 0, [0, 0]), (34, 0, [98, 87, 0, 0, 5, 347, 350, 349, 2, 64]), nO, nO, (4, 0, [0, 0]), (23, 0, [12, 5, 0, 266]), nO, nO, (23, 0, [65, 3, 4, 105]), nO],
  [nO, (31, 0, [0])]]
abbrev mX_told : Nat := 83
def tX_told : List (List INS) := [[(2, 0, [1, 0]), (22, 0, [47, 110, 48, 53, 58, 63, 71, 79, 94, 102]), nO, nO, nO, nO, nO, nO, nO, nO, nO, nO, nO, nO, nO, nO],
  [nO, nO, nO, nO, nO, nO, nO, nO, nO, nO, nO, nO, nO, nO, nO, nO],
  [nO, nO, nO, nO, nO, nO, nO, nO, nO, nO, nO, nO, nO, nO, nO, nO],
  [(4, 0, [0, 0]), (23, 0, [51, 5, 7, 273]), nO, nO, (31, 0, [0]), (4, 0, [0, 0]), (23, 0, [55, 5, 8, 274]), nO, nO, (31, 0, [0]), (4, 0, [0, 0]), (23, 0, [58, 5, 9, 275]), nO, nO, (31, 0, [0]), (4, 0, [0, 0])],
  [(23, 0, [12, 5, 0, 266]), nO, nO, (23, 0, [65, 3, 4, 105]), nO, nO, (31, 0, [0]), (4, 0, [0, 0]), (23, 0, [12, 5, 0, 266]), nO, nO, (23, 0, [124, 3, 5, 110]), nO, nO, (31, 0, [0]), (4, 0, [0, 0])],
  [(34, 0, [137, 88, 0, 0, 5, 432, 435, 434, 4, 64]), nO, nO, (4, 0, [0, 0]), (23, 0, [43, 5, 5, 271]), nO, nO, (23, 0, [165, 1, 0, 219]), nO, nO, (23, 0, [252, 2, 4, 198]), nO, nO, (31, 0, [0]), (4, 0, [0, 0]), (23, 0, [22, 5, 2, 268])],
  [nO, nO, (23, 0, [158, 0, 2, 137]), nO, nO, (31, 0, [0]), (4, 0, [0, 0]), (23, 0, [12, 5, 0, 266]), nO, nO, (34, 0, [253, 11, 0, 1, 3, 684, 687, 685, 686, 65]), nO, nO, (31, 0, [0]), (4, 0, [0, 0]), (34, 0, [61, 85, 0, 1, 5, 301, 304, 303, 0, 64])],
  [nO, nO, (31, 0, [0])]]
abbrev mX_digest : Nat := 84
def tX_digest : List (List INS) := [[(1, 1951, [3, 1, 256, 692]), nO, nO, (6, 0, [1, 0]), (0, 0, [1, 0, 0, 0]), (5, 0, [3, 0]), (2, 0, [3, 0]), (0, 7, [2, 1, 0, 0]), nO, (21, 0, [4, 31]), nO, nO, (1, 31, [3, 1, 258, 693]), nO, nO, (3, 0, [1, 0])],
  [(11, 0, [2]), (4, 0, [0, 0]), (2, 0, [3, 0]), (34, 0, [260, 83, 1, 1, 5, 694, 683, 681, 682, 64]), nO, nO, (13, 0, []), (11, 0, [0]), (6, 0, [1, 0]), (8, 1, [3]), nO, nO, (19, 0, [6]), nO, nO, (0, 0, [1, 0, 0, 0])],
  [(5, 0, [3, 0]), (2, 0, [3, 0]), (4, 0, [0, 0]), (23, 0, [12, 5, 0, 266]), nO, nO, (23, 0, [65, 3, 4, 105]), nO, nO, (21, 0, [3, 107]), nO, nO, (2, 0, [3, 0]), (0, 8, [2, 1, 0, 0]), nO, (21, 0, [3, 107])],
  [nO, nO, (1, 31, [3, 1, 258, 693]), nO, nO, (3, 0, [1, 0]), (11, 0, [2]), (4, 0, [0, 0]), (23, 0, [12, 5, 0, 266]), nO, nO, (23, 0, [118, 3, 0, 93]), nO, nO, (2, 0, [3, 0]), (25, 0, [])],
  [(13, 0, []), (11, 0, [0]), (6, 0, [1, 0]), (1, 31, [3, 1, 258, 693]), nO, nO, (3, 0, [1, 0]), (11, 0, [2]), (4, 0, [0, 0]), (23, 0, [12, 5, 0, 266]), nO, nO, (23, 0, [115, 3, 1, 98]), nO, nO, (2, 0, [3, 0])],
  [(25, 0, []), (13, 0, []), (11, 0, [0]), (6, 0, [1, 0]), (1, 31, [3, 1, 258, 693]), nO, nO, (3, 0, [1, 0]), (11, 0, [2]), (4, 0, [0, 0]), (23, 0, [12, 5, 0, 266]), nO, nO, (23, 0, [111, 3, 2, 101]), nO, nO],
  [(2, 0, [3, 0]), (25, 0, []), (13, 0, []), (11, 0, [0]), (6, 0, [1, 0]), (8, 1, [3]), nO, nO, (19, 0, [33]), nO, nO, (1, 31, [3, 1, 258, 693]), nO, nO, (3, 0, [1, 0]), (11, 0, [2])],
  [(4, 0, [0, 0]), (34, 0, [263, 74, 0, 1, 5, 695, 609, 607, 608, 64]), nO, nO, (13, 0, []), (11, 0, [0]), (6, 0, [1, 0]), (1, 31, [3, 1, 258, 693]), nO, nO, (3, 0, [1, 0]), (11, 0, [2]), (4, 0, [0, 0]), (34, 0, [266, 79, 0, 1, 5, 696, 633, 631, 632, 64]), nO, nO],
  [(13, 0, []), (11, 0, [0]), (32, 0, [])]]
abbrev mX_refuseBad : Nat := 85
def tX_refuseBad : List (List INS) := [[(4, 0, [0, 0]), (16, 0, []), (23, 0, [51, 5, 7, 273]), nO, nO, (0, 1, [1, 0, 0, 0]), (9, 0, [0]), (24, 0, [51, 5, 7, 273]), nO, nO, (0, (-2), [2, 1, 0, 0]), nO, (31, 0, [0])]]
abbrev mX_refuseFull : Nat := 86
def tX_refuseFull : List (List INS) := [[(4, 0, [0, 0]), (16, 0, []), (23, 0, [58, 5, 9, 275]), nO, nO, (0, 1, [1, 0, 0, 0]), (9, 0, [0]), (24, 0, [58, 5, 9, 275]), nO, nO, (0, (-4), [2, 1, 0, 0]), nO, (31, 0, [0])]]
abbrev mX_settle : Nat := 87
def tX_settle : List (List INS) := [[(4, 0, [0, 0]), (23, 0, [22, 5, 2, 268]), nO, nO, (4, 0, [0, 0]), (23, 0, [12, 5, 0, 266]), nO, nO, (34, 0, [269, 26, 1, 0, 0, 351, 354, 352, 353, 66]), nO, nO, (4, 0, [0, 0]), (23, 0, [12, 5, 0, 266]), nO, nO, (4, 0, [0, 0])],
  [(23, 0, [16, 5, 1, 267]), nO, nO, (34, 0, [83, 5, 1, 0, 3, 321, 324, 322, 323, 65]), nO, nO, (4, 0, [0, 0]), (0, 0, [1, 0, 0, 0]), (24, 0, [47, 5, 6, 272]), nO, nO, (33, 0, [])]]
abbrev mX_makeNest : Nat := 88
def tX_makeNest : List (List INS) := [[(4, 0, [0, 0]), (23, 0, [47, 5, 6, 272]), nO, nO, (20, 0, [0, 8]), nO, nO, (33, 0, []), (4, 0, [0, 0]), (23, 0, [43, 5, 5, 271]), nO, nO, (23, 0, [165, 1, 0, 219]), nO, nO, (4, 0, [0, 0])],
  [(23, 0, [12, 5, 0, 266]), nO, nO, (0, (-1), [1, 0, 0, 0]), (34, 0, [272, 30, 2, 0, 2, 436, 439, 437, 438, 68]), nO, nO, (4, 0, [0, 0]), (23, 0, [29, 5, 3, 269]), nO, nO, (4, 0, [0, 0]), (23, 0, [12, 5, 0, 266]), nO, nO, (4, 0, [0, 0])],
  [(23, 0, [43, 5, 5, 271]), nO, nO, (23, 0, [165, 1, 0, 219]), nO, nO, (0, 0, [1, 0, 0, 0]), (34, 0, [276, 33, 3, 0, 4, 452, 455, 453, 454, 67]), nO, nO, (4, 0, [0, 0]), (23, 0, [43, 5, 5, 271]), nO, nO, (4, 0, [0, 0]), (23, 0, [29, 5, 3, 269])],
  [nO, nO, (23, 0, [280, 4, 6, 160]), nO, nO, (24, 0, [188, 1, 9, 236]), nO, nO, (4, 0, [0, 0]), (23, 0, [43, 5, 5, 271]), nO, nO, (4, 0, [0, 0]), (23, 0, [29, 5, 3, 269]), nO, nO],
  [(23, 0, [281, 4, 7, 162]), nO, nO, (24, 0, [191, 1, 10, 238]), nO, nO, (4, 0, [0, 0]), (23, 0, [43, 5, 5, 271]), nO, nO, (4, 0, [0, 0]), (23, 0, [29, 5, 3, 269]), nO, nO, (4, 0, [0, 0]), (23, 0, [43, 5, 5, 271])],
  [nO, nO, (23, 0, [165, 1, 0, 219]), nO, nO, (34, 0, [282, 44, 1, 1, 4, 506, 509, 507, 508, 67]), nO, nO, (24, 0, [194, 1, 11, 240]), nO, nO, (4, 0, [0, 0]), (23, 0, [29, 5, 3, 269]), nO, nO, (4, 0, [0, 0])],
  [(23, 0, [43, 5, 5, 271]), nO, nO, (23, 0, [165, 1, 0, 219]), nO, nO, (4, 0, [0, 0]), (23, 0, [43, 5, 5, 271]), nO, nO, (23, 0, [180, 1, 1, 221]), nO, nO, (34, 0, [286, 43, 2, 0, 4, 514, 517, 515, 516, 67]), nO, nO],
  [(4, 0, [0, 0]), (23, 0, [43, 5, 5, 271]), nO, nO, (4, 0, [0, 0]), (23, 0, [12, 5, 0, 266]), nO, nO, (34, 0, [290, 45, 1, 0, 1, 518, 521, 519, 520, 69]), nO, nO, (4, 0, [0, 0]), (0, 1, [1, 0, 0, 0]), (24, 0, [47, 5, 6, 272]), nO, nO],
  [(33, 0, [])]]
abbrev mX_fewestWithout : Nat := 89
def tX_fewestWithout : List (List INS) := [[(4, 0, [0, 0]), (23, 0, [36, 5, 4, 270]), nO, nO, (4, 0, [0, 0]), (23, 0, [12, 5, 0, 266]), nO, nO, (2, 0, [1, 0]), (34, 0, [272, 30, 2, 0, 2, 436, 439, 437, 438, 68]), nO, nO, (4, 0, [0, 0]), (23, 0, [29, 5, 3, 269]), nO, nO],
  [(4, 0, [0, 0]), (23, 0, [12, 5, 0, 266]), nO, nO, (4, 0, [0, 0]), (23, 0, [36, 5, 4, 270]), nO, nO, (2, 0, [2, 0]), (34, 0, [276, 33, 3, 0, 4, 452, 455, 453, 454, 67]), nO, nO, (4, 0, [0, 0]), (23, 0, [29, 5, 3, 269]), nO, nO],
  [(23, 0, [280, 4, 6, 160]), nO, nO, (31, 0, [0])]]
abbrev mM_bad : Nat := 90
def tM_bad : List (List INS) := [[(4, 0, [0, 0]), (23, 0, [1, 6, 0, 707]), nO, nO, (0, 0, [1, 0, 0, 0]), (17, 0, []), (25, 0, []), (0, 1, [1, 0, 0, 0]), (9, 0, [0]), (26, 0, []), (0, (-2), [2, 1, 0, 0]), nO, (31, 0, [0])]]
abbrev mM_no : Nat := 91
def tM_no : List (List INS) := [[(4, 0, [0, 0]), (23, 0, [1, 6, 0, 707]), nO, nO, (0, 1, [1, 0, 0, 0]), (17, 0, []), (25, 0, []), (0, 1, [1, 0, 0, 0]), (9, 0, [0]), (26, 0, []), (0, (-3), [2, 1, 0, 0]), nO, (31, 0, [0])]]
abbrev mM_full : Nat := 92
def tM_full : List (List INS) := [[(4, 0, [0, 0]), (23, 0, [1, 6, 0, 707]), nO, nO, (0, 2, [1, 0, 0, 0]), (17, 0, []), (25, 0, []), (0, 1, [1, 0, 0, 0]), (9, 0, [0]), (26, 0, []), (0, (-4), [2, 1, 0, 0]), nO, (31, 0, [0])]]
abbrev mM_in : Nat := 93
def tM_in : List (List INS) := [[(2, 0, [0, 0]), (2, 0, [1, 0]), (21, 0, [2, 14]), nO, nO, (2, 0, [0, 0]), (2, 0, [2, 0]), (21, 0, [4, 14]), nO, nO, (0, 1, [1, 0, 0, 0]), (19, 0, [15]), nO, nO, (0, 0, [1, 0, 0, 0]), (31, 0, [1])]]
abbrev mM_has : Nat := 94
def tM_has : List (List INS) := [[(2, 0, [0, 0]), (2, 0, [1, 0]), (9, 0, [7]), (0, 1, [1, 0, 0, 0]), (9, 0, [3]), (0, 1, [1, 0, 0, 0]), (21, 0, [1, 13]), nO, nO, (0, 1, [1, 0, 0, 0]), (19, 0, [14]), nO, nO, (0, 0, [1, 0, 0, 0]), (31, 0, [1])]]
abbrev mM_bits : Nat := 95
def tM_bits : List (List INS) := [[(0, 0, [1, 0, 0, 0]), (5, 0, [1, 0]), (0, 0, [1, 0, 0, 0]), (5, 0, [2, 0]), (2, 0, [2, 0]), (0, 8, [2, 1, 0, 0]), nO, (21, 0, [3, 24]), nO, nO, (2, 0, [1, 0]), (2, 0, [0, 0]), (2, 0, [2, 0]), (9, 0, [7]), (0, 1, [1, 0, 0, 0]), (9, 0, [3])],
  [(9, 0, [0]), (5, 0, [1, 0]), (8, 1, [2]), nO, nO, (19, 0, [4]), nO, nO, (2, 0, [1, 0]), (31, 0, [0])]]
abbrev mM_begins : Nat := 96
def tM_begins : List (List INS) := [[(4, 0, [0, 0]), (2, 0, [1, 0]), (24, 0, [13, 6, 1, 708]), nO, nO, (4, 0, [0, 0]), (0, 0, [1, 0, 0, 0]), (24, 0, [79, 6, 2, 709]), nO, nO, (4, 0, [0, 0]), (0, 0, [1, 0, 0, 0]), (24, 0, [82, 6, 8, 715]), nO, nO, (0, 0, [1, 0, 0, 0])],
  [(5, 0, [2, 0]), (2, 0, [2, 0]), (0, 4, [1, 0, 0, 0]), (21, 0, [3, 35]), nO, nO, (4, 0, [0, 0]), (23, 0, [26, 6, 6, 713]), nO, nO, (2, 0, [2, 0]), (2, 0, [2, 0]), (26, 0, []), (8, 1, [2]), nO, nO],
  [(19, 0, [17]), nO, nO, (33, 0, [])]]
abbrev mM_isRange : Nat := 97
def tM_isRange : List (List INS) := [[(2, 0, [1, 0]), (0, 0, [1, 0, 0, 0]), (4, 0, [0, 0]), (23, 0, [79, 6, 2, 709]), nO, nO, (0, 1, [1, 0, 0, 0]), (9, 0, [1]), (35, 0, [85, 93, 3, 1, 0, 788, 790, 789, 0, 70]), nO, nO, (31, 0, [1])]]
abbrev mM_isKind : Nat := 98
def tM_isKind : List (List INS) := [[(2, 0, [0, 0]), (0, 0, [1, 0, 0, 0]), (0, 3, [1, 0, 0, 0]), (35, 0, [85, 93, 3, 1, 0, 788, 790, 789, 0, 70]), nO, nO, (31, 0, [1])]]
abbrev mM_isFromTo : Nat := 99
def tM_isFromTo : List (List INS) := [[(2, 0, [1, 0]), (0, 0, [1, 0, 0, 0]), (2, 0, [2, 0]), (35, 0, [85, 93, 3, 1, 0, 788, 790, 789, 0, 70]), nO, nO, (20, 0, [0, 21]), nO, nO, (2, 0, [2, 0]), (4, 0, [0, 0]), (23, 0, [13, 6, 1, 708]), nO, nO, (21, 0, [4, 21]), nO],
  [nO, (0, 1, [1, 0, 0, 0]), (19, 0, [22]), nO, nO, (0, 0, [1, 0, 0, 0]), (31, 0, [1])]]
abbrev mM_isEmpty : Nat := 100
def tM_isEmpty : List (List INS) := [[(4, 0, [0, 0]), (23, 0, [20, 6, 4, 711]), nO, nO, (2, 0, [1, 0]), (25, 0, []), (4, 0, [0, 0]), (23, 0, [23, 6, 5, 712]), nO, nO, (2, 0, [1, 0]), (25, 0, []), (21, 0, [1, 19]), nO, nO, (0, 1, [1, 0, 0, 0])],
  [(19, 0, [20]), nO, nO, (0, 0, [1, 0, 0, 0]), (31, 0, [1])]]
abbrev mM_coverMany : Nat := 101
def tM_coverMany : List (List INS) := [[(0, 0, [1, 0, 0, 0]), (5, 0, [2, 0]), (0, 0, [1, 0, 0, 0]), (5, 0, [3, 0]), (2, 0, [3, 0]), (4, 0, [0, 0]), (23, 0, [79, 6, 2, 709]), nO, nO, (21, 0, [3, 46]), nO, nO, (2, 0, [2, 0]), (4, 0, [0, 0]), (23, 0, [20, 6, 4, 711]), nO],
  [nO, (2, 0, [3, 0]), (25, 0, []), (2, 0, [1, 0]), (21, 0, [4, 37]), nO, nO, (4, 0, [0, 0]), (23, 0, [23, 6, 5, 712]), nO, nO, (2, 0, [3, 0]), (25, 0, []), (2, 0, [1, 0]), (21, 0, [5, 37]), nO],
  [nO, (0, 1, [1, 0, 0, 0]), (19, 0, [38]), nO, nO, (0, 0, [1, 0, 0, 0]), (9, 0, [0]), (5, 0, [2, 0]), (8, 1, [3]), nO, nO, (19, 0, [4]), nO, nO, (2, 0, [2, 0]), (31, 0, [0])]]
abbrev mM_isTooMuch : Nat := 102
def tM_isTooMuch : List (List INS) := [[(0, 0, [1, 0, 0, 0]), (5, 0, [1, 0]), (0, 0, [1, 0, 0, 0]), (5, 0, [2, 0]), (2, 0, [2, 0]), (4, 0, [0, 0]), (23, 0, [13, 6, 1, 708]), nO, nO, (21, 0, [3, 37]), nO, nO, (2, 0, [1, 0]), (20, 0, [1, 25]), nO, nO],
  [(4, 0, [0, 0]), (2, 0, [2, 0]), (34, 0, [89, 101, 1, 1, 6, 818, 821, 820, 30, 70]), nO, nO, (0, 5, [1, 0, 0, 0]), (21, 0, [5, 29]), nO, nO, (0, 1, [1, 0, 0, 0]), (19, 0, [30]), nO, nO, (0, 0, [1, 0, 0, 0]), (5, 0, [1, 0]), (8, 1, [2])],
  [nO, nO, (19, 0, [4]), nO, nO, (2, 0, [1, 0]), (31, 0, [1])]]
abbrev mM_comes : Nat := 103
def tM_comes : List (List INS) := [[(4, 0, [0, 0]), (23, 0, [17, 6, 3, 710]), nO, nO, (4, 0, [0, 0]), (23, 0, [79, 6, 2, 709]), nO, nO, (2, 0, [1, 0]), (26, 0, []), (4, 0, [0, 0]), (23, 0, [20, 6, 4, 711]), nO, nO, (4, 0, [0, 0]), (23, 0, [79, 6, 2, 709])],
  [nO, nO, (2, 0, [2, 0]), (26, 0, []), (4, 0, [0, 0]), (23, 0, [23, 6, 5, 712]), nO, nO, (4, 0, [0, 0]), (23, 0, [79, 6, 2, 709]), nO, nO, (2, 0, [3, 0]), (26, 0, []), (4, 0, [0, 0]), (16, 0, [])],
  [(23, 0, [79, 6, 2, 709]), nO, nO, (0, 1, [1, 0, 0, 0]), (9, 0, [0]), (24, 0, [79, 6, 2, 709]), nO, nO, (33, 0, [])]]
abbrev mM_goes : Nat := 104
def tM_goes : List (List INS) := [[(4, 0, [0, 0]), (16, 0, []), (23, 0, [79, 6, 2, 709]), nO, nO, (0, 1, [1, 0, 0, 0]), (9, 0, [1]), (24, 0, [79, 6, 2, 709]), nO, nO, (2, 0, [1, 0]), (5, 0, [2, 0]), (2, 0, [2, 0]), (4, 0, [0, 0]), (23, 0, [79, 6, 2, 709]), nO],
  [nO, (21, 0, [3, 68]), nO, nO, (4, 0, [0, 0]), (23, 0, [17, 6, 3, 710]), nO, nO, (2, 0, [2, 0]), (4, 0, [0, 0]), (23, 0, [17, 6, 3, 710]), nO, nO, (2, 0, [2, 0]), (0, 1, [1, 0, 0, 0]), (9, 0, [0])],
  [(25, 0, []), (26, 0, []), (4, 0, [0, 0]), (23, 0, [20, 6, 4, 711]), nO, nO, (2, 0, [2, 0]), (4, 0, [0, 0]), (23, 0, [20, 6, 4, 711]), nO, nO, (2, 0, [2, 0]), (0, 1, [1, 0, 0, 0]), (9, 0, [0]), (25, 0, []), (26, 0, [])],
  [(4, 0, [0, 0]), (23, 0, [23, 6, 5, 712]), nO, nO, (2, 0, [2, 0]), (4, 0, [0, 0]), (23, 0, [23, 6, 5, 712]), nO, nO, (2, 0, [2, 0]), (0, 1, [1, 0, 0, 0]), (9, 0, [0]), (25, 0, []), (26, 0, []), (8, 1, [2]), nO],
  [nO, (19, 0, [12]), nO, nO, (33, 0, [])]]
abbrev mM_notes : Nat := 105
def tM_notes : List (List INS) := [[(4, 0, [0, 0]), (23, 0, [82, 6, 8, 715]), nO, nO, (0, 12, [2, 1, 0, 0]), nO, (21, 0, [1, 49]), nO, nO, (0, 0, [1, 0, 0, 0]), (5, 0, [1, 0]), (2, 0, [1, 0]), (0, 330, [3, 2, 0, 0]), nO, nO, (21, 0, [3, 39])],
  [nO, nO, (4, 0, [0, 0]), (23, 0, [29, 6, 7, 714]), nO, nO, (2, 0, [1, 0]), (4, 0, [0, 0]), (23, 0, [29, 6, 7, 714]), nO, nO, (2, 0, [1, 0]), (0, 30, [2, 1, 0, 0]), nO, (9, 0, [0]), (25, 0, [])],
  [(26, 0, []), (8, 1, [1]), nO, nO, (19, 0, [11]), nO, nO, (4, 0, [0, 0]), (16, 0, []), (23, 0, [82, 6, 8, 715]), nO, nO, (0, 1, [1, 0, 0, 0]), (9, 0, [1]), (24, 0, [82, 6, 8, 715]), nO],
  [nO, (0, 30, [2, 1, 0, 0]), nO, (4, 0, [0, 0]), (23, 0, [82, 6, 8, 715]), nO, nO, (9, 0, [2]), (5, 0, [1, 0]), (4, 0, [0, 0]), (23, 0, [29, 6, 7, 714]), nO, nO, (2, 0, [1, 0]), (4, 0, [0, 0]), (23, 0, [13, 6, 1, 708])],
  [nO, nO, (26, 0, []), (4, 0, [0, 0]), (23, 0, [29, 6, 7, 714]), nO, nO, (2, 0, [1, 0]), (0, 1, [1, 0, 0, 0]), (9, 0, [0]), (4, 0, [0, 0]), (23, 0, [79, 6, 2, 709]), nO, nO, (26, 0, []), (0, 0, [1, 0, 0, 0])],
  [(5, 0, [2, 0]), (2, 0, [2, 0]), (0, 4, [1, 0, 0, 0]), (21, 0, [3, 108]), nO, nO, (4, 0, [0, 0]), (23, 0, [29, 6, 7, 714]), nO, nO, (2, 0, [1, 0]), (0, 2, [1, 0, 0, 0]), (9, 0, [0]), (2, 0, [2, 0]), (9, 0, [0]), (4, 0, [0, 0])],
  [(23, 0, [26, 6, 6, 713]), nO, nO, (2, 0, [2, 0]), (25, 0, []), (26, 0, []), (8, 1, [2]), nO, nO, (19, 0, [81]), nO, nO, (0, 0, [1, 0, 0, 0]), (5, 0, [2, 0]), (2, 0, [2, 0]), (0, 8, [2, 1, 0, 0])],
  [nO, (21, 0, [3, 173]), nO, nO, (4, 0, [0, 0]), (23, 0, [29, 6, 7, 714]), nO, nO, (2, 0, [1, 0]), (0, 6, [2, 1, 0, 0]), nO, (9, 0, [0]), (2, 0, [2, 0]), (9, 0, [0]), (4, 0, [0, 0]), (23, 0, [17, 6, 3, 710])],
  [nO, nO, (2, 0, [2, 0]), (25, 0, []), (26, 0, []), (4, 0, [0, 0]), (23, 0, [29, 6, 7, 714]), nO, nO, (2, 0, [1, 0]), (0, 14, [2, 1, 0, 0]), nO, (9, 0, [0]), (2, 0, [2, 0]), (9, 0, [0]), (4, 0, [0, 0])],
  [(23, 0, [20, 6, 4, 711]), nO, nO, (2, 0, [2, 0]), (25, 0, []), (26, 0, []), (4, 0, [0, 0]), (23, 0, [29, 6, 7, 714]), nO, nO, (2, 0, [1, 0]), (0, 22, [2, 1, 0, 0]), nO, (9, 0, [0]), (2, 0, [2, 0]), (9, 0, [0])],
  [(4, 0, [0, 0]), (23, 0, [23, 6, 5, 712]), nO, nO, (2, 0, [2, 0]), (25, 0, []), (26, 0, []), (8, 1, [2]), nO, nO, (19, 0, [110]), nO, nO, (4, 0, [0, 0]), (16, 0, []), (23, 0, [82, 6, 8, 715])],
  [nO, nO, (0, 1, [1, 0, 0, 0]), (9, 0, [0]), (24, 0, [82, 6, 8, 715]), nO, nO, (33, 0, [])]]
abbrev mM_takesBack : Nat := 106
def tM_takesBack : List (List INS) := [[(4, 0, [0, 0]), (16, 0, []), (23, 0, [82, 6, 8, 715]), nO, nO, (0, 1, [1, 0, 0, 0]), (9, 0, [1]), (24, 0, [82, 6, 8, 715]), nO, nO, (0, 30, [2, 1, 0, 0]), nO, (4, 0, [0, 0]), (23, 0, [82, 6, 8, 715]), nO, nO],
  [(9, 0, [2]), (5, 0, [1, 0]), (4, 0, [0, 0]), (4, 0, [0, 0]), (23, 0, [29, 6, 7, 714]), nO, nO, (2, 0, [1, 0]), (25, 0, []), (24, 0, [13, 6, 1, 708]), nO, nO, (4, 0, [0, 0]), (4, 0, [0, 0]), (23, 0, [29, 6, 7, 714]), nO],
  [nO, (2, 0, [1, 0]), (0, 1, [1, 0, 0, 0]), (9, 0, [0]), (25, 0, []), (24, 0, [79, 6, 2, 709]), nO, nO, (0, 0, [1, 0, 0, 0]), (5, 0, [2, 0]), (2, 0, [2, 0]), (0, 4, [1, 0, 0, 0]), (21, 0, [3, 69]), nO, nO, (4, 0, [0, 0])],
  [(23, 0, [26, 6, 6, 713]), nO, nO, (2, 0, [2, 0]), (4, 0, [0, 0]), (23, 0, [29, 6, 7, 714]), nO, nO, (2, 0, [1, 0]), (0, 2, [1, 0, 0, 0]), (9, 0, [0]), (2, 0, [2, 0]), (9, 0, [0]), (25, 0, []), (26, 0, []), (8, 1, [2])],
  [nO, nO, (19, 0, [42]), nO, nO, (0, 0, [1, 0, 0, 0]), (5, 0, [2, 0]), (2, 0, [2, 0]), (0, 8, [2, 1, 0, 0]), nO, (21, 0, [3, 134]), nO, nO, (4, 0, [0, 0]), (23, 0, [17, 6, 3, 710]), nO],
  [nO, (2, 0, [2, 0]), (4, 0, [0, 0]), (23, 0, [29, 6, 7, 714]), nO, nO, (2, 0, [1, 0]), (0, 6, [2, 1, 0, 0]), nO, (9, 0, [0]), (2, 0, [2, 0]), (9, 0, [0]), (25, 0, []), (26, 0, []), (4, 0, [0, 0]), (23, 0, [20, 6, 4, 711])],
  [nO, nO, (2, 0, [2, 0]), (4, 0, [0, 0]), (23, 0, [29, 6, 7, 714]), nO, nO, (2, 0, [1, 0]), (0, 14, [2, 1, 0, 0]), nO, (9, 0, [0]), (2, 0, [2, 0]), (9, 0, [0]), (25, 0, []), (26, 0, []), (4, 0, [0, 0])],
  [(23, 0, [23, 6, 5, 712]), nO, nO, (2, 0, [2, 0]), (4, 0, [0, 0]), (23, 0, [29, 6, 7, 714]), nO, nO, (2, 0, [1, 0]), (0, 22, [2, 1, 0, 0]), nO, (9, 0, [0]), (2, 0, [2, 0]), (9, 0, [0]), (25, 0, []), (26, 0, [])],
  [(8, 1, [2]), nO, nO, (19, 0, [71]), nO, nO, (33, 0, [])]]
abbrev mM_anew : Nat := 107
def tM_anew : List (List INS) := [[(2, 0, [1, 0]), (0, 0, [1, 0, 0, 0]), (0, 90, [2, 1, 0, 0]), nO, (35, 0, [85, 93, 3, 1, 0, 788, 790, 789, 0, 70]), nO, nO, (20, 0, [1, 15]), nO, nO, (4, 0, [0, 0]), (34, 0, [93, 90, 0, 1, 6, 791, 794, 793, 25, 70]), nO, nO, (31, 0, [0]), (4, 0, [0, 0])],
  [(23, 0, [79, 6, 2, 709]), nO, nO, (5, 0, [2, 0]), (4, 0, [0, 0]), (2, 0, [1, 0]), (34, 0, [75, 96, 1, 0, 6, 703, 706, 705, 24, 70]), nO, nO, (2, 0, [2, 0]), (31, 0, [0])]]
abbrev mM_range : Nat := 108
def tM_range : List (List INS) := [[(2, 0, [1, 0]), (35, 0, [97, 98, 1, 1, 0, 799, 801, 800, 0, 70]), nO, nO, (20, 0, [0, 16]), nO, nO, (4, 0, [0, 0]), (2, 0, [2, 0]), (2, 0, [3, 0]), (34, 0, [101, 99, 2, 1, 6, 802, 805, 804, 26, 70]), nO, nO, (20, 0, [1, 21]), nO, nO],
  [(4, 0, [0, 0]), (34, 0, [93, 90, 0, 1, 6, 791, 794, 793, 25, 70]), nO, nO, (31, 0, [0]), (4, 0, [0, 0]), (23, 0, [79, 6, 2, 709]), nO, nO, (0, 8, [2, 1, 0, 0]), nO, (21, 0, [1, 35]), nO, nO, (4, 0, [0, 0]), (34, 0, [105, 92, 0, 1, 6, 806, 809, 808, 27, 70])],
  [nO, nO, (31, 0, [0]), (4, 0, [0, 0]), (2, 0, [1, 0]), (2, 0, [2, 0]), (2, 0, [3, 0]), (34, 0, [108, 103, 3, 0, 6, 810, 813, 812, 28, 70]), nO, nO, (4, 0, [0, 0]), (34, 0, [112, 102, 0, 1, 6, 814, 817, 816, 29, 70]), nO, nO, (5, 0, [4, 1]), nO],
  [(4, 0, [0, 0]), (16, 0, []), (23, 0, [79, 6, 2, 709]), nO, nO, (0, 1, [1, 0, 0, 0]), (9, 0, [1]), (24, 0, [79, 6, 2, 709]), nO, nO, (2, 0, [4, 1]), nO, (20, 0, [0, 68]), nO, nO, (4, 0, [0, 0])],
  [(34, 0, [105, 92, 0, 1, 6, 806, 809, 808, 27, 70]), nO, nO, (31, 0, [0]), (4, 0, [0, 0]), (34, 0, [116, 105, 0, 0, 6, 822, 825, 824, 31, 70]), nO, nO, (4, 0, [0, 0]), (2, 0, [1, 0]), (2, 0, [2, 0]), (2, 0, [3, 0]), (34, 0, [108, 103, 3, 0, 6, 810, 813, 812, 28, 70]), nO, nO, (4, 0, [0, 0])],
  [(23, 0, [79, 6, 2, 709]), nO, nO, (0, 1, [1, 0, 0, 0]), (9, 0, [1]), (31, 0, [0])]]
abbrev mM_drop : Nat := 109
def tM_drop : List (List INS) := [[(4, 0, [0, 0]), (2, 0, [1, 0]), (34, 0, [119, 97, 1, 1, 6, 830, 833, 832, 32, 70]), nO, nO, (20, 0, [1, 13]), nO, nO, (4, 0, [0, 0]), (34, 0, [93, 90, 0, 1, 6, 791, 794, 793, 25, 70]), nO, nO, (31, 0, [0]), (4, 0, [0, 0]), (34, 0, [116, 105, 0, 0, 6, 822, 825, 824, 31, 70]), nO],
  [nO, (4, 0, [0, 0]), (2, 0, [1, 0]), (34, 0, [122, 104, 1, 0, 6, 834, 837, 836, 33, 70]), nO, nO, (4, 0, [0, 0]), (23, 0, [79, 6, 2, 709]), nO, nO, (31, 0, [0])]]
abbrev mM_moves : Nat := 110
def tM_moves : List (List INS) := [[(4, 0, [0, 0]), (2, 0, [1, 0]), (34, 0, [119, 97, 1, 1, 6, 830, 833, 832, 32, 70]), nO, nO, (20, 0, [0, 17]), nO, nO, (4, 0, [0, 0]), (2, 0, [2, 0]), (2, 0, [3, 0]), (34, 0, [101, 99, 2, 1, 6, 802, 805, 804, 26, 70]), nO, nO, (20, 0, [1, 22]), nO],
  [nO, (4, 0, [0, 0]), (34, 0, [93, 90, 0, 1, 6, 791, 794, 793, 25, 70]), nO, nO, (31, 0, [0]), (4, 0, [0, 0]), (23, 0, [20, 6, 4, 711]), nO, nO, (2, 0, [1, 0]), (25, 0, []), (5, 0, [4, 1]), nO, (4, 0, [0, 0]), (23, 0, [23, 6, 5, 712])],
  [nO, nO, (2, 0, [1, 0]), (25, 0, []), (5, 0, [5, 1]), nO, (4, 0, [0, 0]), (23, 0, [20, 6, 4, 711]), nO, nO, (2, 0, [1, 0]), (2, 0, [2, 0]), (26, 0, []), (4, 0, [0, 0]), (23, 0, [23, 6, 5, 712]), nO],
  [nO, (2, 0, [1, 0]), (2, 0, [3, 0]), (26, 0, []), (4, 0, [0, 0]), (34, 0, [112, 102, 0, 1, 6, 814, 817, 816, 29, 70]), nO, nO, (5, 0, [6, 1]), nO, (4, 0, [0, 0]), (23, 0, [20, 6, 4, 711]), nO, nO, (2, 0, [1, 0]), (2, 0, [4, 1])],
  [nO, (26, 0, []), (4, 0, [0, 0]), (23, 0, [23, 6, 5, 712]), nO, nO, (2, 0, [1, 0]), (2, 0, [5, 1]), nO, (26, 0, []), (2, 0, [6, 1]), nO, (20, 0, [0, 84]), nO, nO, (4, 0, [0, 0])],
  [(34, 0, [105, 92, 0, 1, 6, 806, 809, 808, 27, 70]), nO, nO, (31, 0, [0]), (4, 0, [0, 0]), (34, 0, [116, 105, 0, 0, 6, 822, 825, 824, 31, 70]), nO, nO, (4, 0, [0, 0]), (23, 0, [20, 6, 4, 711]), nO, nO, (2, 0, [1, 0]), (2, 0, [2, 0]), (26, 0, []), (4, 0, [0, 0])],
  [(23, 0, [23, 6, 5, 712]), nO, nO, (2, 0, [1, 0]), (2, 0, [3, 0]), (26, 0, []), (2, 0, [3, 0]), (2, 0, [2, 0]), (9, 0, [1]), (2, 0, [5, 1]), nO, (9, 0, [1]), (2, 0, [4, 1]), nO, (9, 0, [0]), (31, 0, [0])]]
abbrev mM_kind : Nat := 111
def tM_kind : List (List INS) := [[(4, 0, [0, 0]), (2, 0, [1, 0]), (34, 0, [119, 97, 1, 1, 6, 830, 833, 832, 32, 70]), nO, nO, (20, 0, [0, 15]), nO, nO, (2, 0, [2, 0]), (35, 0, [97, 98, 1, 1, 0, 799, 801, 800, 0, 70]), nO, nO, (20, 0, [1, 20]), nO, nO, (4, 0, [0, 0])],
  [(34, 0, [93, 90, 0, 1, 6, 791, 794, 793, 25, 70]), nO, nO, (31, 0, [0]), (4, 0, [0, 0]), (34, 0, [116, 105, 0, 0, 6, 822, 825, 824, 31, 70]), nO, nO, (4, 0, [0, 0]), (23, 0, [17, 6, 3, 710]), nO, nO, (2, 0, [1, 0]), (25, 0, []), (5, 0, [3, 0]), (4, 0, [0, 0])],
  [(23, 0, [17, 6, 3, 710]), nO, nO, (2, 0, [1, 0]), (2, 0, [2, 0]), (26, 0, []), (2, 0, [3, 0]), (31, 0, [0])]]
abbrev mM_rank : Nat := 112
def tM_rank : List (List INS) := [[(2, 0, [1, 0]), (35, 0, [97, 98, 1, 1, 0, 799, 801, 800, 0, 70]), nO, nO, (20, 0, [0, 16]), nO, nO, (2, 0, [2, 0]), (0, 0, [1, 0, 0, 0]), (0, 3, [1, 0, 0, 0]), (35, 0, [85, 93, 3, 1, 0, 788, 790, 789, 0, 70]), nO, nO, (20, 0, [1, 21]), nO, nO],
  [(4, 0, [0, 0]), (34, 0, [93, 90, 0, 1, 6, 791, 794, 793, 25, 70]), nO, nO, (31, 0, [0]), (4, 0, [0, 0]), (34, 0, [116, 105, 0, 0, 6, 822, 825, 824, 31, 70]), nO, nO, (4, 0, [0, 0]), (23, 0, [26, 6, 6, 713]), nO, nO, (2, 0, [1, 0]), (25, 0, []), (5, 0, [3, 0])],
  [(4, 0, [0, 0]), (23, 0, [26, 6, 6, 713]), nO, nO, (2, 0, [1, 0]), (2, 0, [2, 0]), (26, 0, []), (2, 0, [3, 0]), (31, 0, [0])]]
abbrev mM_puts : Nat := 113
def tM_puts : List (List INS) := [[(2, 0, [1, 0]), (0, 0, [1, 0, 0, 0]), (4, 0, [0, 0]), (23, 0, [13, 6, 1, 708]), nO, nO, (35, 0, [85, 93, 3, 1, 0, 788, 790, 789, 0, 70]), nO, nO, (20, 0, [0, 22]), nO, nO, (2, 0, [2, 0]), (0, 1, [1, 0, 0, 0]), (0, 90, [2, 1, 0, 0]), nO],
  [(35, 0, [85, 93, 3, 1, 0, 788, 790, 789, 0, 70]), nO, nO, (20, 0, [1, 27]), nO, nO, (4, 0, [0, 0]), (34, 0, [93, 90, 0, 1, 6, 791, 794, 793, 25, 70]), nO, nO, (31, 0, [0]), (4, 0, [0, 0]), (23, 0, [13, 6, 1, 708]), nO, nO, (2, 0, [2, 0])],
  [(9, 0, [0]), (0, 90, [2, 1, 0, 0]), nO, (21, 0, [5, 43]), nO, nO, (4, 0, [0, 0]), (34, 0, [105, 92, 0, 1, 6, 806, 809, 808, 27, 70]), nO, nO, (31, 0, [0]), (4, 0, [0, 0]), (34, 0, [116, 105, 0, 0, 6, 822, 825, 824, 31, 70]), nO, nO, (4, 0, [0, 0])],
  [(16, 0, []), (23, 0, [13, 6, 1, 708]), nO, nO, (2, 0, [2, 0]), (9, 0, [0]), (24, 0, [13, 6, 1, 708]), nO, nO, (0, 0, [1, 0, 0, 0]), (5, 0, [3, 0]), (2, 0, [3, 0]), (4, 0, [0, 0]), (23, 0, [79, 6, 2, 709]), nO, nO],
  [(21, 0, [3, 155]), nO, nO, (4, 0, [0, 0]), (2, 0, [3, 0]), (34, 0, [125, 100, 1, 1, 6, 854, 857, 856, 34, 70]), nO, nO, (5, 0, [4, 1]), nO, (4, 0, [0, 0]), (23, 0, [20, 6, 4, 711]), nO, nO, (2, 0, [3, 0]), (25, 0, [])],
  [(2, 0, [1, 0]), (21, 0, [4, 99]), nO, nO, (4, 0, [0, 0]), (23, 0, [20, 6, 4, 711]), nO, nO, (2, 0, [3, 0]), (25, 0, []), (2, 0, [1, 0]), (21, 0, [1, 103]), nO, nO, (2, 0, [4, 1]), nO],
  [(20, 0, [1, 103]), nO, nO, (0, 1, [1, 0, 0, 0]), (19, 0, [104]), nO, nO, (0, 0, [1, 0, 0, 0]), (5, 0, [5, 1]), nO, (4, 0, [0, 0]), (23, 0, [20, 6, 4, 711]), nO, nO, (2, 0, [3, 0]), (17, 0, [])],
  [(25, 0, []), (2, 0, [5, 1]), nO, (20, 0, [0, 122]), nO, nO, (2, 0, [2, 0]), (19, 0, [123]), nO, nO, (0, 0, [1, 0, 0, 0]), (9, 0, [0]), (26, 0, []), (4, 0, [0, 0]), (23, 0, [23, 6, 5, 712]), nO],
  [nO, (2, 0, [3, 0]), (17, 0, []), (25, 0, []), (4, 0, [0, 0]), (23, 0, [23, 6, 5, 712]), nO, nO, (2, 0, [3, 0]), (25, 0, []), (2, 0, [1, 0]), (21, 0, [5, 146]), nO, nO, (2, 0, [2, 0]), (19, 0, [147])],
  [nO, nO, (0, 0, [1, 0, 0, 0]), (9, 0, [0]), (26, 0, []), (8, 1, [3]), nO, nO, (19, 0, [59]), nO, nO, (4, 0, [0, 0]), (23, 0, [13, 6, 1, 708]), nO, nO, (31, 0, [0])]]
abbrev mM_behind : Nat := 114
def tM_behind : List (List INS) := [[(2, 0, [0, 0]), (2, 0, [2, 0]), (21, 0, [2, 13]), nO, nO, (2, 0, [0, 0]), (2, 0, [2, 0]), (9, 0, [1]), (2, 0, [1, 0]), (9, 0, [0]), (19, 0, [23]), nO, nO, (2, 0, [0, 0]), (2, 0, [1, 0]), (21, 0, [5, 22])],
  [nO, nO, (2, 0, [1, 0]), (19, 0, [23]), nO, nO, (2, 0, [0, 0]), (31, 0, [0])]]
abbrev mM_takes : Nat := 115
def tM_takes : List (List INS) := [[(2, 0, [1, 0]), (20, 0, [2, 17]), nO, nO, (2, 0, [2, 0]), (2, 0, [1, 0]), (21, 0, [5, 17]), nO, nO, (2, 0, [2, 0]), (4, 0, [0, 0]), (23, 0, [13, 6, 1, 708]), nO, nO, (21, 0, [5, 22]), nO],
  [nO, (4, 0, [0, 0]), (34, 0, [93, 90, 0, 1, 6, 791, 794, 793, 25, 70]), nO, nO, (31, 0, [0]), (4, 0, [0, 0]), (34, 0, [116, 105, 0, 0, 6, 822, 825, 824, 31, 70]), nO, nO, (4, 0, [0, 0]), (16, 0, []), (23, 0, [13, 6, 1, 708]), nO, nO, (2, 0, [2, 0])],
  [(2, 0, [1, 0]), (9, 0, [1]), (9, 0, [1]), (24, 0, [13, 6, 1, 708]), nO, nO, (0, 0, [1, 0, 0, 0]), (5, 0, [3, 0]), (2, 0, [3, 0]), (4, 0, [0, 0]), (23, 0, [79, 6, 2, 709]), nO, nO, (21, 0, [3, 88]), nO, nO],
  [(4, 0, [0, 0]), (23, 0, [20, 6, 4, 711]), nO, nO, (2, 0, [3, 0]), (4, 0, [0, 0]), (23, 0, [20, 6, 4, 711]), nO, nO, (2, 0, [3, 0]), (25, 0, []), (2, 0, [1, 0]), (2, 0, [2, 0]), (35, 0, [128, 114, 3, 1, 0, 862, 864, 863, 0, 70]), nO, nO],
  [(26, 0, []), (4, 0, [0, 0]), (23, 0, [23, 6, 5, 712]), nO, nO, (2, 0, [3, 0]), (4, 0, [0, 0]), (23, 0, [23, 6, 5, 712]), nO, nO, (2, 0, [3, 0]), (25, 0, []), (2, 0, [1, 0]), (2, 0, [2, 0]), (35, 0, [128, 114, 3, 1, 0, 862, 864, 863, 0, 70]), nO],
  [nO, (26, 0, []), (8, 1, [3]), nO, nO, (19, 0, [40]), nO, nO, (4, 0, [0, 0]), (23, 0, [13, 6, 1, 708]), nO, nO, (31, 0, [0])]]
abbrev mM_hangsOn : Nat := 116
def tM_hangsOn : List (List INS) := [[(0, (-1), [1, 0, 0, 0]), (5, 0, [2, 0]), (4, 0, [0, 0]), (23, 0, [79, 6, 2, 709]), nO, nO, (0, 1, [1, 0, 0, 0]), (9, 0, [1]), (5, 0, [3, 0]), (2, 0, [3, 0]), (20, 0, [2, 52]), nO, nO, (4, 0, [0, 0]), (23, 0, [17, 6, 3, 710]), nO],
  [nO, (2, 0, [3, 0]), (25, 0, []), (2, 0, [1, 0]), (21, 0, [1, 44]), nO, nO, (4, 0, [0, 0]), (2, 0, [3, 0]), (34, 0, [125, 100, 1, 1, 6, 854, 857, 856, 34, 70]), nO, nO, (20, 0, [1, 44]), nO, nO, (4, 0, [0, 0])],
  [(2, 0, [3, 0]), (34, 0, [132, 117, 1, 1, 6, 873, 876, 875, 36, 70]), nO, nO, (0, (-1), [1, 0, 0, 0]), (21, 0, [0, 44]), nO, nO, (2, 0, [3, 0]), (19, 0, [45]), nO, nO, (2, 0, [2, 0]), (5, 0, [2, 0]), (8, (-1), [3]), nO],
  [nO, (19, 0, [9]), nO, nO, (2, 0, [2, 0]), (31, 0, [0])]]
abbrev mM_hangsBy : Nat := 117
def tM_hangsBy : List (List INS) := [[(0, (-1), [1, 0, 0, 0]), (5, 0, [2, 0]), (2, 0, [1, 0]), (0, 1, [1, 0, 0, 0]), (9, 0, [1]), (5, 0, [3, 0]), (2, 0, [3, 0]), (20, 0, [2, 87]), nO, nO, (4, 0, [0, 0]), (23, 0, [17, 6, 3, 710]), nO, nO, (2, 0, [3, 0]), (25, 0, [])],
  [(4, 0, [0, 0]), (23, 0, [17, 6, 3, 710]), nO, nO, (2, 0, [1, 0]), (25, 0, []), (21, 0, [1, 67]), nO, nO, (4, 0, [0, 0]), (2, 0, [3, 0]), (34, 0, [125, 100, 1, 1, 6, 854, 857, 856, 34, 70]), nO, nO, (20, 0, [1, 67]), nO],
  [nO, (4, 0, [0, 0]), (23, 0, [20, 6, 4, 711]), nO, nO, (2, 0, [3, 0]), (25, 0, []), (4, 0, [0, 0]), (23, 0, [23, 6, 5, 712]), nO, nO, (2, 0, [1, 0]), (25, 0, []), (21, 0, [4, 67]), nO, nO],
  [(4, 0, [0, 0]), (23, 0, [20, 6, 4, 711]), nO, nO, (2, 0, [1, 0]), (25, 0, []), (4, 0, [0, 0]), (23, 0, [23, 6, 5, 712]), nO, nO, (2, 0, [3, 0]), (25, 0, []), (21, 0, [4, 67]), nO, nO, (0, 1, [1, 0, 0, 0])],
  [(19, 0, [68]), nO, nO, (0, 0, [1, 0, 0, 0]), (5, 0, [4, 1]), nO, (2, 0, [4, 1]), nO, (20, 0, [0, 79]), nO, nO, (2, 0, [3, 0]), (19, 0, [80]), nO, nO, (2, 0, [2, 0])],
  [(5, 0, [2, 0]), (8, (-1), [3]), nO, nO, (19, 0, [6]), nO, nO, (2, 0, [2, 0]), (31, 0, [0])]]
abbrev mM_joins : Nat := 118
def tM_joins : List (List INS) := [[(2, 0, [1, 0]), (35, 0, [97, 98, 1, 1, 0, 799, 801, 800, 0, 70]), nO, nO, (20, 0, [1, 12]), nO, nO, (4, 0, [0, 0]), (34, 0, [93, 90, 0, 1, 6, 791, 794, 793, 25, 70]), nO, nO, (31, 0, [0]), (4, 0, [0, 0]), (34, 0, [116, 105, 0, 0, 6, 822, 825, 824, 31, 70]), nO, nO],
  [(0, 0, [1, 0, 0, 0]), (5, 0, [2, 0]), (4, 0, [0, 0]), (2, 0, [1, 0]), (34, 0, [135, 116, 1, 1, 6, 869, 872, 871, 35, 70]), nO, nO, (5, 0, [3, 0]), (2, 0, [3, 0]), (0, (-1), [1, 0, 0, 0]), (21, 0, [0, 131]), nO, nO, (4, 0, [0, 0]), (2, 0, [3, 0]), (34, 0, [132, 117, 1, 1, 6, 873, 876, 875, 36, 70])],
  [nO, nO, (5, 0, [4, 1]), nO, (4, 0, [0, 0]), (23, 0, [20, 6, 4, 711]), nO, nO, (2, 0, [4, 1]), nO, (4, 0, [0, 0]), (23, 0, [20, 6, 4, 711]), nO, nO, (2, 0, [3, 0]), (25, 0, [])],
  [(4, 0, [0, 0]), (23, 0, [20, 6, 4, 711]), nO, nO, (2, 0, [4, 1]), nO, (25, 0, []), (21, 0, [3, 67]), nO, nO, (4, 0, [0, 0]), (23, 0, [20, 6, 4, 711]), nO, nO, (2, 0, [3, 0]), (25, 0, [])],
  [(19, 0, [74]), nO, nO, (4, 0, [0, 0]), (23, 0, [20, 6, 4, 711]), nO, nO, (2, 0, [4, 1]), nO, (25, 0, []), (26, 0, []), (4, 0, [0, 0]), (23, 0, [23, 6, 5, 712]), nO, nO, (2, 0, [4, 1])],
  [nO, (4, 0, [0, 0]), (23, 0, [23, 6, 5, 712]), nO, nO, (2, 0, [3, 0]), (25, 0, []), (4, 0, [0, 0]), (23, 0, [23, 6, 5, 712]), nO, nO, (2, 0, [4, 1]), nO, (25, 0, []), (21, 0, [5, 106]), nO],
  [nO, (4, 0, [0, 0]), (23, 0, [23, 6, 5, 712]), nO, nO, (2, 0, [3, 0]), (25, 0, []), (19, 0, [113]), nO, nO, (4, 0, [0, 0]), (23, 0, [23, 6, 5, 712]), nO, nO, (2, 0, [4, 1]), nO],
  [(25, 0, []), (26, 0, []), (4, 0, [0, 0]), (2, 0, [3, 0]), (34, 0, [122, 104, 1, 0, 6, 834, 837, 836, 33, 70]), nO, nO, (8, 1, [2]), nO, nO, (4, 0, [0, 0]), (2, 0, [1, 0]), (34, 0, [135, 116, 1, 1, 6, 869, 872, 871, 35, 70]), nO, nO, (5, 0, [3, 0])],
  [(19, 0, [24]), nO, nO, (2, 0, [2, 0]), (31, 0, [0])]]
abbrev mM_undo : Nat := 119
def tM_undo : List (List INS) := [[(4, 0, [0, 0]), (23, 0, [82, 6, 8, 715]), nO, nO, (20, 0, [1, 12]), nO, nO, (4, 0, [0, 0]), (34, 0, [138, 91, 0, 1, 6, 881, 884, 883, 37, 70]), nO, nO, (31, 0, [0]), (4, 0, [0, 0]), (34, 0, [141, 106, 0, 0, 6, 885, 888, 887, 38, 70]), nO, nO],
  [(4, 0, [0, 0]), (23, 0, [82, 6, 8, 715]), nO, nO, (31, 0, [0])]]
abbrev mM_sections : Nat := 120
def tM_sections : List (List INS) := [[(4, 0, [0, 0]), (23, 0, [144, 6, 9, 716]), nO, nO, (20, 0, [5, 16]), nO, nO, (4, 0, [0, 0]), (23, 0, [144, 6, 9, 716]), nO, nO, (0, 1, [1, 0, 0, 0]), (9, 0, [1]), (19, 0, [17]), nO, nO],
  [(0, 0, [1, 0, 0, 0]), (31, 0, [0])]]
abbrev mM_comesCut : Nat := 121
def tM_comesCut : List (List INS) := [[(0, 0, [1, 0, 0, 0]), (5, 0, [2, 0]), (2, 0, [2, 0]), (4, 0, [0, 0]), (23, 0, [144, 6, 9, 716]), nO, nO, (21, 0, [3, 26]), nO, nO, (4, 0, [0, 0]), (23, 0, [32, 6, 10, 717]), nO, nO, (2, 0, [2, 0]), (25, 0, [])],
  [(2, 0, [1, 0]), (21, 0, [3, 26]), nO, nO, (8, 1, [2]), nO, nO, (19, 0, [2]), nO, nO, (2, 0, [2, 0]), (4, 0, [0, 0]), (23, 0, [144, 6, 9, 716]), nO, nO, (21, 0, [3, 45])],
  [nO, nO, (4, 0, [0, 0]), (23, 0, [32, 6, 10, 717]), nO, nO, (2, 0, [2, 0]), (25, 0, []), (2, 0, [1, 0]), (21, 0, [1, 45]), nO, nO, (33, 0, []), (4, 0, [0, 0]), (23, 0, [144, 6, 9, 716]), nO],
  [nO, (5, 0, [3, 0]), (2, 0, [3, 0]), (2, 0, [2, 0]), (21, 0, [5, 75]), nO, nO, (4, 0, [0, 0]), (23, 0, [32, 6, 10, 717]), nO, nO, (2, 0, [3, 0]), (4, 0, [0, 0]), (23, 0, [32, 6, 10, 717]), nO, nO],
  [(2, 0, [3, 0]), (0, 1, [1, 0, 0, 0]), (9, 0, [1]), (25, 0, []), (26, 0, []), (8, (-1), [3]), nO, nO, (19, 0, [50]), nO, nO, (4, 0, [0, 0]), (23, 0, [32, 6, 10, 717]), nO, nO, (2, 0, [2, 0])],
  [(2, 0, [1, 0]), (26, 0, []), (4, 0, [0, 0]), (16, 0, []), (23, 0, [144, 6, 9, 716]), nO, nO, (0, 1, [1, 0, 0, 0]), (9, 0, [0]), (24, 0, [144, 6, 9, 716]), nO, nO, (33, 0, [])]]
abbrev mM_setCuts : Nat := 122
def tM_setCuts : List (List INS) := [[(4, 0, [0, 0]), (0, 0, [1, 0, 0, 0]), (24, 0, [144, 6, 9, 716]), nO, nO, (0, 0, [1, 0, 0, 0]), (5, 0, [2, 0]), (2, 0, [2, 0]), (4, 0, [0, 0]), (23, 0, [79, 6, 2, 709]), nO, nO, (21, 0, [3, 54]), nO, nO, (2, 0, [2, 0])],
  [(2, 0, [1, 0]), (21, 0, [0, 48]), nO, nO, (4, 0, [0, 0]), (2, 0, [2, 0]), (34, 0, [125, 100, 1, 1, 6, 854, 857, 856, 34, 70]), nO, nO, (20, 0, [1, 48]), nO, nO, (4, 0, [0, 0]), (4, 0, [0, 0]), (23, 0, [20, 6, 4, 711]), nO],
  [nO, (2, 0, [2, 0]), (25, 0, []), (34, 0, [147, 121, 1, 0, 6, 905, 908, 907, 42, 70]), nO, nO, (4, 0, [0, 0]), (4, 0, [0, 0]), (23, 0, [23, 6, 5, 712]), nO, nO, (2, 0, [2, 0]), (25, 0, []), (34, 0, [147, 121, 1, 0, 6, 905, 908, 907, 42, 70]), nO, nO],
  [(8, 1, [2]), nO, nO, (19, 0, [7]), nO, nO, (0, 0, [1, 0, 0, 0]), (5, 0, [2, 0]), (2, 0, [2, 0]), (4, 0, [0, 0]), (34, 0, [150, 120, 0, 1, 6, 909, 912, 911, 43, 70]), nO, nO, (21, 0, [3, 158]), nO, nO],
  [(4, 0, [0, 0]), (23, 0, [35, 6, 11, 718]), nO, nO, (2, 0, [2, 0]), (0, 0, [1, 0, 0, 0]), (26, 0, []), (0, 0, [1, 0, 0, 0]), (5, 0, [3, 0]), (2, 0, [3, 0]), (4, 0, [0, 0]), (23, 0, [79, 6, 2, 709]), nO, nO, (21, 0, [3, 152]), nO],
  [nO, (2, 0, [3, 0]), (2, 0, [1, 0]), (21, 0, [0, 122]), nO, nO, (4, 0, [0, 0]), (23, 0, [20, 6, 4, 711]), nO, nO, (2, 0, [3, 0]), (25, 0, []), (4, 0, [0, 0]), (23, 0, [32, 6, 10, 717]), nO, nO],
  [(2, 0, [2, 0]), (25, 0, []), (21, 0, [4, 122]), nO, nO, (4, 0, [0, 0]), (23, 0, [23, 6, 5, 712]), nO, nO, (2, 0, [3, 0]), (25, 0, []), (4, 0, [0, 0]), (23, 0, [32, 6, 10, 717]), nO, nO, (2, 0, [2, 0])],
  [(0, 1, [1, 0, 0, 0]), (9, 0, [0]), (25, 0, []), (21, 0, [2, 122]), nO, nO, (0, 1, [1, 0, 0, 0]), (19, 0, [123]), nO, nO, (0, 0, [1, 0, 0, 0]), (5, 0, [4, 1]), nO, (4, 0, [0, 0]), (23, 0, [35, 6, 11, 718]), nO],
  [nO, (2, 0, [2, 0]), (17, 0, []), (25, 0, []), (2, 0, [4, 1]), nO, (20, 0, [0, 143]), nO, nO, (0, 1, [1, 0, 0, 0]), (2, 0, [3, 0]), (9, 0, [6]), (19, 0, [144]), nO, nO, (0, 0, [1, 0, 0, 0])],
  [(9, 0, [4]), (26, 0, []), (8, 1, [3]), nO, nO, (19, 0, [73]), nO, nO, (8, 1, [2]), nO, nO, (19, 0, [56]), nO, nO, (33, 0, [])]]
abbrev mM_nextRow : Nat := 123
def tM_nextRow : List (List INS) := [[(2, 0, [1, 0]), (0, 2, [1, 0, 0, 0]), (9, 0, [1]), (5, 0, [2, 0]), (2, 0, [2, 0]), (20, 0, [2, 31]), nO, nO, (4, 0, [0, 0]), (23, 0, [54, 6, 17, 724]), nO, nO, (2, 0, [2, 0]), (25, 0, []), (4, 0, [0, 0]), (23, 0, [54, 6, 17, 724])],
  [nO, nO, (2, 0, [2, 0]), (0, 1, [1, 0, 0, 0]), (9, 0, [0]), (25, 0, []), (21, 0, [5, 31]), nO, nO, (8, (-1), [2]), nO, nO, (19, 0, [4]), nO, nO, (2, 0, [2, 0])],
  [(20, 0, [3, 37]), nO, nO, (0, 0, [1, 0, 0, 0]), (31, 0, [1]), (2, 0, [1, 0]), (0, 1, [1, 0, 0, 0]), (9, 0, [1]), (5, 0, [3, 0]), (4, 0, [0, 0]), (23, 0, [54, 6, 17, 724]), nO, nO, (2, 0, [3, 0]), (25, 0, []), (4, 0, [0, 0])],
  [(23, 0, [54, 6, 17, 724]), nO, nO, (2, 0, [2, 0]), (25, 0, []), (21, 0, [3, 62]), nO, nO, (8, (-1), [3]), nO, nO, (19, 0, [41]), nO, nO, (4, 0, [0, 0]), (23, 0, [54, 6, 17, 724])],
  [nO, nO, (2, 0, [2, 0]), (25, 0, []), (5, 0, [4, 1]), nO, (4, 0, [0, 0]), (23, 0, [54, 6, 17, 724]), nO, nO, (2, 0, [2, 0]), (4, 0, [0, 0]), (23, 0, [54, 6, 17, 724]), nO, nO, (2, 0, [3, 0])],
  [(25, 0, []), (26, 0, []), (4, 0, [0, 0]), (23, 0, [54, 6, 17, 724]), nO, nO, (2, 0, [3, 0]), (2, 0, [4, 1]), nO, (26, 0, []), (2, 0, [1, 0]), (0, 1, [1, 0, 0, 0]), (9, 0, [1]), (5, 0, [5, 1]), nO, (2, 0, [2, 0])],
  [(0, 1, [1, 0, 0, 0]), (9, 0, [0]), (5, 0, [6, 1]), nO, (2, 0, [6, 1]), nO, (2, 0, [5, 1]), nO, (21, 0, [3, 148]), nO, nO, (4, 0, [0, 0]), (23, 0, [54, 6, 17, 724]), nO, nO, (2, 0, [6, 1])],
  [nO, (25, 0, []), (5, 0, [7, 1]), nO, (4, 0, [0, 0]), (23, 0, [54, 6, 17, 724]), nO, nO, (2, 0, [6, 1]), nO, (4, 0, [0, 0]), (23, 0, [54, 6, 17, 724]), nO, nO, (2, 0, [5, 1]), nO],
  [(25, 0, []), (26, 0, []), (4, 0, [0, 0]), (23, 0, [54, 6, 17, 724]), nO, nO, (2, 0, [5, 1]), nO, (2, 0, [7, 1]), nO, (26, 0, []), (8, (-1), [5]), nO, nO, (8, 1, [6]), nO],
  [nO, (19, 0, [100]), nO, nO, (0, 1, [1, 0, 0, 0]), (31, 0, [1])]]
abbrev mM_mayStack : Nat := 124
def tM_mayStack : List (List INS) := [[(0, 1, [1, 0, 0, 0]), (5, 0, [3, 0]), (0, 1, [1, 0, 0, 0]), (5, 0, [4, 1]), nO, (2, 0, [4, 1]), nO, (2, 0, [1, 0]), (21, 0, [3, 70]), nO, nO, (2, 0, [3, 0]), (20, 0, [0, 62]), nO, nO, (2, 0, [2, 0])],
  [(20, 0, [1, 58]), nO, nO, (4, 0, [0, 0]), (23, 0, [26, 6, 6, 713]), nO, nO, (4, 0, [0, 0]), (23, 0, [17, 6, 3, 710]), nO, nO, (4, 0, [0, 0]), (23, 0, [54, 6, 17, 724]), nO, nO, (2, 0, [4, 1])],
  [nO, (0, 1, [1, 0, 0, 0]), (9, 0, [1]), (25, 0, []), (25, 0, []), (25, 0, []), (4, 0, [0, 0]), (23, 0, [26, 6, 6, 713]), nO, nO, (4, 0, [0, 0]), (23, 0, [17, 6, 3, 710]), nO, nO, (4, 0, [0, 0]), (23, 0, [54, 6, 17, 724])],
  [nO, nO, (2, 0, [4, 1]), nO, (25, 0, []), (25, 0, []), (25, 0, []), (21, 0, [4, 62]), nO, nO, (0, 1, [1, 0, 0, 0]), (19, 0, [63]), nO, nO, (0, 0, [1, 0, 0, 0]), (5, 0, [3, 0])],
  [(8, 1, [4]), nO, nO, (19, 0, [5]), nO, nO, (2, 0, [3, 0]), (31, 0, [1])]]
abbrev mM_setStacks : Nat := 125
def tM_setStacks : List (List INS) := [[(0, 0, [1, 0, 0, 0]), (5, 0, [2, 0]), (2, 0, [2, 0]), (4, 0, [0, 0]), (34, 0, [150, 120, 0, 1, 6, 909, 912, 911, 43, 70]), nO, nO, (21, 0, [3, 156]), nO, nO, (0, 0, [1, 0, 0, 0]), (5, 0, [3, 0]), (0, 0, [1, 0, 0, 0]), (5, 0, [4, 1]), nO, (2, 0, [4, 1])],
  [nO, (4, 0, [0, 0]), (23, 0, [79, 6, 2, 709]), nO, nO, (21, 0, [3, 55]), nO, nO, (4, 0, [0, 0]), (23, 0, [35, 6, 11, 718]), nO, nO, (2, 0, [2, 0]), (25, 0, []), (2, 0, [4, 1]), nO],
  [(35, 0, [153, 94, 2, 1, 0, 917, 919, 918, 0, 70]), nO, nO, (20, 0, [0, 49]), nO, nO, (4, 0, [0, 0]), (23, 0, [54, 6, 17, 724]), nO, nO, (2, 0, [3, 0]), (2, 0, [4, 1]), nO, (26, 0, []), (8, 1, [3]), nO],
  [nO, (8, 1, [4]), nO, nO, (19, 0, [15]), nO, nO, (4, 0, [0, 0]), (23, 0, [38, 6, 12, 719]), nO, nO, (2, 0, [2, 0]), (0, 0, [1, 0, 0, 0]), (26, 0, []), (0, 1, [1, 0, 0, 0]), (5, 0, [4, 1])],
  [nO, (2, 0, [4, 1]), nO, (20, 0, [0, 150]), nO, nO, (4, 0, [0, 0]), (2, 0, [3, 0]), (2, 0, [1, 0]), (34, 0, [156, 124, 2, 1, 6, 920, 923, 922, 45, 70]), nO, nO, (20, 0, [0, 140]), nO, nO, (0, 0, [1, 0, 0, 0])],
  [(5, 0, [5, 1]), nO, (0, 0, [1, 0, 0, 0]), (5, 0, [6, 1]), nO, (2, 0, [6, 1]), nO, (2, 0, [3, 0]), (21, 0, [3, 112]), nO, nO, (0, 8, [2, 1, 0, 0]), nO, (2, 0, [5, 1]), nO, (9, 0, [2])],
  [(4, 0, [0, 0]), (23, 0, [54, 6, 17, 724]), nO, nO, (2, 0, [6, 1]), nO, (25, 0, []), (9, 0, [0]), (5, 0, [5, 1]), nO, (8, 1, [6]), nO, nO, (19, 0, [85]), nO, nO],
  [(4, 0, [0, 0]), (23, 0, [41, 6, 13, 720]), nO, nO, (0, 120, [2, 1, 0, 0]), nO, (2, 0, [2, 0]), (9, 0, [2]), (4, 0, [0, 0]), (23, 0, [38, 6, 12, 719]), nO, nO, (2, 0, [2, 0]), (25, 0, []), (9, 0, [0]), (2, 0, [5, 1])],
  [nO, (26, 0, []), (4, 0, [0, 0]), (23, 0, [38, 6, 12, 719]), nO, nO, (2, 0, [2, 0]), (17, 0, []), (25, 0, []), (0, 1, [1, 0, 0, 0]), (9, 0, [0]), (26, 0, []), (4, 0, [0, 0]), (2, 0, [3, 0]), (34, 0, [160, 123, 1, 1, 6, 924, 927, 926, 46, 70]), nO],
  [nO, (5, 0, [4, 1]), nO, (19, 0, [65]), nO, nO, (8, 1, [2]), nO, nO, (19, 0, [2]), nO, nO, (33, 0, [])]]
abbrev mM_rangeAt : Nat := 126
def tM_rangeAt : List (List INS) := [[(4, 0, [0, 0]), (23, 0, [41, 6, 13, 720]), nO, nO, (0, 120, [2, 1, 0, 0]), nO, (2, 0, [1, 0]), (9, 0, [2]), (2, 0, [2, 0]), (9, 0, [0]), (25, 0, []), (5, 0, [4, 1]), nO, (4, 0, [0, 0]), (23, 0, [35, 6, 11, 718]), nO],
  [nO, (2, 0, [1, 0]), (25, 0, []), (35, 0, [163, 95, 1, 1, 0, 937, 939, 938, 0, 70]), nO, nO, (0, 1, [1, 0, 0, 0]), (9, 0, [1]), (5, 0, [5, 1]), nO, (2, 0, [5, 1]), nO, (2, 0, [3, 0]), (21, 0, [5, 45]), nO, nO],
  [(2, 0, [4, 1]), nO, (0, 8, [2, 1, 0, 0]), nO, (10, 0, [0]), (5, 0, [4, 1]), nO, (8, (-1), [5]), nO, nO, (19, 0, [26]), nO, nO, (2, 0, [4, 1]), nO, (0, 8, [2, 1, 0, 0])],
  [nO, (10, 0, [1]), (31, 0, [0])]]
abbrev mM_splitsBy : Nat := 127
def tM_splitsBy : List (List INS) := [[(4, 0, [0, 0]), (23, 0, [35, 6, 11, 718]), nO, nO, (2, 0, [1, 0]), (25, 0, []), (35, 0, [163, 95, 1, 1, 0, 937, 939, 938, 0, 70]), nO, nO, (5, 0, [4, 1]), nO, (4, 0, [0, 0]), (23, 0, [35, 6, 11, 718]), nO, nO, (2, 0, [1, 0])],
  [(0, 1, [1, 0, 0, 0]), (9, 0, [0]), (25, 0, []), (35, 0, [163, 95, 1, 1, 0, 937, 939, 938, 0, 70]), nO, nO, (5, 0, [5, 1]), nO, (0, 0, [1, 0, 0, 0]), (5, 0, [6, 1]), nO, (2, 0, [6, 1]), nO, (2, 0, [4, 1]), nO, (21, 0, [3, 68])],
  [nO, nO, (2, 0, [6, 1]), nO, (2, 0, [5, 1]), nO, (21, 0, [3, 68]), nO, nO, (4, 0, [0, 0]), (2, 0, [1, 0]), (2, 0, [2, 0]), (2, 0, [6, 1]), nO, (34, 0, [166, 126, 3, 1, 6, 940, 943, 942, 49, 70]), nO],
  [nO, (4, 0, [0, 0]), (2, 0, [1, 0]), (0, 1, [1, 0, 0, 0]), (9, 0, [0]), (2, 0, [3, 0]), (2, 0, [6, 1]), nO, (34, 0, [166, 126, 3, 1, 6, 940, 943, 942, 49, 70]), nO, nO, (21, 0, [1, 68]), nO, nO, (8, 1, [6]), nO],
  [nO, (19, 0, [27]), nO, nO, (4, 0, [0, 0]), (23, 0, [35, 6, 11, 718]), nO, nO, (2, 0, [1, 0]), (25, 0, []), (4, 0, [0, 0]), (23, 0, [35, 6, 11, 718]), nO, nO, (2, 0, [1, 0]), (0, 1, [1, 0, 0, 0])],
  [(9, 0, [0]), (25, 0, []), (9, 0, [3]), (35, 0, [163, 95, 1, 1, 0, 937, 939, 938, 0, 70]), nO, nO, (2, 0, [6, 1]), nO, (9, 0, [1]), (31, 0, [0])]]
abbrev mM_setLeast : Nat := 128
def tM_setLeast : List (List INS) := [[(0, 120, [2, 1, 0, 0]), nO, (2, 0, [1, 0]), (9, 0, [2]), (2, 0, [2, 0]), (9, 0, [0]), (5, 0, [3, 0]), (4, 0, [0, 0]), (23, 0, [44, 6, 14, 721]), nO, nO, (2, 0, [3, 0]), (2, 0, [1, 0]), (4, 0, [0, 0]), (34, 0, [150, 120, 0, 1, 6, 909, 912, 911, 43, 70]), nO],
  [nO, (0, 1, [1, 0, 0, 0]), (9, 0, [1]), (21, 0, [1, 26]), nO, nO, (0, 0, [1, 0, 0, 0]), (19, 0, [28]), nO, nO, (0, 1048576, [2, 3, 169, 932]), nO, (26, 0, []), (4, 0, [0, 0]), (23, 0, [47, 6, 15, 722]), nO],
  [nO, (2, 0, [3, 0]), (2, 0, [1, 0]), (4, 0, [0, 0]), (34, 0, [150, 120, 0, 1, 6, 909, 912, 911, 43, 70]), nO, nO, (0, 1, [1, 0, 0, 0]), (9, 0, [1]), (21, 0, [1, 48]), nO, nO, (1, 1, [1, 0, 0, 0]), (19, 0, [49]), nO, nO],
  [(1, 0, [1, 0, 0, 0]), (28, 0, []), (0, 0, [1, 0, 0, 0]), (5, 0, [4, 1]), nO, (2, 0, [1, 0]), (4, 0, [0, 0]), (34, 0, [150, 120, 0, 1, 6, 909, 912, 911, 43, 70]), nO, nO, (0, 1, [1, 0, 0, 0]), (9, 0, [1]), (21, 0, [3, 202]), nO, nO, (2, 0, [4, 1])],
  [nO, (4, 0, [0, 0]), (23, 0, [38, 6, 12, 719]), nO, nO, (2, 0, [1, 0]), (0, 1, [1, 0, 0, 0]), (9, 0, [0]), (25, 0, []), (21, 0, [3, 202]), nO, nO, (4, 0, [0, 0]), (2, 0, [1, 0]), (2, 0, [2, 0]), (2, 0, [4, 1])],
  [nO, (34, 0, [170, 127, 3, 1, 6, 933, 936, 935, 48, 70]), nO, nO, (4, 0, [0, 0]), (23, 0, [44, 6, 14, 721]), nO, nO, (2, 0, [3, 0]), (0, 120, [2, 1, 0, 0]), nO, (9, 0, [0]), (2, 0, [2, 0]), (9, 0, [1]), (2, 0, [4, 1]), nO],
  [(9, 0, [0]), (25, 0, []), (9, 0, [0]), (5, 0, [5, 1]), nO, (2, 0, [5, 1]), nO, (4, 0, [0, 0]), (23, 0, [44, 6, 14, 721]), nO, nO, (2, 0, [3, 0]), (25, 0, []), (21, 0, [3, 127]), nO, nO],
  [(4, 0, [0, 0]), (23, 0, [44, 6, 14, 721]), nO, nO, (2, 0, [3, 0]), (2, 0, [5, 1]), nO, (26, 0, []), (4, 0, [0, 0]), (23, 0, [47, 6, 15, 722]), nO, nO, (2, 0, [3, 0]), (1, 0, [1, 0, 0, 0]), (28, 0, []), (4, 0, [0, 0])],
  [(23, 0, [47, 6, 15, 722]), nO, nO, (2, 0, [3, 0]), (17, 0, []), (27, 0, []), (2, 0, [5, 1]), nO, (4, 0, [0, 0]), (23, 0, [44, 6, 14, 721]), nO, nO, (2, 0, [3, 0]), (25, 0, []), (21, 0, [1, 162]), nO],
  [nO, (4, 0, [0, 0]), (23, 0, [47, 6, 15, 722]), nO, nO, (2, 0, [3, 0]), (0, 120, [2, 1, 0, 0]), nO, (9, 0, [0]), (2, 0, [2, 0]), (9, 0, [1]), (2, 0, [4, 1]), nO, (9, 0, [0]), (27, 0, []), (19, 0, [163])],
  [nO, nO, (1, 0, [1, 0, 0, 0]), (11, 0, [0]), (28, 0, []), (4, 0, [0, 0]), (23, 0, [47, 6, 15, 722]), nO, nO, (2, 0, [3, 0]), (4, 0, [0, 0]), (23, 0, [47, 6, 15, 722]), nO, nO, (2, 0, [3, 0]), (27, 0, [])],
  [(1, 1000000000, [3, 1, 173, 944]), nO, nO, (15, 0, []), (20, 0, [5, 189]), nO, nO, (1, 1000000000, [3, 1, 173, 944]), nO, nO, (19, 0, [195]), nO, nO, (4, 0, [0, 0]), (23, 0, [47, 6, 15, 722]), nO],
  [nO, (2, 0, [3, 0]), (27, 0, []), (28, 0, []), (8, 1, [4]), nO, nO, (19, 0, [53]), nO, nO, (33, 0, [])]]
abbrev mM_setNest : Nat := 129
def tM_setNest : List (List INS) := [[(4, 0, [0, 0]), (2, 0, [1, 0]), (34, 0, [175, 122, 1, 0, 6, 901, 904, 903, 41, 70]), nO, nO, (4, 0, [0, 0]), (2, 0, [2, 0]), (34, 0, [178, 125, 1, 0, 6, 913, 916, 915, 44, 70]), nO, nO, (4, 0, [0, 0]), (34, 0, [150, 120, 0, 1, 6, 909, 912, 911, 43, 70]), nO, nO, (5, 0, [3, 0]), (2, 0, [3, 0])],
  [(0, 1, [1, 0, 0, 0]), (9, 0, [1]), (5, 0, [4, 1]), nO, (2, 0, [4, 1]), nO, (20, 0, [2, 60]), nO, nO, (0, 0, [1, 0, 0, 0]), (5, 0, [5, 1]), nO, (2, 0, [5, 1]), nO, (4, 0, [0, 0]), (23, 0, [38, 6, 12, 719])],
  [nO, nO, (2, 0, [4, 1]), nO, (25, 0, []), (21, 0, [3, 54]), nO, nO, (4, 0, [0, 0]), (2, 0, [4, 1]), nO, (2, 0, [5, 1]), nO, (34, 0, [182, 128, 2, 0, 6, 928, 931, 930, 47, 70]), nO, nO],
  [(8, 1, [5]), nO, nO, (19, 0, [28]), nO, nO, (8, (-1), [4]), nO, nO, (19, 0, [20]), nO, nO, (0, 1048576, [2, 3, 169, 932]), nO, (5, 0, [4, 1]), nO],
  [(0, 0, [1, 0, 0, 0]), (5, 0, [5, 1]), nO, (2, 0, [3, 0]), (20, 0, [5, 148]), nO, nO, (2, 0, [5, 1]), nO, (4, 0, [0, 0]), (23, 0, [38, 6, 12, 719]), nO, nO, (0, 0, [1, 0, 0, 0]), (25, 0, []), (21, 0, [3, 148])],
  [nO, nO, (4, 0, [0, 0]), (23, 0, [44, 6, 14, 721]), nO, nO, (2, 0, [5, 1]), nO, (25, 0, []), (2, 0, [4, 1]), nO, (21, 0, [3, 98]), nO, nO, (0, 1, [1, 0, 0, 0]), (19, 0, [99])],
  [nO, nO, (0, 0, [1, 0, 0, 0]), (5, 0, [6, 1]), nO, (4, 0, [0, 0]), (23, 0, [51, 6, 16, 723]), nO, nO, (0, 0, [1, 0, 0, 0]), (2, 0, [6, 1]), nO, (20, 0, [0, 116]), nO, nO, (2, 0, [5, 1])],
  [nO, (19, 0, [122]), nO, nO, (4, 0, [0, 0]), (23, 0, [51, 6, 16, 723]), nO, nO, (0, 0, [1, 0, 0, 0]), (25, 0, []), (26, 0, []), (2, 0, [6, 1]), nO, (20, 0, [0, 138]), nO, nO],
  [(4, 0, [0, 0]), (23, 0, [44, 6, 14, 721]), nO, nO, (2, 0, [5, 1]), nO, (25, 0, []), (19, 0, [140]), nO, nO, (2, 0, [4, 1]), nO, (5, 0, [4, 1]), nO, (8, 1, [5]), nO],
  [nO, (19, 0, [67]), nO, nO, (0, 1, [1, 0, 0, 0]), (5, 0, [5, 1]), nO, (2, 0, [5, 1]), nO, (2, 0, [3, 0]), (21, 0, [3, 278]), nO, nO, (0, 120, [2, 1, 0, 0]), nO, (2, 0, [5, 1])],
  [nO, (0, 1, [1, 0, 0, 0]), (9, 0, [1]), (9, 0, [2]), (4, 0, [0, 0]), (23, 0, [51, 6, 16, 723]), nO, nO, (2, 0, [5, 1]), nO, (0, 1, [1, 0, 0, 0]), (9, 0, [1]), (25, 0, []), (9, 0, [0]), (5, 0, [6, 1]), nO],
  [(4, 0, [0, 0]), (23, 0, [38, 6, 12, 719]), nO, nO, (2, 0, [5, 1]), nO, (25, 0, []), (0, 1, [1, 0, 0, 0]), (9, 0, [1]), (5, 0, [7, 1]), nO, (2, 0, [7, 1]), nO, (20, 0, [2, 272]), nO, nO],
  [(4, 0, [0, 0]), (2, 0, [5, 1]), nO, (0, 1, [1, 0, 0, 0]), (9, 0, [1]), (4, 0, [0, 0]), (23, 0, [51, 6, 16, 723]), nO, nO, (2, 0, [5, 1]), nO, (0, 1, [1, 0, 0, 0]), (9, 0, [1]), (25, 0, []), (2, 0, [7, 1]), nO],
  [(34, 0, [170, 127, 3, 1, 6, 933, 936, 935, 48, 70]), nO, nO, (4, 0, [0, 0]), (23, 0, [44, 6, 14, 721]), nO, nO, (0, 120, [2, 1, 0, 0]), nO, (2, 0, [5, 1]), nO, (9, 0, [2]), (2, 0, [7, 1]), nO, (9, 0, [0]), (25, 0, [])],
  [(9, 0, [0]), (4, 0, [0, 0]), (23, 0, [44, 6, 14, 721]), nO, nO, (2, 0, [6, 1]), nO, (25, 0, []), (21, 0, [1, 239]), nO, nO, (0, 1, [1, 0, 0, 0]), (19, 0, [240]), nO, nO, (0, 0, [1, 0, 0, 0])],
  [(5, 0, [8, 1]), nO, (4, 0, [0, 0]), (23, 0, [51, 6, 16, 723]), nO, nO, (2, 0, [5, 1]), nO, (2, 0, [8, 1]), nO, (20, 0, [0, 258]), nO, nO, (2, 0, [7, 1]), nO, (19, 0, [265])],
  [nO, nO, (4, 0, [0, 0]), (23, 0, [51, 6, 16, 723]), nO, nO, (2, 0, [5, 1]), nO, (25, 0, []), (26, 0, []), (8, (-1), [7]), nO, nO, (19, 0, [187]), nO, nO],
  [(8, 1, [5]), nO, nO, (19, 0, [151]), nO, nO, (2, 0, [3, 0]), (20, 0, [1, 286]), nO, nO, (0, 0, [1, 0, 0, 0]), (19, 0, [288]), nO, nO, (2, 0, [4, 1]), nO],
  [(31, 0, [0])]]
abbrev mM_setThe : Nat := 130
def tM_setThe : List (List INS) := [[(4, 0, [0, 0]), (0, (-1), [1, 0, 0, 0]), (0, 0, [1, 0, 0, 0]), (34, 0, [186, 129, 2, 1, 6, 897, 900, 899, 40, 70]), nO, nO, (31, 0, [0])]]
abbrev mM_stackAt : Nat := 131
def tM_stackAt : List (List INS) := [[(4, 0, [0, 0]), (2, 0, [1, 0]), (4, 0, [0, 0]), (23, 0, [51, 6, 16, 723]), nO, nO, (2, 0, [1, 0]), (25, 0, []), (2, 0, [2, 0]), (34, 0, [166, 126, 3, 1, 6, 940, 943, 942, 49, 70]), nO, nO, (31, 0, [0])]]
abbrev mM_alikeAt : Nat := 132
def tM_alikeAt : List (List INS) := [[(4, 0, [0, 0]), (23, 0, [35, 6, 11, 718]), nO, nO, (2, 0, [1, 0]), (25, 0, []), (4, 0, [0, 0]), (23, 0, [35, 6, 11, 718]), nO, nO, (2, 0, [1, 0]), (0, 1, [1, 0, 0, 0]), (9, 0, [0]), (25, 0, []), (9, 0, [3]), (35, 0, [163, 95, 1, 1, 0, 937, 939, 938, 0, 70])],
  [nO, nO, (5, 0, [2, 0]), (2, 0, [2, 0]), (4, 0, [0, 0]), (2, 0, [1, 0]), (4, 0, [0, 0]), (23, 0, [51, 6, 16, 723]), nO, nO, (2, 0, [1, 0]), (25, 0, []), (4, 0, [0, 0]), (23, 0, [51, 6, 16, 723]), nO, nO],
  [(2, 0, [1, 0]), (0, 1, [1, 0, 0, 0]), (9, 0, [0]), (25, 0, []), (34, 0, [170, 127, 3, 1, 6, 933, 936, 935, 48, 70]), nO, nO, (9, 0, [1]), (31, 0, [0])]]
abbrev mM_least : Nat := 133
def tM_least : List (List INS) := [[(4, 0, [0, 0]), (34, 0, [190, 130, 0, 1, 6, 893, 896, 895, 39, 70]), nO, nO, (31, 0, [0])]]
abbrev mM_ways : Nat := 134
def tM_ways : List (List INS) := [[(4, 0, [0, 0]), (34, 0, [190, 130, 0, 1, 6, 893, 896, 895, 39, 70]), nO, nO, (5, 0, [1, 0]), (4, 0, [0, 0]), (34, 0, [150, 120, 0, 1, 6, 909, 912, 911, 43, 70]), nO, nO, (20, 0, [1, 14]), nO, nO, (0, 1, [1, 0, 0, 0]), (31, 0, [0]), (1, 0, [1, 0, 0, 0]), (6, 0, [2, 0])],
  [(0, 0, [1, 0, 0, 0]), (5, 0, [4, 1]), nO, (2, 0, [4, 1]), nO, (4, 0, [0, 0]), (23, 0, [38, 6, 12, 719]), nO, nO, (0, 0, [1, 0, 0, 0]), (25, 0, []), (21, 0, [3, 61]), nO, nO, (3, 0, [2, 0]), (4, 0, [0, 0])],
  [(23, 0, [44, 6, 14, 721]), nO, nO, (2, 0, [4, 1]), nO, (25, 0, []), (2, 0, [1, 0]), (21, 0, [1, 52]), nO, nO, (4, 0, [0, 0]), (23, 0, [47, 6, 15, 722]), nO, nO, (2, 0, [4, 1]), nO],
  [(27, 0, []), (19, 0, [53]), nO, nO, (1, 0, [1, 0, 0, 0]), (11, 0, [0]), (6, 0, [2, 0]), (8, 1, [4]), nO, nO, (19, 0, [19]), nO, nO, (3, 0, [2, 0]), (1, 1000000000, [3, 1, 173, 944]), nO],
  [nO, (15, 0, []), (20, 0, [5, 75]), nO, nO, (1, 1000000000, [3, 1, 173, 944]), nO, nO, (19, 0, [76]), nO, nO, (3, 0, [2, 0]), (14, 0, []), (31, 0, [0])]]
abbrev mM_plain : Nat := 135
def tM_plain : List (List INS) := [[(4, 0, [0, 0]), (34, 0, [190, 130, 0, 1, 6, 893, 896, 895, 39, 70]), nO, nO, (18, 0, []), (0, 0, [1, 0, 0, 0]), (5, 0, [1, 0]), (0, 0, [1, 0, 0, 0]), (5, 0, [2, 0]), (2, 0, [2, 0]), (0, 1, [1, 0, 0, 0]), (9, 0, [0]), (4, 0, [0, 0]), (34, 0, [150, 120, 0, 1, 6, 909, 912, 911, 43, 70]), nO, nO],
  [(21, 0, [3, 35]), nO, nO, (2, 0, [1, 0]), (4, 0, [0, 0]), (2, 0, [2, 0]), (0, 0, [1, 0, 0, 0]), (0, 0, [1, 0, 0, 0]), (34, 0, [170, 127, 3, 1, 6, 933, 936, 935, 48, 70]), nO, nO, (9, 0, [0]), (5, 0, [1, 0]), (8, 1, [2]), nO, nO],
  [(19, 0, [9]), nO, nO, (2, 0, [1, 0]), (31, 0, [0])]]
abbrev mM_free : Nat := 136
def tM_free : List (List INS) := [[(4, 0, [0, 0]), (0, (-1), [1, 0, 0, 0]), (0, 1, [1, 0, 0, 0]), (34, 0, [186, 129, 2, 1, 6, 897, 900, 899, 40, 70]), nO, nO, (31, 0, [0])]]
abbrev mM_without : Nat := 137
def tM_without : List (List INS) := [[(2, 0, [1, 0]), (0, 0, [1, 0, 0, 0]), (0, 1, [1, 0, 0, 0]), (35, 0, [85, 93, 3, 1, 0, 788, 790, 789, 0, 70]), nO, nO, (20, 0, [1, 14]), nO, nO, (4, 0, [0, 0]), (34, 0, [93, 90, 0, 1, 6, 791, 794, 793, 25, 70]), nO, nO, (31, 0, [0]), (0, (-1), [1, 0, 0, 0]), (5, 0, [2, 0])],
  [(0, 1048576, [2, 3, 169, 932]), nO, (5, 0, [3, 0]), (0, 0, [1, 0, 0, 0]), (5, 0, [4, 1]), nO, (2, 0, [4, 1]), nO, (4, 0, [0, 0]), (23, 0, [79, 6, 2, 709]), nO, nO, (21, 0, [3, 72]), nO, nO, (4, 0, [0, 0])],
  [(2, 0, [4, 1]), nO, (0, 0, [1, 0, 0, 0]), (34, 0, [186, 129, 2, 1, 6, 897, 900, 899, 40, 70]), nO, nO, (5, 0, [5, 1]), nO, (2, 0, [5, 1]), nO, (2, 0, [3, 0]), (21, 0, [3, 51]), nO, nO, (2, 0, [4, 1]), nO],
  [(19, 0, [52]), nO, nO, (2, 0, [2, 0]), (5, 0, [2, 0]), (2, 0, [5, 1]), nO, (2, 0, [3, 0]), (21, 0, [3, 64]), nO, nO, (2, 0, [5, 1]), nO, (19, 0, [65]), nO, nO],
  [(2, 0, [3, 0]), (5, 0, [3, 0]), (8, 1, [4]), nO, nO, (19, 0, [22]), nO, nO, (2, 0, [2, 0]), (0, (-1), [1, 0, 0, 0]), (21, 0, [0, 81]), nO, nO, (2, 0, [1, 0]), (20, 0, [1, 85]), nO],
  [nO, (2, 0, [2, 0]), (19, 0, [86]), nO, nO, (2, 0, [3, 0]), (31, 0, [0])]]
abbrev mM_comesNode : Nat := 138
def tM_comesNode : List (List INS) := [[(4, 0, [0, 0]), (23, 0, [57, 6, 19, 726]), nO, nO, (4, 0, [0, 0]), (23, 0, [193, 6, 18, 725]), nO, nO, (2, 0, [1, 0]), (26, 0, []), (4, 0, [0, 0]), (23, 0, [60, 6, 20, 727]), nO, nO, (4, 0, [0, 0]), (23, 0, [193, 6, 18, 725])],
  [nO, nO, (2, 0, [2, 0]), (26, 0, []), (4, 0, [0, 0]), (23, 0, [63, 6, 21, 728]), nO, nO, (4, 0, [0, 0]), (23, 0, [193, 6, 18, 725]), nO, nO, (2, 0, [3, 0]), (26, 0, []), (4, 0, [0, 0]), (23, 0, [66, 6, 22, 729])],
  [nO, nO, (4, 0, [0, 0]), (23, 0, [193, 6, 18, 725]), nO, nO, (2, 0, [4, 1]), nO, (26, 0, []), (4, 0, [0, 0]), (23, 0, [69, 6, 23, 730]), nO, nO, (4, 0, [0, 0]), (23, 0, [193, 6, 18, 725]), nO],
  [nO, (2, 0, [5, 1]), nO, (26, 0, []), (4, 0, [0, 0]), (16, 0, []), (23, 0, [193, 6, 18, 725]), nO, nO, (0, 1, [1, 0, 0, 0]), (9, 0, [0]), (24, 0, [193, 6, 18, 725]), nO, nO, (33, 0, [])]]
abbrev mM_comesEmpty : Nat := 139
def tM_comesEmpty : List (List INS) := [[(0, 0, [1, 0, 0, 0]), (5, 0, [2, 0]), (2, 0, [2, 0]), (4, 0, [0, 0]), (23, 0, [79, 6, 2, 709]), nO, nO, (21, 0, [3, 43]), nO, nO, (4, 0, [0, 0]), (2, 0, [2, 0]), (34, 0, [125, 100, 1, 1, 6, 854, 857, 856, 34, 70]), nO, nO, (20, 0, [0, 37])],
  [nO, nO, (4, 0, [0, 0]), (23, 0, [20, 6, 4, 711]), nO, nO, (2, 0, [2, 0]), (25, 0, []), (2, 0, [1, 0]), (21, 0, [1, 37]), nO, nO, (4, 0, [0, 0]), (2, 0, [2, 0]), (2, 0, [1, 0]), (2, 0, [1, 0])],
  [(0, 0, [1, 0, 0, 0]), (0, (-1), [1, 0, 0, 0]), (34, 0, [196, 138, 5, 0, 6, 973, 976, 975, 52, 70]), nO, nO, (8, 1, [2]), nO, nO, (19, 0, [2]), nO, nO, (33, 0, [])]]
abbrev mM_comesPieces : Nat := 140
def tM_comesPieces : List (List INS) := [[(2, 0, [1, 0]), (20, 0, [1, 8]), nO, nO, (0, 0, [1, 0, 0, 0]), (19, 0, [15]), nO, nO, (4, 0, [0, 0]), (2, 0, [1, 0]), (0, 1, [1, 0, 0, 0]), (9, 0, [1]), (34, 0, [200, 132, 1, 1, 6, 981, 984, 983, 54, 70]), nO, nO, (5, 0, [2, 0])],
  [(0, 0, [1, 0, 0, 0]), (5, 0, [3, 0]), (2, 0, [3, 0]), (4, 0, [0, 0]), (23, 0, [79, 6, 2, 709]), nO, nO, (21, 0, [3, 52]), nO, nO, (4, 0, [0, 0]), (23, 0, [72, 6, 24, 731]), nO, nO, (2, 0, [3, 0]), (2, 0, [1, 0])],
  [(20, 0, [1, 39]), nO, nO, (0, (-1), [1, 0, 0, 0]), (19, 0, [45]), nO, nO, (4, 0, [0, 0]), (23, 0, [72, 6, 24, 731]), nO, nO, (2, 0, [3, 0]), (25, 0, []), (26, 0, []), (8, 1, [3]), nO],
  [nO, (19, 0, [18]), nO, nO, (4, 0, [0, 0]), (23, 0, [35, 6, 11, 718]), nO, nO, (2, 0, [1, 0]), (25, 0, []), (35, 0, [163, 95, 1, 1, 0, 937, 939, 938, 0, 70]), nO, nO, (5, 0, [3, 0]), (2, 0, [2, 0]), (5, 0, [4, 1])],
  [nO, (2, 0, [4, 1]), nO, (2, 0, [3, 0]), (21, 0, [3, 146]), nO, nO, (4, 0, [0, 0]), (2, 0, [1, 0]), (2, 0, [4, 1]), nO, (34, 0, [203, 131, 2, 1, 6, 985, 988, 987, 55, 70]), nO, nO, (5, 0, [5, 1]), nO],
  [(2, 0, [4, 1]), nO, (20, 0, [1, 89]), nO, nO, (0, (-1), [1, 0, 0, 0]), (19, 0, [103]), nO, nO, (4, 0, [0, 0]), (23, 0, [72, 6, 24, 731]), nO, nO, (4, 0, [0, 0]), (2, 0, [1, 0]), (2, 0, [4, 1])],
  [nO, (0, 1, [1, 0, 0, 0]), (9, 0, [1]), (34, 0, [203, 131, 2, 1, 6, 985, 988, 987, 55, 70]), nO, nO, (25, 0, []), (5, 0, [6, 1]), nO, (4, 0, [0, 0]), (23, 0, [72, 6, 24, 731]), nO, nO, (2, 0, [5, 1]), nO, (4, 0, [0, 0])],
  [(23, 0, [193, 6, 18, 725]), nO, nO, (26, 0, []), (4, 0, [0, 0]), (2, 0, [5, 1]), nO, (4, 0, [0, 0]), (23, 0, [32, 6, 10, 717]), nO, nO, (2, 0, [1, 0]), (25, 0, []), (4, 0, [0, 0]), (23, 0, [32, 6, 10, 717]), nO],
  [nO, (2, 0, [1, 0]), (0, 1, [1, 0, 0, 0]), (9, 0, [0]), (25, 0, []), (2, 0, [4, 1]), nO, (2, 0, [6, 1]), nO, (34, 0, [196, 138, 5, 0, 6, 973, 976, 975, 52, 70]), nO, nO, (8, 1, [4]), nO, nO, (19, 0, [65])],
  [nO, nO, (0, 0, [1, 0, 0, 0]), (5, 0, [4, 1]), nO, (2, 0, [4, 1]), nO, (2, 0, [2, 0]), (21, 0, [3, 186]), nO, nO, (4, 0, [0, 0]), (23, 0, [63, 6, 21, 728]), nO, nO, (4, 0, [0, 0])],
  [(23, 0, [72, 6, 24, 731]), nO, nO, (4, 0, [0, 0]), (2, 0, [1, 0]), (2, 0, [4, 1]), nO, (34, 0, [203, 131, 2, 1, 6, 985, 988, 987, 55, 70]), nO, nO, (25, 0, []), (4, 0, [0, 0]), (23, 0, [32, 6, 10, 717]), nO, nO, (2, 0, [1, 0])],
  [(0, 1, [1, 0, 0, 0]), (9, 0, [0]), (25, 0, []), (26, 0, []), (8, 1, [4]), nO, nO, (19, 0, [149]), nO, nO, (33, 0, [])]]
abbrev mM_liesIn : Nat := 141
def tM_liesIn : List (List INS) := [[(0, 0, [1, 0, 0, 0]), (5, 0, [2, 0]), (2, 0, [2, 0]), (4, 0, [0, 0]), (23, 0, [193, 6, 18, 725]), nO, nO, (21, 0, [3, 102]), nO, nO, (4, 0, [0, 0]), (23, 0, [60, 6, 20, 727]), nO, nO, (2, 0, [2, 0]), (25, 0, [])],
  [(4, 0, [0, 0]), (23, 0, [60, 6, 20, 727]), nO, nO, (2, 0, [1, 0]), (25, 0, []), (21, 0, [3, 96]), nO, nO, (4, 0, [0, 0]), (23, 0, [63, 6, 21, 728]), nO, nO, (2, 0, [2, 0]), (25, 0, []), (4, 0, [0, 0])],
  [(23, 0, [60, 6, 20, 727]), nO, nO, (2, 0, [1, 0]), (25, 0, []), (21, 0, [5, 96]), nO, nO, (4, 0, [0, 0]), (23, 0, [66, 6, 22, 729]), nO, nO, (2, 0, [1, 0]), (17, 0, []), (25, 0, []), (0, 1, [1, 0, 0, 0])],
  [(9, 0, [0]), (26, 0, []), (4, 0, [0, 0]), (23, 0, [69, 6, 23, 730]), nO, nO, (2, 0, [1, 0]), (4, 0, [0, 0]), (23, 0, [69, 6, 23, 730]), nO, nO, (2, 0, [1, 0]), (25, 0, []), (0, (-1), [1, 0, 0, 0]), (21, 0, [0, 85]), nO],
  [nO, (4, 0, [0, 0]), (23, 0, [66, 6, 22, 729]), nO, nO, (2, 0, [2, 0]), (25, 0, []), (4, 0, [0, 0]), (23, 0, [66, 6, 22, 729]), nO, nO, (4, 0, [0, 0]), (23, 0, [69, 6, 23, 730]), nO, nO, (2, 0, [1, 0])],
  [(25, 0, []), (25, 0, []), (21, 0, [5, 89]), nO, nO, (2, 0, [2, 0]), (19, 0, [95]), nO, nO, (4, 0, [0, 0]), (23, 0, [69, 6, 23, 730]), nO, nO, (2, 0, [1, 0]), (25, 0, []), (26, 0, [])],
  [(8, 1, [2]), nO, nO, (19, 0, [2]), nO, nO, (33, 0, [])]]
abbrev mM_setNodes : Nat := 142
def tM_setNodes : List (List INS) := [[(4, 0, [0, 0]), (34, 0, [190, 130, 0, 1, 6, 893, 896, 895, 39, 70]), nO, nO, (18, 0, []), (4, 0, [0, 0]), (0, 0, [1, 0, 0, 0]), (24, 0, [193, 6, 18, 725]), nO, nO, (0, 0, [1, 0, 0, 0]), (5, 0, [1, 0]), (0, 0, [1, 0, 0, 0]), (5, 0, [2, 0]), (2, 0, [2, 0]), (4, 0, [0, 0])],
  [(23, 0, [13, 6, 1, 708]), nO, nO, (21, 0, [4, 59]), nO, nO, (4, 0, [0, 0]), (2, 0, [2, 0]), (34, 0, [207, 139, 1, 0, 6, 969, 972, 971, 51, 70]), nO, nO, (2, 0, [1, 0]), (4, 0, [0, 0]), (34, 0, [150, 120, 0, 1, 6, 909, 912, 911, 43, 70]), nO, nO],
  [(21, 0, [3, 53]), nO, nO, (4, 0, [0, 0]), (23, 0, [32, 6, 10, 717]), nO, nO, (2, 0, [1, 0]), (25, 0, []), (2, 0, [2, 0]), (21, 0, [1, 53]), nO, nO, (4, 0, [0, 0]), (2, 0, [1, 0]), (34, 0, [210, 140, 1, 0, 6, 977, 980, 979, 53, 70])],
  [nO, nO, (8, 1, [1]), nO, nO, (8, 1, [2]), nO, nO, (19, 0, [14]), nO, nO, (0, 0, [1, 0, 0, 0]), (5, 0, [2, 0]), (2, 0, [2, 0]), (4, 0, [0, 0]), (23, 0, [193, 6, 18, 725])],
  [nO, nO, (21, 0, [3, 93]), nO, nO, (4, 0, [0, 0]), (4, 0, [0, 0]), (23, 0, [57, 6, 19, 726]), nO, nO, (2, 0, [2, 0]), (25, 0, []), (34, 0, [125, 100, 1, 1, 6, 854, 857, 856, 34, 70]), nO, nO, (20, 0, [0, 87])],
  [nO, nO, (4, 0, [0, 0]), (2, 0, [2, 0]), (34, 0, [213, 141, 1, 0, 6, 989, 992, 991, 56, 70]), nO, nO, (8, 1, [2]), nO, nO, (19, 0, [61]), nO, nO, (33, 0, [])]]
abbrev mM_nodes : Nat := 143
def tM_nodes : List (List INS) := [[(4, 0, [0, 0]), (34, 0, [216, 142, 0, 0, 6, 965, 968, 967, 50, 70]), nO, nO, (4, 0, [0, 0]), (23, 0, [193, 6, 18, 725]), nO, nO, (31, 0, [0])]]
abbrev mM_nodeTells : Nat := 144
def tM_nodeTells : List (List INS) := [[(2, 0, [2, 0]), (22, 0, [31, 60, 32, 39, 46, 53]), nO, nO, nO, nO, nO, nO, nO, nO, nO, nO, nO, nO, nO, nO],
  [nO, nO, nO, nO, nO, nO, nO, nO, nO, nO, nO, nO, nO, nO, nO, nO],
  [(4, 0, [0, 0]), (23, 0, [57, 6, 19, 726]), nO, nO, (2, 0, [1, 0]), (25, 0, []), (31, 0, [0]), (4, 0, [0, 0]), (23, 0, [60, 6, 20, 727]), nO, nO, (2, 0, [1, 0]), (25, 0, []), (31, 0, [0]), (4, 0, [0, 0]), (23, 0, [63, 6, 21, 728])],
  [nO, nO, (2, 0, [1, 0]), (25, 0, []), (31, 0, [0]), (4, 0, [0, 0]), (23, 0, [66, 6, 22, 729]), nO, nO, (2, 0, [1, 0]), (25, 0, []), (31, 0, [0]), (4, 0, [0, 0]), (23, 0, [69, 6, 23, 730]), nO, nO],
  [(2, 0, [1, 0]), (25, 0, []), (31, 0, [0])]]
abbrev mM_node : Nat := 145
def tM_node : List (List INS) := [[(2, 0, [1, 0]), (20, 0, [2, 13]), nO, nO, (2, 0, [2, 0]), (0, 0, [1, 0, 0, 0]), (0, 4, [1, 0, 0, 0]), (35, 0, [85, 93, 3, 1, 0, 788, 790, 789, 0, 70]), nO, nO, (20, 0, [1, 18]), nO, nO, (4, 0, [0, 0]), (34, 0, [93, 90, 0, 1, 6, 791, 794, 793, 25, 70]), nO],
  [nO, (31, 0, [0]), (4, 0, [0, 0]), (34, 0, [216, 142, 0, 0, 6, 965, 968, 967, 50, 70]), nO, nO, (2, 0, [1, 0]), (4, 0, [0, 0]), (23, 0, [193, 6, 18, 725]), nO, nO, (21, 0, [3, 39]), nO, nO, (4, 0, [0, 0]), (2, 0, [1, 0])],
  [(2, 0, [2, 0]), (34, 0, [219, 144, 2, 1, 6, 997, 1000, 999, 57, 70]), nO, nO, (19, 0, [40]), nO, nO, (0, (-1), [1, 0, 0, 0]), (31, 0, [0])]]
abbrev mM_all : Nat := 146
def tM_all : List (List INS) := [[(2, 0, [1, 0]), (0, 0, [1, 0, 0, 0]), (0, 4, [1, 0, 0, 0]), (35, 0, [85, 93, 3, 1, 0, 788, 790, 789, 0, 70]), nO, nO, (20, 0, [1, 14]), nO, nO, (4, 0, [0, 0]), (34, 0, [93, 90, 0, 1, 6, 791, 794, 793, 25, 70]), nO, nO, (31, 0, [0]), (4, 0, [0, 0]), (34, 0, [216, 142, 0, 0, 6, 965, 968, 967, 50, 70])],
  [nO, nO, (0, 0, [1, 0, 0, 0]), (5, 0, [2, 0]), (0, 0, [1, 0, 0, 0]), (5, 0, [3, 0]), (2, 0, [3, 0]), (4, 0, [0, 0]), (23, 0, [193, 6, 18, 725]), nO, nO, (21, 0, [3, 154]), nO, nO, (4, 0, [0, 0]), (4, 0, [0, 0])],
  [(23, 0, [57, 6, 19, 726]), nO, nO, (2, 0, [3, 0]), (25, 0, []), (34, 0, [125, 100, 1, 1, 6, 854, 857, 856, 34, 70]), nO, nO, (5, 0, [4, 1]), nO, (2, 0, [1, 0]), (0, 1, [1, 0, 0, 0]), (21, 0, [1, 56]), nO, nO, (4, 0, [0, 0])],
  [(23, 0, [66, 6, 22, 729]), nO, nO, (2, 0, [3, 0]), (25, 0, []), (19, 0, [88]), nO, nO, (2, 0, [1, 0]), (0, 2, [1, 0, 0, 0]), (21, 0, [1, 74]), nO, nO, (2, 0, [4, 1]), nO, (20, 0, [0, 70])],
  [nO, nO, (0, 1, [1, 0, 0, 0]), (19, 0, [88]), nO, nO, (0, 0, [1, 0, 0, 0]), (19, 0, [88]), nO, nO, (4, 0, [0, 0]), (23, 0, [66, 6, 22, 729]), nO, nO, (2, 0, [3, 0]), (25, 0, [])],
  [(20, 0, [1, 87]), nO, nO, (0, 1, [1, 0, 0, 0]), (19, 0, [88]), nO, nO, (0, 0, [1, 0, 0, 0]), (5, 0, [5, 1]), nO, (2, 0, [1, 0]), (20, 0, [1, 103]), nO, nO, (4, 0, [0, 0]), (23, 0, [66, 6, 22, 729])],
  [nO, nO, (2, 0, [3, 0]), (25, 0, []), (19, 0, [116]), nO, nO, (4, 0, [0, 0]), (23, 0, [63, 6, 21, 728]), nO, nO, (2, 0, [3, 0]), (25, 0, []), (4, 0, [0, 0]), (23, 0, [60, 6, 20, 727]), nO],
  [nO, (2, 0, [3, 0]), (25, 0, []), (9, 0, [1]), (5, 0, [6, 1]), nO, (2, 0, [1, 0]), (20, 0, [0, 127]), nO, nO, (2, 0, [1, 0]), (0, 3, [1, 0, 0, 0]), (21, 0, [1, 143]), nO, nO, (2, 0, [6, 1])],
  [nO, (2, 0, [2, 0]), (21, 0, [5, 138]), nO, nO, (2, 0, [6, 1]), nO, (19, 0, [139]), nO, nO, (2, 0, [2, 0]), (5, 0, [2, 0]), (19, 0, [148]), nO, nO, (2, 0, [2, 0])],
  [(2, 0, [5, 1]), nO, (9, 0, [0]), (5, 0, [2, 0]), (8, 1, [3]), nO, nO, (19, 0, [22]), nO, nO, (2, 0, [2, 0]), (31, 0, [0])]]
abbrev mM_piecesOf : Nat := 147
def tM_piecesOf : List (List INS) := [[(0, 0, [1, 0, 0, 0]), (5, 0, [2, 0]), (0, 0, [1, 0, 0, 0]), (5, 0, [3, 0]), (2, 0, [3, 0]), (4, 0, [0, 0]), (23, 0, [193, 6, 18, 725]), nO, nO, (21, 0, [3, 44]), nO, nO, (2, 0, [2, 0]), (4, 0, [0, 0]), (23, 0, [57, 6, 19, 726]), nO],
  [nO, (2, 0, [3, 0]), (25, 0, []), (2, 0, [1, 0]), (21, 0, [1, 35]), nO, nO, (4, 0, [0, 0]), (2, 0, [1, 0]), (34, 0, [125, 100, 1, 1, 6, 854, 857, 856, 34, 70]), nO, nO, (20, 0, [1, 35]), nO, nO, (0, 1, [1, 0, 0, 0])],
  [(19, 0, [36]), nO, nO, (0, 0, [1, 0, 0, 0]), (9, 0, [0]), (5, 0, [2, 0]), (8, 1, [3]), nO, nO, (19, 0, [4]), nO, nO, (2, 0, [2, 0]), (31, 0, [0])]]
abbrev mM_splits : Nat := 148
def tM_splits : List (List INS) := [[(2, 0, [1, 0]), (35, 0, [97, 98, 1, 1, 0, 799, 801, 800, 0, 70]), nO, nO, (20, 0, [1, 12]), nO, nO, (4, 0, [0, 0]), (34, 0, [93, 90, 0, 1, 6, 791, 794, 793, 25, 70]), nO, nO, (31, 0, [0]), (4, 0, [0, 0]), (34, 0, [216, 142, 0, 0, 6, 965, 968, 967, 50, 70]), nO, nO],
  [(0, 0, [1, 0, 0, 0]), (5, 0, [2, 0]), (0, 0, [1, 0, 0, 0]), (5, 0, [3, 0]), (2, 0, [3, 0]), (4, 0, [0, 0]), (23, 0, [79, 6, 2, 709]), nO, nO, (21, 0, [3, 66]), nO, nO, (2, 0, [2, 0]), (4, 0, [0, 0]), (23, 0, [17, 6, 3, 710]), nO],
  [nO, (2, 0, [3, 0]), (25, 0, []), (2, 0, [1, 0]), (21, 0, [1, 57]), nO, nO, (4, 0, [0, 0]), (2, 0, [3, 0]), (34, 0, [125, 100, 1, 1, 6, 854, 857, 856, 34, 70]), nO, nO, (20, 0, [1, 57]), nO, nO, (4, 0, [0, 0])],
  [(2, 0, [3, 0]), (34, 0, [222, 147, 1, 1, 6, 1009, 1012, 1011, 58, 70]), nO, nO, (0, 1, [1, 0, 0, 0]), (9, 0, [1]), (19, 0, [58]), nO, nO, (0, 0, [1, 0, 0, 0]), (9, 0, [0]), (5, 0, [2, 0]), (8, 1, [3]), nO, nO, (19, 0, [20])],
  [nO, nO, (4, 0, [0, 0]), (23, 0, [79, 6, 2, 709]), nO, nO, (2, 0, [2, 0]), (9, 0, [0]), (0, 8, [2, 1, 0, 0]), nO, (21, 0, [5, 82]), nO, nO, (4, 0, [0, 0]), (34, 0, [105, 92, 0, 1, 6, 806, 809, 808, 27, 70]), nO],
  [nO, (31, 0, [0]), (4, 0, [0, 0]), (34, 0, [116, 105, 0, 0, 6, 822, 825, 824, 31, 70]), nO, nO, (4, 0, [0, 0]), (23, 0, [79, 6, 2, 709]), nO, nO, (5, 0, [3, 0]), (0, 0, [1, 0, 0, 0]), (5, 0, [4, 1]), nO, (2, 0, [4, 1]), nO],
  [(2, 0, [3, 0]), (21, 0, [3, 225]), nO, nO, (0, 1, [1, 0, 0, 0]), (5, 0, [5, 1]), nO, (0, 0, [1, 0, 0, 0]), (5, 0, [6, 1]), nO, (2, 0, [6, 1]), nO, (4, 0, [0, 0]), (23, 0, [193, 6, 18, 725]), nO, nO],
  [(21, 0, [3, 219]), nO, nO, (4, 0, [0, 0]), (23, 0, [17, 6, 3, 710]), nO, nO, (2, 0, [4, 1]), nO, (25, 0, []), (2, 0, [1, 0]), (21, 0, [1, 219]), nO, nO, (4, 0, [0, 0]), (23, 0, [57, 6, 19, 726])],
  [nO, nO, (2, 0, [6, 1]), nO, (25, 0, []), (2, 0, [4, 1]), nO, (21, 0, [1, 213]), nO, nO, (4, 0, [0, 0]), (23, 0, [63, 6, 21, 728]), nO, nO, (2, 0, [6, 1]), nO],
  [(25, 0, []), (4, 0, [0, 0]), (23, 0, [60, 6, 20, 727]), nO, nO, (2, 0, [6, 1]), nO, (25, 0, []), (21, 0, [5, 213]), nO, nO, (2, 0, [5, 1]), nO, (20, 0, [0, 191]), nO, nO],
  [(4, 0, [0, 0]), (23, 0, [20, 6, 4, 711]), nO, nO, (2, 0, [4, 1]), nO, (4, 0, [0, 0]), (23, 0, [60, 6, 20, 727]), nO, nO, (2, 0, [6, 1]), nO, (25, 0, []), (26, 0, []), (4, 0, [0, 0]), (23, 0, [23, 6, 5, 712])],
  [nO, nO, (2, 0, [4, 1]), nO, (4, 0, [0, 0]), (23, 0, [63, 6, 21, 728]), nO, nO, (2, 0, [6, 1]), nO, (25, 0, []), (26, 0, []), (19, 0, [210]), nO, nO, (4, 0, [0, 0])],
  [(2, 0, [1, 0]), (4, 0, [0, 0]), (23, 0, [60, 6, 20, 727]), nO, nO, (2, 0, [6, 1]), nO, (25, 0, []), (4, 0, [0, 0]), (23, 0, [63, 6, 21, 728]), nO, nO, (2, 0, [6, 1]), nO, (25, 0, []), (34, 0, [108, 103, 3, 0, 6, 810, 813, 812, 28, 70])],
  [nO, nO, (0, 0, [1, 0, 0, 0]), (5, 0, [5, 1]), nO, (8, 1, [6]), nO, nO, (19, 0, [106]), nO, nO, (8, 1, [4]), nO, nO, (19, 0, [94]), nO],
  [nO, (2, 0, [2, 0]), (31, 0, [0])]]
abbrev mM_crosses : Nat := 149
def tM_crosses : List (List INS) := [[(4, 0, [0, 0]), (23, 0, [20, 6, 4, 711]), nO, nO, (2, 0, [1, 0]), (25, 0, []), (4, 0, [0, 0]), (23, 0, [20, 6, 4, 711]), nO, nO, (2, 0, [2, 0]), (25, 0, []), (21, 0, [3, 49]), nO, nO, (4, 0, [0, 0])],
  [(23, 0, [20, 6, 4, 711]), nO, nO, (2, 0, [2, 0]), (25, 0, []), (4, 0, [0, 0]), (23, 0, [23, 6, 5, 712]), nO, nO, (2, 0, [1, 0]), (25, 0, []), (21, 0, [3, 49]), nO, nO, (4, 0, [0, 0]), (23, 0, [23, 6, 5, 712])],
  [nO, nO, (2, 0, [1, 0]), (25, 0, []), (4, 0, [0, 0]), (23, 0, [23, 6, 5, 712]), nO, nO, (2, 0, [2, 0]), (25, 0, []), (21, 0, [3, 49]), nO, nO, (0, 1, [1, 0, 0, 0]), (19, 0, [50]), nO],
  [nO, (0, 0, [1, 0, 0, 0]), (5, 0, [3, 0]), (2, 0, [3, 0]), (20, 0, [1, 100]), nO, nO, (4, 0, [0, 0]), (23, 0, [20, 6, 4, 711]), nO, nO, (2, 0, [2, 0]), (25, 0, []), (4, 0, [0, 0]), (23, 0, [20, 6, 4, 711]), nO],
  [nO, (2, 0, [1, 0]), (25, 0, []), (21, 0, [3, 104]), nO, nO, (4, 0, [0, 0]), (23, 0, [20, 6, 4, 711]), nO, nO, (2, 0, [1, 0]), (25, 0, []), (4, 0, [0, 0]), (23, 0, [23, 6, 5, 712]), nO, nO],
  [(2, 0, [2, 0]), (25, 0, []), (21, 0, [3, 104]), nO, nO, (4, 0, [0, 0]), (23, 0, [23, 6, 5, 712]), nO, nO, (2, 0, [2, 0]), (25, 0, []), (4, 0, [0, 0]), (23, 0, [23, 6, 5, 712]), nO, nO, (2, 0, [1, 0])],
  [(25, 0, []), (21, 0, [3, 104]), nO, nO, (0, 1, [1, 0, 0, 0]), (19, 0, [105]), nO, nO, (0, 0, [1, 0, 0, 0]), (31, 0, [1])]]
abbrev mM_acrossMany : Nat := 150
def tM_acrossMany : List (List INS) := [[(0, 0, [1, 0, 0, 0]), (5, 0, [2, 0]), (0, 0, [1, 0, 0, 0]), (5, 0, [3, 0]), (2, 0, [3, 0]), (4, 0, [0, 0]), (23, 0, [79, 6, 2, 709]), nO, nO, (21, 0, [3, 35]), nO, nO, (2, 0, [2, 0]), (4, 0, [0, 0]), (2, 0, [1, 0]), (2, 0, [3, 0])],
  [(34, 0, [225, 149, 2, 1, 6, 1025, 1028, 1027, 61, 70]), nO, nO, (20, 0, [0, 26]), nO, nO, (0, 1, [1, 0, 0, 0]), (19, 0, [27]), nO, nO, (0, 0, [1, 0, 0, 0]), (9, 0, [0]), (5, 0, [2, 0]), (8, 1, [3]), nO, nO],
  [(19, 0, [4]), nO, nO, (2, 0, [2, 0]), (31, 0, [0])]]
abbrev mM_pieces : Nat := 151
def tM_pieces : List (List INS) := [[(4, 0, [0, 0]), (34, 0, [216, 142, 0, 0, 6, 965, 968, 967, 50, 70]), nO, nO, (4, 0, [0, 0]), (2, 0, [1, 0]), (34, 0, [222, 147, 1, 1, 6, 1009, 1012, 1011, 58, 70]), nO, nO, (31, 0, [0])]]
abbrev mM_of : Nat := 152
def tM_of : List (List INS) := [[(4, 0, [0, 0]), (2, 0, [1, 0]), (34, 0, [119, 97, 1, 1, 6, 830, 833, 832, 32, 70]), nO, nO, (20, 0, [0, 17]), nO, nO, (2, 0, [2, 0]), (0, 0, [1, 0, 0, 0]), (0, 4, [1, 0, 0, 0]), (35, 0, [85, 93, 3, 1, 0, 788, 790, 789, 0, 70]), nO, nO, (20, 0, [1, 22]), nO],
  [nO, (4, 0, [0, 0]), (34, 0, [93, 90, 0, 1, 6, 791, 794, 793, 25, 70]), nO, nO, (31, 0, [0]), (2, 0, [2, 0]), (22, 0, [29, 79, 52, 59, 66, 73]), nO, nO, nO, nO, nO, nO, nO, nO],
  [nO, nO, nO, nO, nO, nO, nO, nO, nO, nO, nO, nO, nO, nO, nO, nO],
  [nO, nO, nO, nO, (4, 0, [0, 0]), (23, 0, [17, 6, 3, 710]), nO, nO, (2, 0, [1, 0]), (25, 0, []), (31, 0, [0]), (4, 0, [0, 0]), (23, 0, [20, 6, 4, 711]), nO, nO, (2, 0, [1, 0])],
  [(25, 0, []), (31, 0, [0]), (4, 0, [0, 0]), (23, 0, [23, 6, 5, 712]), nO, nO, (2, 0, [1, 0]), (25, 0, []), (31, 0, [0]), (4, 0, [0, 0]), (2, 0, [1, 0]), (34, 0, [228, 151, 1, 1, 6, 1017, 1020, 1019, 59, 70]), nO, nO, (31, 0, [0]), (4, 0, [0, 0])],
  [(2, 0, [1, 0]), (34, 0, [231, 150, 1, 1, 6, 1021, 1024, 1023, 60, 70]), nO, nO, (31, 0, [0])]]
abbrev mM_over : Nat := 153
def tM_over : List (List INS) := [[(2, 0, [1, 0]), (0, 0, [1, 0, 0, 0]), (4, 0, [0, 0]), (23, 0, [13, 6, 1, 708]), nO, nO, (0, 1, [1, 0, 0, 0]), (9, 0, [1]), (35, 0, [85, 93, 3, 1, 0, 788, 790, 789, 0, 70]), nO, nO, (20, 0, [1, 19]), nO, nO, (4, 0, [0, 0]), (34, 0, [93, 90, 0, 1, 6, 791, 794, 793, 25, 70])],
  [nO, nO, (31, 0, [0]), (0, 0, [1, 0, 0, 0]), (5, 0, [2, 0]), (0, 0, [1, 0, 0, 0]), (5, 0, [3, 0]), (2, 0, [3, 0]), (4, 0, [0, 0]), (23, 0, [79, 6, 2, 709]), nO, nO, (21, 0, [3, 67]), nO, nO, (2, 0, [2, 0])],
  [(4, 0, [0, 0]), (23, 0, [20, 6, 4, 711]), nO, nO, (2, 0, [3, 0]), (25, 0, []), (2, 0, [1, 0]), (21, 0, [4, 58]), nO, nO, (4, 0, [0, 0]), (23, 0, [23, 6, 5, 712]), nO, nO, (2, 0, [3, 0]), (25, 0, [])],
  [(2, 0, [1, 0]), (21, 0, [5, 58]), nO, nO, (0, 1, [1, 0, 0, 0]), (2, 0, [3, 0]), (9, 0, [6]), (19, 0, [59]), nO, nO, (0, 0, [1, 0, 0, 0]), (9, 0, [4]), (5, 0, [2, 0]), (8, 1, [3]), nO, nO],
  [(19, 0, [23]), nO, nO, (2, 0, [2, 0]), (31, 0, [0])]]
abbrev mM_section : Nat := 154
def tM_section : List (List INS) := [[(4, 0, [0, 0]), (0, (-1), [1, 0, 0, 0]), (34, 0, [175, 122, 1, 0, 6, 901, 904, 903, 41, 70]), nO, nO, (2, 0, [1, 0]), (0, 0, [1, 0, 0, 0]), (4, 0, [0, 0]), (34, 0, [150, 120, 0, 1, 6, 909, 912, 911, 43, 70]), nO, nO, (0, 1, [1, 0, 0, 0]), (9, 0, [1]), (35, 0, [85, 93, 3, 1, 0, 788, 790, 789, 0, 70]), nO, nO],
  [(20, 0, [0, 28]), nO, nO, (2, 0, [2, 0]), (0, 0, [1, 0, 0, 0]), (0, 2, [1, 0, 0, 0]), (35, 0, [85, 93, 3, 1, 0, 788, 790, 789, 0, 70]), nO, nO, (20, 0, [1, 33]), nO, nO, (4, 0, [0, 0]), (34, 0, [93, 90, 0, 1, 6, 791, 794, 793, 25, 70]), nO, nO],
  [(31, 0, [0]), (2, 0, [2, 0]), (20, 0, [1, 46]), nO, nO, (4, 0, [0, 0]), (23, 0, [32, 6, 10, 717]), nO, nO, (2, 0, [1, 0]), (25, 0, []), (19, 0, [71]), nO, nO, (2, 0, [2, 0]), (0, 1, [1, 0, 0, 0])],
  [(21, 0, [1, 62]), nO, nO, (4, 0, [0, 0]), (23, 0, [32, 6, 10, 717]), nO, nO, (2, 0, [1, 0]), (0, 1, [1, 0, 0, 0]), (9, 0, [0]), (25, 0, []), (19, 0, [71]), nO, nO, (4, 0, [0, 0]), (23, 0, [35, 6, 11, 718])],
  [nO, nO, (2, 0, [1, 0]), (25, 0, []), (35, 0, [163, 95, 1, 1, 0, 937, 939, 938, 0, 70]), nO, nO, (31, 0, [0])]]
abbrev mM_stack : Nat := 155
def tM_stack : List (List INS) := [[(4, 0, [0, 0]), (34, 0, [190, 130, 0, 1, 6, 893, 896, 895, 39, 70]), nO, nO, (18, 0, []), (2, 0, [1, 0]), (0, 0, [1, 0, 0, 0]), (4, 0, [0, 0]), (34, 0, [150, 120, 0, 1, 6, 909, 912, 911, 43, 70]), nO, nO, (0, 1, [1, 0, 0, 0]), (9, 0, [1]), (35, 0, [85, 93, 3, 1, 0, 788, 790, 789, 0, 70]), nO, nO],
  [(20, 0, [0, 23]), nO, nO, (2, 0, [2, 0]), (20, 0, [3, 28]), nO, nO, (4, 0, [0, 0]), (34, 0, [93, 90, 0, 1, 6, 791, 794, 793, 25, 70]), nO, nO, (31, 0, [0]), (2, 0, [2, 0]), (4, 0, [0, 0]), (23, 0, [35, 6, 11, 718]), nO],
  [nO, (2, 0, [1, 0]), (25, 0, []), (35, 0, [163, 95, 1, 1, 0, 937, 939, 938, 0, 70]), nO, nO, (21, 0, [3, 50]), nO, nO, (4, 0, [0, 0]), (2, 0, [1, 0]), (2, 0, [2, 0]), (34, 0, [203, 131, 2, 1, 6, 985, 988, 987, 55, 70]), nO, nO, (19, 0, [51])],
  [nO, nO, (0, (-1), [1, 0, 0, 0]), (31, 0, [0])]]
abbrev mM_draw : Nat := 156
def tM_draw : List (List INS) := [[(2, 0, [1, 0]), (0, 0, [1, 0, 0, 0]), (0, 999999, [2, 3, 234, 1045]), nO, (35, 0, [85, 93, 3, 1, 0, 788, 790, 789, 0, 70]), nO, nO, (20, 0, [0, 20]), nO, nO, (2, 0, [2, 0]), (0, 0, [1, 0, 0, 0]), (0, 8, [2, 1, 0, 0]), nO, (35, 0, [85, 93, 3, 1, 0, 788, 790, 789, 0, 70]), nO],
  [nO, (20, 0, [1, 25]), nO, nO, (4, 0, [0, 0]), (34, 0, [93, 90, 0, 1, 6, 791, 794, 793, 25, 70]), nO, nO, (31, 0, [0]), (4, 0, [0, 0]), (34, 0, [116, 105, 0, 0, 6, 822, 825, 824, 31, 70]), nO, nO, (4, 0, [0, 0]), (0, 0, [1, 0, 0, 0]), (24, 0, [79, 6, 2, 709])],
  [nO, nO, (2, 0, [1, 0]), (13, 0, []), (6, 0, [3, 0]), (0, 0, [1, 0, 0, 0]), (5, 0, [5, 1]), nO, (2, 0, [5, 1]), nO, (2, 0, [2, 0]), (21, 0, [3, 161]), nO, nO, (3, 0, [3, 0]), (1, 1103515245, [3, 1, 235, 1046])],
  [nO, nO, (11, 0, [2]), (1, 12345, [3, 1, 237, 1047]), nO, nO, (11, 0, [0]), (1, 2147483648, [3, 1, 239, 1048]), nO, nO, (12, 0, [1]), (6, 0, [3, 0]), (3, 0, [3, 0]), (1, 1024, [3, 1, 241, 1049]), nO, nO],
  [(12, 0, [0]), (4, 0, [0, 0]), (23, 0, [13, 6, 1, 708]), nO, nO, (0, 1, [1, 0, 0, 0]), (9, 0, [0]), (13, 0, []), (12, 0, [1]), (14, 0, []), (5, 0, [6, 1]), nO, (3, 0, [3, 0]), (1, 32768, [3, 1, 243, 1050]), nO, nO],
  [(12, 0, [0]), (4, 0, [0, 0]), (23, 0, [13, 6, 1, 708]), nO, nO, (0, 1, [1, 0, 0, 0]), (9, 0, [0]), (13, 0, []), (12, 0, [1]), (14, 0, []), (5, 0, [7, 1]), nO, (4, 0, [0, 0]), (3, 0, [3, 0]), (1, 65536, [3, 1, 245, 1051]), nO],
  [nO, (12, 0, [0]), (1, 4, [3, 1, 247, 1052]), nO, nO, (12, 0, [1]), (14, 0, []), (2, 0, [6, 1]), nO, (2, 0, [7, 1]), nO, (21, 0, [3, 115]), nO, nO, (2, 0, [6, 1]), nO],
  [(19, 0, [117]), nO, nO, (2, 0, [7, 1]), nO, (2, 0, [6, 1]), nO, (2, 0, [7, 1]), nO, (21, 0, [3, 129]), nO, nO, (2, 0, [7, 1]), nO, (19, 0, [131]), nO],
  [nO, (2, 0, [6, 1]), nO, (34, 0, [108, 103, 3, 0, 6, 810, 813, 812, 28, 70]), nO, nO, (4, 0, [0, 0]), (16, 0, []), (23, 0, [79, 6, 2, 709]), nO, nO, (4, 0, [0, 0]), (34, 0, [112, 102, 0, 1, 6, 814, 817, 816, 29, 70]), nO, nO, (20, 0, [0, 150])],
  [nO, nO, (0, 1, [1, 0, 0, 0]), (19, 0, [151]), nO, nO, (0, 0, [1, 0, 0, 0]), (9, 0, [1]), (24, 0, [79, 6, 2, 709]), nO, nO, (8, 1, [5]), nO, nO, (19, 0, [40]), nO],
  [nO, (4, 0, [0, 0]), (23, 0, [79, 6, 2, 709]), nO, nO, (31, 0, [0])]]
abbrev mM_tells : Nat := 157
def tM_tells : List (List INS) := [[(2, 0, [1, 0]), (0, 3, [1, 0, 0, 0]), (21, 0, [3, 12]), nO, nO, (4, 0, [0, 0]), (23, 0, [1, 6, 0, 707]), nO, nO, (2, 0, [1, 0]), (25, 0, []), (31, 0, [0]), (2, 0, [1, 0]), (0, 5, [1, 0, 0, 0]), (21, 0, [1, 27]), nO],
  [nO, (4, 0, [0, 0]), (0, (-1), [1, 0, 0, 0]), (34, 0, [175, 122, 1, 0, 6, 901, 904, 903, 41, 70]), nO, nO, (4, 0, [0, 0]), (34, 0, [150, 120, 0, 1, 6, 909, 912, 911, 43, 70]), nO, nO, (31, 0, [0]), (2, 0, [1, 0]), (0, 3, [1, 0, 0, 0]), (21, 0, [1, 39]), nO, nO],
  [(4, 0, [0, 0]), (23, 0, [79, 6, 2, 709]), nO, nO, (19, 0, [101]), nO, nO, (2, 0, [1, 0]), (0, 4, [1, 0, 0, 0]), (21, 0, [1, 51]), nO, nO, (4, 0, [0, 0]), (23, 0, [13, 6, 1, 708]), nO, nO],
  [(19, 0, [101]), nO, nO, (2, 0, [1, 0]), (0, 6, [2, 1, 0, 0]), nO, (21, 0, [1, 64]), nO, nO, (4, 0, [0, 0]), (23, 0, [82, 6, 8, 715]), nO, nO, (19, 0, [101]), nO, nO],
  [(0, 1000, [3, 2, 0, 0]), nO, nO, (4, 0, [0, 0]), (23, 0, [26, 6, 6, 713]), nO, nO, (0, 0, [1, 0, 0, 0]), (25, 0, []), (9, 0, [2]), (0, 100, [2, 1, 0, 0]), nO, (4, 0, [0, 0]), (23, 0, [26, 6, 6, 713]), nO, nO],
  [(0, 1, [1, 0, 0, 0]), (25, 0, []), (9, 0, [2]), (9, 0, [0]), (0, 10, [2, 1, 0, 0]), nO, (4, 0, [0, 0]), (23, 0, [26, 6, 6, 713]), nO, nO, (0, 2, [1, 0, 0, 0]), (25, 0, []), (9, 0, [2]), (9, 0, [0]), (4, 0, [0, 0]), (23, 0, [26, 6, 6, 713])],
  [nO, nO, (0, 3, [1, 0, 0, 0]), (25, 0, []), (9, 0, [0]), (31, 0, [0])]]
abbrev mM_told : Nat := 158
def tM_told : List (List INS) := [[(2, 0, [1, 0]), (0, 0, [1, 0, 0, 0]), (0, 7, [2, 1, 0, 0]), nO, (35, 0, [85, 93, 3, 1, 0, 788, 790, 789, 0, 70]), nO, nO, (20, 0, [0, 18]), nO, nO, (4, 0, [0, 0]), (2, 0, [1, 0]), (34, 0, [249, 157, 1, 1, 6, 1057, 1060, 1059, 62, 70]), nO, nO, (19, 0, [22])],
  [nO, nO, (4, 0, [0, 0]), (34, 0, [93, 90, 0, 1, 6, 791, 794, 793, 25, 70]), nO, nO, (31, 0, [0])]]
abbrev mM_digest : Nat := 159
def tM_digest : List (List INS) := [[(1, 1951, [3, 1, 252, 1065]), nO, nO, (6, 0, [1, 0]), (0, 0, [1, 0, 0, 0]), (5, 0, [3, 0]), (2, 0, [3, 0]), (0, 8, [2, 1, 0, 0]), nO, (21, 0, [3, 31]), nO, nO, (1, 31, [3, 1, 254, 1066]), nO, nO, (3, 0, [1, 0])],
  [(11, 0, [2]), (4, 0, [0, 0]), (2, 0, [3, 0]), (34, 0, [249, 157, 1, 1, 6, 1057, 1060, 1059, 62, 70]), nO, nO, (13, 0, []), (11, 0, [0]), (6, 0, [1, 0]), (8, 1, [3]), nO, nO, (19, 0, [6]), nO, nO, (0, 0, [1, 0, 0, 0])],
  [(5, 0, [3, 0]), (2, 0, [3, 0]), (4, 0, [0, 0]), (23, 0, [79, 6, 2, 709]), nO, nO, (21, 0, [3, 89]), nO, nO, (1, 31, [3, 1, 254, 1066]), nO, nO, (3, 0, [1, 0]), (11, 0, [2]), (4, 0, [0, 0]), (23, 0, [17, 6, 3, 710])],
  [nO, nO, (2, 0, [3, 0]), (25, 0, []), (13, 0, []), (11, 0, [0]), (6, 0, [1, 0]), (1, 31, [3, 1, 254, 1066]), nO, nO, (3, 0, [1, 0]), (11, 0, [2]), (4, 0, [0, 0]), (23, 0, [20, 6, 4, 711]), nO, nO],
  [(2, 0, [3, 0]), (25, 0, []), (13, 0, []), (11, 0, [0]), (6, 0, [1, 0]), (1, 31, [3, 1, 254, 1066]), nO, nO, (3, 0, [1, 0]), (11, 0, [2]), (4, 0, [0, 0]), (23, 0, [23, 6, 5, 712]), nO, nO, (2, 0, [3, 0]), (25, 0, [])],
  [(13, 0, []), (11, 0, [0]), (6, 0, [1, 0]), (8, 1, [3]), nO, nO, (19, 0, [33]), nO, nO, (1, 31, [3, 1, 254, 1066]), nO, nO, (3, 0, [1, 0]), (11, 0, [2]), (4, 0, [0, 0]), (34, 0, [190, 130, 0, 1, 6, 893, 896, 895, 39, 70])],
  [nO, nO, (13, 0, []), (11, 0, [0]), (6, 0, [1, 0]), (4, 0, [0, 0]), (34, 0, [216, 142, 0, 0, 6, 965, 968, 967, 50, 70]), nO, nO, (1, 31, [3, 1, 254, 1066]), nO, nO, (3, 0, [1, 0]), (11, 0, [2]), (4, 0, [0, 0]), (23, 0, [193, 6, 18, 725])],
  [nO, nO, (13, 0, []), (11, 0, [0]), (32, 0, [])]]
abbrev MDT : Type := MethodName × ByteArray × Nat × Option FieldType × List (List INS) × Nat
def mdL : List MDT := [(⟨"java/lang/Integer", "bitCount", "(I)I"⟩, prog_10_method_49_code, 1, some .int, tInt_bitCount, 53),
  (⟨"NestRanges$Stack", "at", "(II)I"⟩, prog_5_method_2_code, 2, some .int, tSt_at, 22),
  (⟨"NestRanges$Stack", "with", "(III)I"⟩, prog_5_method_3_code, 3, some .int, tSt_with, 21),
  (⟨"NestRanges$Stack", "alike", "(II)I"⟩, prog_5_method_4_code, 4, some .int, tSt_alike, 37),
  (⟨"NestRanges$Text", "clear", "(I)V"⟩, prog_6_method_2_code, 3, none, tTe_clear, 31),
  (⟨"NestRanges$Text", "copy", "(LNestRanges$Text;)V"⟩, prog_6_method_3_code, 3, none, tTe_copy, 92),
  (⟨"NestRanges$Text", "isKindNumber", "(I)Z"⟩, prog_6_method_4_code, 1, some .boolean, tTe_isKindNumber, 15),
  (⟨"NestRanges$Text", "has", "(I)Z"⟩, prog_6_method_5_code, 2, some .boolean, tTe_has, 24),
  (⟨"NestRanges$Text", "holds", "(II)Z"⟩, prog_6_method_6_code, 3, some .boolean, tTe_holds, 23),
  (⟨"NestRanges$Text", "isEmpty", "(I)Z"⟩, prog_6_method_7_code, 2, some .boolean, tTe_isEmpty, 29),
  (⟨"NestRanges$Text", "rankOf", "(I)I"⟩, prog_6_method_8_code, 3, some .int, tTe_rankOf, 35),
  (⟨"NestRanges$Text", "ranksAsOne", "()I"⟩, prog_6_method_9_code, 3, some .int, tTe_ranksAsOne, 29),
  (⟨"NestRanges$Text", "coverAt", "(I)I"⟩, prog_6_method_10_code, 4, some .int, tTe_coverAt, 52),
  (⟨"NestRanges$Text", "isCrowded", "()Z"⟩, prog_6_method_11_code, 2, some .boolean, tTe_isCrowded, 43),
  (⟨"NestRanges$Text", "howManyAcross", "(I)I"⟩, prog_6_method_12_code, 4, some .int, tTe_howManyAcross, 47),
  (⟨"NestRanges$Text", "isAcross", "(II)Z"⟩, prog_6_method_13_code, 3, some .boolean, tTe_isAcross, 69),
  (⟨"NestRanges$Text", "append", "(III)Z"⟩, prog_6_method_14_code, 4, some .boolean, tTe_append, 60),
  (⟨"NestRanges$Text", "lay", "(III)V"⟩, prog_6_method_15_code, 4, none, tTe_lay, 24),
  (⟨"NestRanges$Text", "remove", "(I)V"⟩, prog_6_method_16_code, 3, none, tTe_remove, 88),
  (⟨"NestRanges$Text", "putIn", "(II)V"⟩, prog_6_method_17_code, 5, none, tTe_putIn, 103),
  (⟨"NestRanges$Text", "takeOut", "(II)V"⟩, prog_6_method_18_code, 4, none, tTe_takeOut, 69),
  (⟨"NestRanges$Text", "afterTaking", "(III)I"⟩, prog_6_method_19_code, 3, some .int, tTe_afterTaking, 17),
  (⟨"NestRanges$Text", "gatherInto", "(I)V"⟩, prog_6_method_20_code, 4, none, tTe_gatherInto, 96),
  (⟨"NestRanges$Text", "hangTogether", "(II)Z"⟩, prog_6_method_21_code, 3, some .boolean, tTe_hangTogether, 69),
  (⟨"NestRanges$Text", "placeBy", "(J)I"⟩, prog_6_method_22_code, 5, some .int, tTe_placeBy, 23),
  (⟨"NestRanges$History", "forget", "()V"⟩, prog_2_method_2_code, 1, none, tHi_forget, 6),
  (⟨"NestRanges$History", "keep", "(LNestRanges$Text;)V"⟩, prog_2_method_3_code, 2, none, tHi_keep, 67),
  (⟨"NestRanges$History", "takeBack", "(LNestRanges$Text;)Z"⟩, prog_2_method_4_code, 2, some .boolean, tHi_takeBack, 67),
  (⟨"NestRanges$Sections", "has", "(I)Z"⟩, prog_4_method_2_code, 2, some .boolean, tSe_has, 24),
  (⟨"NestRanges$Sections", "isCut", "(II)Z"⟩, prog_4_method_3_code, 3, some .boolean, tSe_isCut, 34),
  (⟨"NestRanges$Sections", "cut", "(LNestRanges$Text;I)V"⟩, prog_4_method_4_code, 4, none, tSe_cut, 81),
  (⟨"NestRanges$Sections", "addCut", "(I)V"⟩, prog_4_method_5_code, 4, none, tSe_addCut, 123),
  (⟨"NestRanges$Sections", "cover", "(LNestRanges$Text;I)V"⟩, prog_4_method_6_code, 5, none, tSe_cover, 102),
  (⟨"NestRanges$Weights", "weigh", "(LNestRanges$Text;LNestRanges$Sections;Z)V"⟩, prog_7_method_2_code, 7, none, tWe_weigh, 227),
  (⟨"NestRanges$Weights", "addStacks", "(IIII)V"⟩, prog_7_method_3_code, 8, none, tWe_addStacks, 89),
  (⟨"NestRanges$Weights", "addStack", "(II)V"⟩, prog_7_method_4_code, 4, none, tWe_addStack, 37),
  (⟨"NestRanges$Weights", "outermostRank", "(I)I"⟩, prog_7_method_5_code, 4, some .int, tWe_outermostRank, 37),
  (⟨"NestRanges$Weights", "setAll", "(III)V"⟩, prog_7_method_6_code, 5, none, tWe_setAll, 43),
  (⟨"NestRanges$Weights", "offerAlike", "(IIIIII)V"⟩, prog_7_method_7_code, 16, none, tWe_offerAlike, 228),
  (⟨"NestRanges$Weights", "offer", "(IIII)V"⟩, prog_7_method_8_code, 6, none, tWe_offer, 69),
  (⟨"NestRanges$Weights", "endOfLike", "(IIII)I"⟩, prog_7_method_9_code, 7, some .int, tWe_endOfLike, 54),
  (⟨"NestRanges$Weights", "cheapest", "(III)I"⟩, prog_7_method_10_code, 6, some .int, tWe_cheapest, 38),
  (⟨"NestRanges$Weights", "mannersOf", "(IIII)I"⟩, prog_7_method_11_code, 8, some .int, tWe_mannersOf, 60),
  (⟨"NestRanges$Weights", "choose", "(LNestRanges$Sections;[I)V"⟩, prog_7_method_12_code, 8, none, tWe_choose, 139),
  (⟨"NestRanges$Weights", "splitsOfFirst", "(LNestRanges$Sections;)I"⟩, prog_7_method_13_code, 4, some .int, tWe_splitsOfFirst, 61),
  (⟨"NestRanges$Nest", "layNodes", "(LNestRanges$Text;)V"⟩, prog_3_method_2_code, 6, none, tNe_layNodes, 74),
  (⟨"NestRanges$Nest", "goingOnAt", "(I)I"⟩, prog_3_method_3_code, 2, some .int, tNe_goingOnAt, 44),
  (⟨"NestRanges$Nest", "addEmptyOnes", "(LNestRanges$Text;II)V"⟩, prog_3_method_4_code, 5, none, tNe_addEmptyOnes, 56),
  (⟨"NestRanges$Nest", "addPieces", "(II)I"⟩, prog_3_method_5_code, 7, some .int, tNe_addPieces, 121),
  (⟨"NestRanges$Nest", "stretch", "(II)V"⟩, prog_3_method_6_code, 3, none, tNe_stretch, 20),
  (⟨"NestRanges$Nest", "addNode", "(IIII)I"⟩, prog_3_method_7_code, 5, some .int, tNe_addNode, 109),
  (⟨"NestRanges$Nest", "isPiece", "(I)Z"⟩, prog_3_method_8_code, 2, some .boolean, tNe_isPiece, 21),
  (⟨"NestRanges$Nest", "piecesOf", "(I)I"⟩, prog_3_method_9_code, 4, some .int, tNe_piecesOf, 41),
  (⟨"NestRanges$Nest", "breakUp", "(ILNestRanges$Text;)V"⟩, prog_3_method_10_code, 5, none, tNe_breakUp, 106),
  (⟨"NestRanges$Nest", "greatestDepth", "()I"⟩, prog_3_method_11_code, 3, some .int, tNe_greatestDepth, 31),
  (⟨"NestRanges$Nest", "depthsTogether", "()I"⟩, prog_3_method_12_code, 3, some .int, tNe_depthsTogether, 29),
  (⟨"NestRanges$Nest", "howManyEmpty", "()I"⟩, prog_3_method_13_code, 3, some .int, tNe_howManyEmpty, 31),
  (⟨"NestRanges$Nest", "longest", "()I"⟩, prog_3_method_14_code, 3, some .int, tNe_longest, 38),
  (⟨"NestRanges$Nest", "howManyInNone", "()I"⟩, prog_3_method_15_code, 3, some .int, tNe_howManyInNone, 32),
  (⟨"NestRanges", "anew", "(I)I"⟩, prog_1_method_2_code, 3, some .int, tX_anew, 45),
  (⟨"NestRanges", "range", "(III)I"⟩, prog_1_method_3_code, 4, some .int, tX_range, 77),
  (⟨"NestRanges", "drop", "(I)I"⟩, prog_1_method_4_code, 2, some .int, tX_drop, 47),
  (⟨"NestRanges", "moves", "(III)I"⟩, prog_1_method_5_code, 5, some .int, tX_moves, 96),
  (⟨"NestRanges", "kind", "(II)I"⟩, prog_1_method_6_code, 4, some .int, tX_kind, 60),
  (⟨"NestRanges", "rank", "(II)I"⟩, prog_1_method_7_code, 4, some .int, tX_rank, 58),
  (⟨"NestRanges", "puts", "(II)I"⟩, prog_1_method_8_code, 3, some .int, tX_puts, 82),
  (⟨"NestRanges", "takes", "(II)I"⟩, prog_1_method_9_code, 3, some .int, tX_takes, 57),
  (⟨"NestRanges", "joins", "(I)I"⟩, prog_1_method_10_code, 3, some .int, tX_joins, 91),
  (⟨"NestRanges", "splits", "(I)I"⟩, prog_1_method_11_code, 4, some .int, tX_splits, 159),
  (⟨"NestRanges", "undo", "()I"⟩, prog_1_method_12_code, 1, some .int, tX_undo, 40),
  (⟨"NestRanges", "of", "(II)I"⟩, prog_1_method_13_code, 3, some .int, tX_of, 109),
  (⟨"NestRanges", "over", "(I)I"⟩, prog_1_method_14_code, 2, some .int, tX_over, 29),
  (⟨"NestRanges", "section", "(II)I"⟩, prog_1_method_15_code, 3, some .int, tX_section, 101),
  (⟨"NestRanges", "stack", "(II)I"⟩, prog_1_method_16_code, 3, some .int, tX_stack, 41),
  (⟨"NestRanges", "least", "()I"⟩, prog_1_method_17_code, 1, some .int, tX_least, 12),
  (⟨"NestRanges", "ways", "()I"⟩, prog_1_method_18_code, 1, some .int, tX_ways, 12),
  (⟨"NestRanges", "plain", "()I"⟩, prog_1_method_19_code, 1, some .int, tX_plain, 12),
  (⟨"NestRanges", "free", "()I"⟩, prog_1_method_20_code, 1, some .int, tX_free, 7),
  (⟨"NestRanges", "without", "(I)I"⟩, prog_1_method_21_code, 6, some .int, tX_without, 82),
  (⟨"NestRanges", "nodes", "()I"⟩, prog_1_method_22_code, 1, some .int, tX_nodes, 12),
  (⟨"NestRanges", "node", "(II)I"⟩, prog_1_method_23_code, 3, some .int, tX_node, 118),
  (⟨"NestRanges", "all", "(I)I"⟩, prog_1_method_24_code, 2, some .int, tX_all, 88),
  (⟨"NestRanges", "draw", "(II)I"⟩, prog_1_method_25_code, 9, some .int, tX_draw, 178),
  (⟨"NestRanges", "told", "(I)I"⟩, prog_1_method_26_code, 2, some .int, tX_told, 115),
  (⟨"NestRanges", "digest", "()J"⟩, prog_1_method_27_code, 4, some .long, tX_digest, 131),
  (⟨"NestRanges", "refuseBad", "()I"⟩, prog_1_method_28_code, 1, some .int, tX_refuseBad, 13),
  (⟨"NestRanges", "refuseFull", "()I"⟩, prog_1_method_29_code, 1, some .int, tX_refuseFull, 13),
  (⟨"NestRanges", "settle", "()V"⟩, prog_1_method_30_code, 1, none, tX_settle, 28),
  (⟨"NestRanges", "makeNest", "()V"⟩, prog_1_method_31_code, 1, none, tX_makeNest, 129),
  (⟨"NestRanges", "fewestWithout", "(IZ)I"⟩, prog_1_method_32_code, 3, some .int, tX_fewestWithout, 36),
  (⟨"NestRangesModel", "bad", "()I"⟩, prog_9_method_1_code, 1, some .int, tM_bad, 13),
  (⟨"NestRangesModel", "no", "()I"⟩, prog_9_method_2_code, 1, some .int, tM_no, 13),
  (⟨"NestRangesModel", "full", "()I"⟩, prog_9_method_3_code, 1, some .int, tM_full, 13),
  (⟨"NestRangesModel", "in", "(III)Z"⟩, prog_9_method_4_code, 3, some .boolean, tM_in, 16),
  (⟨"NestRangesModel", "has", "(II)Z"⟩, prog_9_method_5_code, 2, some .boolean, tM_has, 15),
  (⟨"NestRangesModel", "bits", "(I)I"⟩, prog_9_method_6_code, 3, some .int, tM_bits, 26),
  (⟨"NestRangesModel", "begins", "(I)V"⟩, prog_9_method_8_code, 3, none, tM_begins, 36),
  (⟨"NestRangesModel", "isRange", "(I)Z"⟩, prog_9_method_9_code, 2, some .boolean, tM_isRange, 12),
  (⟨"NestRangesModel", "isKind", "(I)Z"⟩, prog_9_method_10_code, 1, some .boolean, tM_isKind, 7),
  (⟨"NestRangesModel", "isFromTo", "(II)Z"⟩, prog_9_method_11_code, 3, some .boolean, tM_isFromTo, 23),
  (⟨"NestRangesModel", "isEmpty", "(I)Z"⟩, prog_9_method_12_code, 2, some .boolean, tM_isEmpty, 21),
  (⟨"NestRangesModel", "coverMany", "(I)I"⟩, prog_9_method_13_code, 4, some .int, tM_coverMany, 48),
  (⟨"NestRangesModel", "isTooMuch", "()Z"⟩, prog_9_method_14_code, 3, some .boolean, tM_isTooMuch, 39),
  (⟨"NestRangesModel", "comes", "(III)V"⟩, prog_9_method_15_code, 4, none, tM_comes, 41),
  (⟨"NestRangesModel", "goes", "(I)V"⟩, prog_9_method_16_code, 3, none, tM_goes, 69),
  (⟨"NestRangesModel", "notes", "()V"⟩, prog_9_method_17_code, 3, none, tM_notes, 184),
  (⟨"NestRangesModel", "takesBack", "()V"⟩, prog_9_method_18_code, 3, none, tM_takesBack, 135),
  (⟨"NestRangesModel", "anew", "(I)I"⟩, prog_9_method_19_code, 3, some .int, tM_anew, 27),
  (⟨"NestRangesModel", "range", "(III)I"⟩, prog_9_method_20_code, 5, some .int, tM_range, 86),
  (⟨"NestRangesModel", "drop", "(I)I"⟩, prog_9_method_21_code, 2, some .int, tM_drop, 27),
  (⟨"NestRangesModel", "moves", "(III)I"⟩, prog_9_method_22_code, 7, some .int, tM_moves, 112),
  (⟨"NestRangesModel", "kind", "(II)I"⟩, prog_9_method_23_code, 4, some .int, tM_kind, 40),
  (⟨"NestRangesModel", "rank", "(II)I"⟩, prog_9_method_24_code, 4, some .int, tM_rank, 41),
  (⟨"NestRangesModel", "puts", "(II)I"⟩, prog_9_method_25_code, 6, some .int, tM_puts, 160),
  (⟨"NestRangesModel", "behind", "(III)I"⟩, prog_9_method_26_code, 3, some .int, tM_behind, 24),
  (⟨"NestRangesModel", "takes", "(II)I"⟩, prog_9_method_27_code, 4, some .int, tM_takes, 93),
  (⟨"NestRangesModel", "hangsOn", "(I)I"⟩, prog_9_method_28_code, 4, some .int, tM_hangsOn, 54),
  (⟨"NestRangesModel", "hangsBy", "(I)I"⟩, prog_9_method_29_code, 5, some .int, tM_hangsBy, 89),
  (⟨"NestRangesModel", "joins", "(I)I"⟩, prog_9_method_30_code, 5, some .int, tM_joins, 133),
  (⟨"NestRangesModel", "undo", "()I"⟩, prog_9_method_31_code, 1, some .int, tM_undo, 21),
  (⟨"NestRangesModel", "sections", "()I"⟩, prog_9_method_32_code, 1, some .int, tM_sections, 18),
  (⟨"NestRangesModel", "comesCut", "(I)V"⟩, prog_9_method_33_code, 4, none, tM_comesCut, 93),
  (⟨"NestRangesModel", "setCuts", "(I)V"⟩, prog_9_method_34_code, 5, none, tM_setCuts, 159),
  (⟨"NestRangesModel", "nextRow", "(I)Z"⟩, prog_9_method_35_code, 8, some .boolean, tM_nextRow, 150),
  (⟨"NestRangesModel", "mayStack", "(IZ)Z"⟩, prog_9_method_36_code, 5, some .boolean, tM_mayStack, 72),
  (⟨"NestRangesModel", "setStacks", "(Z)V"⟩, prog_9_method_37_code, 7, none, tM_setStacks, 157),
  (⟨"NestRangesModel", "rangeAt", "(III)I"⟩, prog_9_method_38_code, 6, some .int, tM_rangeAt, 51),
  (⟨"NestRangesModel", "splitsBy", "(III)I"⟩, prog_9_method_39_code, 7, some .int, tM_splitsBy, 90),
  (⟨"NestRangesModel", "setLeast", "(II)V"⟩, prog_9_method_40_code, 6, none, tM_setLeast, 203),
  (⟨"NestRangesModel", "setNest", "(IZ)I"⟩, prog_9_method_41_code, 9, some .int, tM_setNest, 289),
  (⟨"NestRangesModel", "setThe", "()I"⟩, prog_9_method_42_code, 1, some .int, tM_setThe, 7),
  (⟨"NestRangesModel", "stackAt", "(II)I"⟩, prog_9_method_43_code, 3, some .int, tM_stackAt, 13),
  (⟨"NestRangesModel", "alikeAt", "(I)I"⟩, prog_9_method_44_code, 3, some .int, tM_alikeAt, 41),
  (⟨"NestRangesModel", "least", "()I"⟩, prog_9_method_45_code, 1, some .int, tM_least, 5),
  (⟨"NestRangesModel", "ways", "()I"⟩, prog_9_method_46_code, 5, some .int, tM_ways, 78),
  (⟨"NestRangesModel", "plain", "()I"⟩, prog_9_method_47_code, 3, some .int, tM_plain, 37),
  (⟨"NestRangesModel", "free", "()I"⟩, prog_9_method_48_code, 1, some .int, tM_free, 7),
  (⟨"NestRangesModel", "without", "(I)I"⟩, prog_9_method_49_code, 6, some .int, tM_without, 87),
  (⟨"NestRangesModel", "comesNode", "(IIIII)V"⟩, prog_9_method_50_code, 6, none, tM_comesNode, 63),
  (⟨"NestRangesModel", "comesEmpty", "(I)V"⟩, prog_9_method_51_code, 3, none, tM_comesEmpty, 44),
  (⟨"NestRangesModel", "comesPieces", "(I)V"⟩, prog_9_method_52_code, 7, none, tM_comesPieces, 187),
  (⟨"NestRangesModel", "liesIn", "(I)V"⟩, prog_9_method_53_code, 3, none, tM_liesIn, 103),
  (⟨"NestRangesModel", "setNodes", "()V"⟩, prog_9_method_54_code, 3, none, tM_setNodes, 94),
  (⟨"NestRangesModel", "nodes", "()I"⟩, prog_9_method_55_code, 1, some .int, tM_nodes, 9),
  (⟨"NestRangesModel", "nodeTells", "(II)I"⟩, prog_9_method_56_code, 3, some .int, tM_nodeTells, 67),
  (⟨"NestRangesModel", "node", "(II)I"⟩, prog_9_method_57_code, 3, some .int, tM_node, 41),
  (⟨"NestRangesModel", "all", "(I)I"⟩, prog_9_method_58_code, 7, some .int, tM_all, 156),
  (⟨"NestRangesModel", "piecesOf", "(I)I"⟩, prog_9_method_59_code, 4, some .int, tM_piecesOf, 46),
  (⟨"NestRangesModel", "splits", "(I)I"⟩, prog_9_method_60_code, 7, some .int, tM_splits, 227),
  (⟨"NestRangesModel", "crosses", "(II)Z"⟩, prog_9_method_61_code, 4, some .boolean, tM_crosses, 106),
  (⟨"NestRangesModel", "acrossMany", "(I)I"⟩, prog_9_method_62_code, 4, some .int, tM_acrossMany, 37),
  (⟨"NestRangesModel", "pieces", "(I)I"⟩, prog_9_method_63_code, 2, some .int, tM_pieces, 10),
  (⟨"NestRangesModel", "of", "(II)I"⟩, prog_9_method_64_code, 3, some .int, tM_of, 85),
  (⟨"NestRangesModel", "over", "(I)I"⟩, prog_9_method_65_code, 4, some .int, tM_over, 69),
  (⟨"NestRangesModel", "section", "(II)I"⟩, prog_9_method_66_code, 3, some .int, tM_section, 72),
  (⟨"NestRangesModel", "stack", "(II)I"⟩, prog_9_method_67_code, 3, some .int, tM_stack, 52),
  (⟨"NestRangesModel", "draw", "(II)I"⟩, prog_9_method_68_code, 8, some .int, tM_draw, 166),
  (⟨"NestRangesModel", "tells", "(I)I"⟩, prog_9_method_69_code, 2, some .int, tM_tells, 102),
  (⟨"NestRangesModel", "told", "(I)I"⟩, prog_9_method_70_code, 2, some .int, tM_told, 23),
  (⟨"NestRangesModel", "digest", "()J"⟩, prog_9_method_71_code, 4, some .long, tM_digest, 117)]
end
section
/-! A small machine over the class' own cells. A value is an int, a long, or a reference: its kind and the number of its cell. Cells are numbered as they are made; a memory gives the int (or long) at each place of each cell. References never change: an object's cells lie at fixed distances behind it. -/
abbrev TV : Type := Int32 ⊕ (Int64 ⊕ (Nat × Nat))
abbrev vi (x : Int32) : TV := .inl x
abbrev vl (x : Int64) : TV := .inr (.inl x)
abbrev rf (τ id : Nat) : TV := .inr (.inr (τ, id))
abbrev un : TV := .inr (.inr (0, 0))
abbrev Mem : Type := (Nat → Nat → Int32) × (Nat → Nat → Int64)
def upI (μ : Mem) (a k : Nat) (v : Int32) : Mem := (fun b j => if b = a ∧ j = k then v else μ.1 b j, μ.2)
def upL (μ : Mem) (a k : Nat) (v : Int64) : Mem := (μ.1, fun b j => if b = a ∧ j = k then v else μ.2 b j)
def mI (n : Nat) : Int32 := Int32.ofInt (.negSucc n)
def cI : Int → Int32
  | .ofNat n => nI n
  | .negSucc n => mI n
def cL : Int → Int64
  | .ofNat n => lN n
  | .negSucc n => Int64.ofInt (.negSucc n)
theorem cI_eq (a : Int) : Int32.ofInt a = cI a := by
  cases a with
  | ofNat n => exact (Int32.ofInt_eq_ofNat).trans rfl
  | negSucc n => rfl
def lk1 : List INS → Nat → INS
  | [], _ => nO
  | x :: _, 0 => x
  | _ :: l, n + 1 => lk1 l n
def lk0 : List (List INS) → Nat → List INS
  | [], _ => []
  | x :: _, 0 => x
  | _ :: l, n + 1 => lk0 l n
def lk (t : List (List INS)) (pc : Nat) : INS := lk1 (lk0 t (pc / 16)) (pc % 16)
def fkt (ci k : Nat) : Nat × Nat := (clsF.getD ci []).getD k (0, 0)
def mdA (M : Nat) : MDT := mdL.getD M (⟨"", "", ""⟩, ⟨#[]⟩, 0, none, [], 0)
abbrev mNm (M : Nat) : MethodName := (mdA M).1
abbrev mBy (M : Nat) : ByteArray := (mdA M).2.1
abbrev mMx (M : Nat) : Nat := (mdA M).2.2.1
abbrev mRt (M : Nat) : Option FieldType := (mdA M).2.2.2.1
abbrev mTb (M : Nat) : List (List INS) := (mdA M).2.2.2.2.1
/-- the locals with one more written: a long that reaches into the place is forgotten -/
def isL : TV → Bool
  | .inr (.inl _) => true
  | _ => false
def sto (ls : List TV) (i : Nat) (v : TV) : List TV :=
  match i with
  | 0 => ls.set 0 v
  | j + 1 => (match ls[j]? with | some w => if isL w then ls.set j un else ls | none => ls).set (j + 1) v
def ibin : Nat → Int32 → Int32 → Int32
  | 0, x, y => x + y
  | 1, x, y => x - y
  | 2, x, y => x * y
  | 3, x, y => x &&& y
  | 4, x, y => x ||| y
  | 5, x, y => x ^^^ y
  | 6, x, y => x <<< (y &&& 31)
  | 7, x, y => x >>> (y &&& 31)
  | _, x, y => (x.toUInt32 >>> (y.toUInt32 &&& Int32.toUInt32 31)).toInt32
def lbin : Nat → Int64 → Int64 → Int64
  | 0, x, y => x + y
  | 1, x, y => x - y
  | _, x, y => x * y
def tcat : TV → Nat
  | .inr (.inl _) => 2
  | _ => 1
/-- the frame's place goes on: to where, with which locals, stack, memory -/
abbrev KT : Type := Nat → List TV → List TV → Mem → Prop
/-- a call's contract, by its method's number -/
abbrev PT : Type := Option TV → Mem → Prop
abbrev CT : Type := Nat → List TV → Mem → PT → Prop
def s_load (want : TV → Bool) (pc k len : Nat) (ls st : List TV) (μ : Mem) (K : KT) : Prop :=
  match ls[k]? with
  | some v => match want v with
    | true => K (pc + len) ls (v :: st) μ
    | false => False
  | none => False
def wI : TV → Bool
  | .inl _ => true
  | _ => false
def wA : TV → Bool
  | .inr (.inr (0, _)) => false
  | .inr (.inr (_ + 1, _)) => true
  | _ => false
def s_store (want : TV → Bool) (pc k len : Nat) (ls st : List TV) (μ : Mem) (K : KT) : Prop :=
  match st with
  | v :: st => match want v with
    | true => K (pc + len) (sto ls k v) st μ
    | false => False
  | [] => False
def s_lstore (pc k len : Nat) (ls st : List TV) (μ : Mem) (K : KT) : Prop :=
  match st with
  | .inr (.inl x) :: st => K (pc + len) ((sto ls k (vl x)).set (k + 1) un) st μ
  | _ => False
def s_iinc (a : Int) (pc k : Nat) (ls st : List TV) (μ : Mem) (K : KT) : Prop :=
  match ls[k]? with
  | some (.inl x) => K (pc + 3) (sto ls k (vi (x + cI a))) st μ
  | _ => False
def s_ibin (b pc : Nat) (ls st : List TV) (μ : Mem) (K : KT) : Prop :=
  match st with
  | .inl y :: .inl x :: st => K (pc + 1) ls (vi (ibin b x y) :: st) μ
  | _ => False
def s_idr (b pc : Nat) (ls st : List TV) (μ : Mem) (K : KT) : Prop :=
  match st with
  | .inl y :: .inl x :: st => ¬ y = 0 ∧ K (pc + 1) ls (vi (match b with | 0 => x / y | _ => x - x / y * y) :: st) μ
  | _ => False
def s_lbin (b pc : Nat) (ls st : List TV) (μ : Mem) (K : KT) : Prop :=
  match st with
  | .inr (.inl y) :: .inr (.inl x) :: st => K (pc + 1) ls (vl (lbin b x y) :: st) μ
  | _ => False
def s_ldr (b pc : Nat) (ls st : List TV) (μ : Mem) (K : KT) : Prop :=
  match st with
  | .inr (.inl y) :: .inr (.inl x) :: st => ¬ y = 0 ∧ K (pc + 1) ls (vl (match b with | 0 => x / y | _ => x - x / y * y) :: st) μ
  | _ => False
def s_i2l (pc : Nat) (ls st : List TV) (μ : Mem) (K : KT) : Prop :=
  match st with
  | .inl x :: st => K (pc + 1) ls (vl x.toInt64 :: st) μ
  | _ => False
def s_l2i (pc : Nat) (ls st : List TV) (μ : Mem) (K : KT) : Prop :=
  match st with
  | .inr (.inl x) :: st => K (pc + 1) ls (vi x.toInt32 :: st) μ
  | _ => False
def s_lcmp (pc : Nat) (ls st : List TV) (μ : Mem) (K : KT) : Prop :=
  match st with
  | .inr (.inl y) :: .inr (.inl x) :: st => K (pc + 1) ls (vi (lg_cmp x y) :: st) μ
  | _ => False
def s_dup (pc : Nat) (ls st : List TV) (μ : Mem) (K : KT) : Prop :=
  match st with
  | v :: st => match isL v with
    | true => False
    | false => K (pc + 1) ls (v :: v :: st) μ
  | _ => False
def s_dup2 (pc : Nat) (ls st : List TV) (μ : Mem) (K : KT) : Prop :=
  match st with
  | v :: w :: st => match isL v || isL w with
    | true => False
    | false => K (pc + 1) ls (v :: w :: v :: w :: st) μ
  | _ => False
def s_pop (pc : Nat) (ls st : List TV) (μ : Mem) (K : KT) : Prop :=
  match st with
  | v :: st => match isL v with
    | true => False
    | false => K (pc + 1) ls st μ
  | _ => False
def s_br (c : Nat) (x y : Int32) (kt kf : Prop) : Prop :=
  match c with
  | 0 => (x = y → kt) ∧ (¬ x = y → kf)
  | 1 => (¬ x = y → kt) ∧ (x = y → kf)
  | 2 => (x < y → kt) ∧ (¬ x < y → kf)
  | 3 => (y ≤ x → kt) ∧ (¬ y ≤ x → kf)
  | 4 => (y < x → kt) ∧ (¬ y < x → kf)
  | 5 => (x ≤ y → kt) ∧ (¬ x ≤ y → kf)
  | _ => False
def s_if (c tgt pc : Nat) (ls st : List TV) (μ : Mem) (K : KT) : Prop :=
  match st with
  | .inl x :: st => s_br c x 0 (K tgt ls st μ) (K (pc + 3) ls st μ)
  | _ => False
def s_icmp (c tgt pc : Nat) (ls st : List TV) (μ : Mem) (K : KT) : Prop :=
  match st with
  | .inl y :: .inl x :: st => s_br c x y (K tgt ls st μ) (K (pc + 3) ls st μ)
  | _ => False
def s_sw (x : Int32) (dflt : Prop) (K : Nat → Prop) : Int → List Nat → Prop
  | _, [] => dflt
  | lo, t :: ts => (x = cI lo → K t) ∧ (¬ x = cI lo → s_sw x dflt K (lo + 1) ts)
def s_switch (lo : Int) (dflt : Nat) (ts : List Nat) (ls st : List TV) (μ : Mem) (K : KT) : Prop :=
  match st with
  | .inl x :: st => s_sw x (K dflt ls st μ) (fun t => K t ls st μ) lo ts
  | _ => False
def s_get (ci k pc : Nat) (ls st : List TV) (μ : Mem) (K : KT) : Prop :=
  match st with
  | .inr (.inr (τ, id)) :: st => match τ == ci + 10, fkt ci k with
    | true, (0, _) => K (pc + 3) ls (vi (μ.1 id k) :: st) μ
    | true, (1, _) => K (pc + 3) ls (vi (μ.1 id k) :: st) μ
    | true, (t + 2, off) => K (pc + 3) ls (rf (t + 2) (id + off) :: st) μ
    | false, _ => False
  | _ => False
def s_put (ci k pc : Nat) (ls st : List TV) (μ : Mem) (K : KT) : Prop :=
  match st with
  | .inl v :: .inr (.inr (τ, id)) :: st => match τ == ci + 10, fkt ci k with
    | true, (0, _) => K (pc + 3) ls st (upI μ id k v)
    | true, (1, _) => (v = 0 ∨ v = 1) ∧ K (pc + 3) ls st (upI μ id k v)
    | _, _ => False
  | _ => False
def isIA (τ : Nat) : Bool := Nat.ble 10000 τ && Nat.ble τ 19999
def isLA (τ : Nat) : Bool := Nat.ble 20000 τ
def s_iald (pc : Nat) (ls st : List TV) (μ : Mem) (K : KT) : Prop :=
  match st with
  | .inl i :: .inr (.inr (τ, id)) :: st => match isIA τ with
    | true => vp_in i (τ - 10000) ∧ K (pc + 1) ls (vi (μ.1 id i.toNatClampNeg) :: st) μ
    | false => False
  | _ => False
def s_iast (pc : Nat) (ls st : List TV) (μ : Mem) (K : KT) : Prop :=
  match st with
  | .inl v :: .inl i :: .inr (.inr (τ, id)) :: st => match isIA τ with
    | true => vp_in i (τ - 10000) ∧ K (pc + 1) ls st (upI μ id i.toNatClampNeg v)
    | false => False
  | _ => False
def s_lald (pc : Nat) (ls st : List TV) (μ : Mem) (K : KT) : Prop :=
  match st with
  | .inl i :: .inr (.inr (τ, id)) :: st => match isLA τ with
    | true => vp_in i (τ - 20000) ∧ K (pc + 1) ls (vl (μ.2 id i.toNatClampNeg) :: st) μ
    | false => False
  | _ => False
def s_last (pc : Nat) (ls st : List TV) (μ : Mem) (K : KT) : Prop :=
  match st with
  | .inr (.inl v) :: .inl i :: .inr (.inr (τ, id)) :: st => match isLA τ with
    | true => vp_in i (τ - 20000) ∧ K (pc + 1) ls st (upL μ id i.toNatClampNeg v)
    | false => False
  | _ => False
/-- arrays of references: how many, the kind of each, how far apart -/
def rarr (τ : Nat) : Option (Nat × Nat × Nat) := match τ with
  | 30 => some (12, 13, 5)
  | 31 => some (15, 10120, 1)
  | 32 => some (2, 10120, 1)
  | _ => none
def s_aald (pc : Nat) (ls st : List TV) (μ : Mem) (K : KT) : Prop :=
  match st with
  | .inl i :: .inr (.inr (τ, id)) :: st => match rarr τ with
    | some (n, t, g) => vp_in i n ∧ K (pc + 1) ls (rf t (id + 1 + g * i.toNatClampNeg) :: st) μ
    | none => False
  | _ => False
def s_alen (pc : Nat) (ls st : List TV) (μ : Mem) (K : KT) : Prop :=
  match st with
  | .inr (.inr (τ, _)) :: st => match isIA τ with
    | true => K (pc + 1) ls (vi (nI (τ - 10000)) :: st) μ
    | false => False
  | _ => False
def s_iret (z : Nat) (st : List TV) (μ : Mem) (P : PT) : Prop :=
  match st with
  | [.inl v] => match z with
    | 0 => P (some (vi v)) μ
    | _ => (v = 0 ∨ v = 1) ∧ P (some (vi v)) μ
  | _ => False
def s_lret (st : List TV) (μ : Mem) (P : PT) : Prop :=
  match st with
  | [.inr (.inl v)] => P (some (vl v)) μ
  | _ => False
def s_ret (st : List TV) (μ : Mem) (P : PT) : Prop :=
  match st with
  | [] => P none μ
  | _ => False
def s_call (C : CT) (M n rk pc : Nat) (ls st : List TV) (μ : Mem) (K : KT) : Prop :=
  match Nat.ble n st.length && Nat.ble ((st.drop n).map tcat).sum 8 with
  | false => False
  | true => match rk with
    | 0 => ∃ P : PT, C M (st.take n).reverse μ P ∧ ∀ μ1 : Mem, P none μ1 → K (pc + 3) ls (st.drop n) μ1
    | 1 => ∃ P : PT, C M (st.take n).reverse μ P ∧ ∀ (x : Int32) (μ1 : Mem), P (some (vi x)) μ1 → K (pc + 3) ls (vi x :: st.drop n) μ1
    | _ => ∃ P : PT, C M (st.take n).reverse μ P ∧ ∀ (x : Int64) (μ1 : Mem), P (some (vl x)) μ1 → K (pc + 3) ls (vl x :: st.drop n) μ1
def s_callV (C : CT) (M n rk ci pc : Nat) (ls st : List TV) (μ : Mem) (K : KT) : Prop :=
  match st[n]? with
  | some (.inr (.inr (τ, _))) => match τ == ci + 10 with
    | true => s_call C M (n + 1) rk pc ls st μ K
    | false => False
  | _ => False
def s_math (b pc : Nat) (ls st : List TV) (μ : Mem) (K : KT) : Prop :=
  match st with
  | .inl y :: .inl x :: st => match Nat.ble ((st.map tcat).sum) 8 with
    | true => K (pc + 3) ls (vi (match b with | 0 => if x < y then y else x | _ => if y < x then y else x) :: st) μ
    | false => False
  | _ => False
def ln12 (v : Nat) : Nat := match v with | 0 => 1 | _ => 2
/-- one instruction -/
def stpE (C : CT) (e : INS) (P : PT) (pc : Nat) (ls st : List TV) (μ : Mem) (K : KT) : Prop :=
  match e with
  | (0, a, [len, _, _, _]) => K (pc + len) ls (vi (cI a) :: st) μ
  | (1, a, [len, _, _, _]) => K (pc + len) ls (vl (cL a) :: st) μ
  | (2, _, [k, v]) => s_load wI pc k (ln12 v) ls st μ K
  | (3, _, [k, v]) => s_load isL pc k (ln12 v) ls st μ K
  | (4, _, [k, v]) => s_load wA pc k (ln12 v) ls st μ K
  | (5, _, [k, v]) => s_store wI pc k (ln12 v) ls st μ K
  | (6, _, [k, v]) => s_lstore pc k (ln12 v) ls st μ K
  | (7, _, [k, v]) => s_store wA pc k (ln12 v) ls st μ K
  | (8, a, [k]) => s_iinc a pc k ls st μ K
  | (9, _, [b]) => s_ibin b pc ls st μ K
  | (10, _, [b]) => s_idr b pc ls st μ K
  | (11, _, [b]) => s_lbin b pc ls st μ K
  | (12, _, [b]) => s_ldr b pc ls st μ K
  | (13, _, _) => s_i2l pc ls st μ K
  | (14, _, _) => s_l2i pc ls st μ K
  | (15, _, _) => s_lcmp pc ls st μ K
  | (16, _, _) => s_dup pc ls st μ K
  | (17, _, _) => s_dup2 pc ls st μ K
  | (18, _, _) => s_pop pc ls st μ K
  | (19, _, [t]) => K t ls st μ
  | (20, _, [c, t]) => s_if c t pc ls st μ K
  | (21, _, [c, t]) => s_icmp c t pc ls st μ K
  | (22, lo, _ :: d :: ts) => s_switch lo d ts ls st μ K
  | (23, _, [_, ci, k, _]) => s_get ci k pc ls st μ K
  | (24, _, [_, ci, k, _]) => s_put ci k pc ls st μ K
  | (25, _, _) => s_iald pc ls st μ K
  | (26, _, _) => s_iast pc ls st μ K
  | (27, _, _) => s_lald pc ls st μ K
  | (28, _, _) => s_last pc ls st μ K
  | (29, _, _) => s_aald pc ls st μ K
  | (30, _, _) => s_alen pc ls st μ K
  | (31, _, [z]) => s_iret z st μ P
  | (32, _, _) => s_lret st μ P
  | (33, _, _) => s_ret st μ P
  | (34, _, [_, M, n, rk, ci, _, _, _, _, _]) => s_callV C M n rk ci pc ls st μ K
  | (35, _, [_, M, n, rk, _, _, _, _, _, _]) => s_call C M n rk pc ls st μ K
  | (36, _, _ :: b :: _) => s_math b pc ls st μ K
  | _ => False
end
section
/-! the small machine's memory as cells of the heap -/
def cv (adr : Nat → Nat) : TV → Value
  | .inl x => .int x
  | .inr (.inl x) => .long x
  | .inr (.inr (_, id)) => .ref (adr id)
def kn : TV → Bool
  | .inr (.inr (0, _)) => false
  | _ => true
def prs (adr : Nat → Nat) : Nat → List TV → List (Nat × Value)
  | _, [] => []
  | i, v :: l => match kn v with
    | true => (i, cv adr v) :: prs adr (i + 1) l
    | false => prs adr (i + 1) l
theorem prs_mem {adr : Nat → Nat} {q : Nat × Value} : ∀ {ls : List TV} {i : Nat}, q ∈ prs adr i ls ↔ ∃ (k : Nat) (w : TV), ls[k]? = some w ∧ kn w = true ∧ q = (i + k, cv adr w)
  | [], i => by simp [prs]
  | v :: l, i => by
    have ih := prs_mem (adr := adr) (q := q) (ls := l) (i := i + 1)
    constructor
    · intro h
      cases hv : kn v with
      | true =>
        simp only [prs, hv] at h
        rcases List.mem_cons.mp h with h | h
        · exact ⟨0, v, rfl, hv, by simpa using h⟩
        · obtain ⟨k, w, h1, h2, h3⟩ := ih.mp h
          exact ⟨k + 1, w, by simpa using h1, h2, by rw [h3]; congr 1; omega⟩
      | false =>
        simp only [prs, hv] at h
        obtain ⟨k, w, h1, h2, h3⟩ := ih.mp h
        exact ⟨k + 1, w, by simpa using h1, h2, by rw [h3]; congr 1; omega⟩
    · rintro ⟨k, w, h1, h2, h3⟩
      cases k with
      | zero =>
        simp at h1
        subst h1
        simp only [prs, h2]
        exact List.mem_cons.mpr (Or.inl (by simpa using h3))
      | succ k =>
        have h4 : q ∈ prs adr (i + 1) l := ih.mpr ⟨k, w, by simpa using h1, h2, by rw [h3]; congr 1; omega⟩
        cases hv : kn v with
        | true => simp only [prs, hv]; exact List.mem_cons_of_mem _ h4
        | false => simp only [prs, hv]; exact h4
def LH (adr : Nat → Nat) (la : Array Slot) (nL : Nat) (ls : List TV) : Prop := lv_has la nL (prs adr 0 ls) ∧ ls.length = nL
theorem LH.get {adr : Nat → Nat} {la : Array Slot} {nL : Nat} {ls : List TV} (h : LH adr la nL ls) {k : Nat} {v : TV} (hk : ls[k]? = some v) (hv : kn v = true) : la[k]? = some (.val (cv adr v)) :=
  h.1.2.2 (k, cv adr v) (prs_mem.mpr ⟨k, v, hk, hv, by simp⟩)
theorem cv_cat (adr : Nat → Nat) (v : TV) : (cv adr v).category = tcat v := by
  rcases v with x | x | x <;> rfl
theorem isL_cat {v : TV} : isL v = true ↔ tcat v = 2 := by
  rcases v with x | x | x <;> simp [isL, tcat]
theorem sto_len (ls : List TV) (i : Nat) (v : TV) : (sto ls i v).length = ls.length := by
  unfold sto
  split
  · simp
  · split
    · split <;> simp
    · simp
theorem sto_get {ls : List TV} {i j : Nat} {v u : TV} (h : (sto ls i v)[j]? = some u) (hu : kn u = true) : (j = i ∧ u = v) ∨ (j ≠ i ∧ ls[j]? = some u ∧ ¬ (j + 1 = i ∧ isL u = true)) := by
  cases i with
  | zero =>
    simp only [sto] at h
    by_cases hj : j = 0
    · subst hj
      rw [List.getElem?_set] at h
      simp at h
      exact Or.inl ⟨rfl, by rw [← h.2]⟩
    · rw [List.getElem?_set_ne (Ne.symm hj)] at h
      exact Or.inr ⟨hj, h, fun q => by omega⟩
  | succ i =>
    simp only [sto] at h
    by_cases hj : j = i + 1
    · subst hj
      rw [List.getElem?_set] at h
      simp at h
      exact Or.inl ⟨rfl, by rw [← h.2]⟩
    · rw [List.getElem?_set_ne (Ne.symm hj)] at h
      refine Or.inr ⟨hj, ?_⟩
      cases hw : ls[i]? with
      | none =>
        rw [hw] at h
        refine ⟨h, fun q => ?_⟩
        have e : j = i := by omega
        subst e
        rw [hw] at h
        cases h
      | some w =>
        rw [hw] at h
        cases hL : isL w with
        | false =>
          simp only [hL] at h
          refine ⟨h, fun q => ?_⟩
          have e : j = i := by omega
          subst e
          have e2 : w = u := by
            have := hw.symm.trans h
            exact Option.some.inj this
          subst e2
          rw [hL] at q
          exact absurd q.2 (by simp)
        | true =>
          simp only [hL, if_true] at h
          by_cases e : j = i
          · subst e
            rw [List.getElem?_set] at h
            simp at h
            obtain ⟨-, h⟩ := h
            subst h
            simp [kn] at hu
          · rw [List.getElem?_set_ne (Ne.symm e)] at h
            exact ⟨h, fun q => e (by omega)⟩
theorem LH.set {adr : Nat → Nat} {la la' : Array Slot} {nL i : Nat} {ls : List TV} {v : TV} (h : LH adr la nL ls) (h' : lv_has la' nL ((i, cv adr v) :: (prs adr 0 ls).filter (fun q => !(q.1 == i) && !(q.1 + 1 == i && q.2.category == 2)))) : LH adr la' nL (sto ls i v) := by
  refine ⟨⟨h'.1, h'.2.1, fun q hq => ?_⟩, by rw [sto_len]; exact h.2⟩
  obtain ⟨k, w, h1, h2, rfl⟩ := prs_mem.mp hq
  rw [Nat.zero_add]
  refine h'.2.2 (k, cv adr w) ?_
  rcases sto_get h1 h2 with ⟨e1, e2⟩ | ⟨e1, e2, e3⟩
  · subst e1; subst e2; exact List.mem_cons_self
  · refine List.mem_cons_of_mem _ (List.mem_filter.mpr ⟨prs_mem.mpr ⟨k, w, e2, h2, by simp⟩, ?_⟩)
    rw [cv_cat]
    have e4 : ¬ (k + 1 = i ∧ tcat w = 2) := fun q => e3 ⟨q.1, isL_cat.mpr q.2⟩
    by_cases a : k + 1 = i
    · have b : ¬ tcat w = 2 := fun q => e4 ⟨a, q⟩
      simp [e1, b]
    · simp [e1, a]
theorem LH.setL {adr : Nat → Nat} {la la' : Array Slot} {nL i : Nat} {ls : List TV} {v : TV} (h : LH adr la nL ls) (h' : lv_has la' nL ((i, cv adr v) :: (prs adr 0 ls).filter (fun q => !(q.1 == i) && (!(q.1 == i + 1) && !(q.1 + 1 == i && q.2.category == 2))))) : LH adr la' nL ((sto ls i v).set (i + 1) un) := by
  refine ⟨⟨h'.1, h'.2.1, fun q hq => ?_⟩, by rw [List.length_set, sto_len]; exact h.2⟩
  obtain ⟨k, w, h1, h2, rfl⟩ := prs_mem.mp hq
  rw [Nat.zero_add]
  refine h'.2.2 (k, cv adr w) ?_
  have hk : ¬ k = i + 1 := fun e => by
    subst e
    rw [List.getElem?_set] at h1
    simp at h1
    obtain ⟨-, h1⟩ := h1
    subst h1
    simp [kn] at h2
  rw [List.getElem?_set_ne (fun e => hk e.symm)] at h1
  rcases sto_get h1 h2 with ⟨e1, e2⟩ | ⟨e1, e2, e3⟩
  · subst e1; subst e2; exact List.mem_cons_self
  · refine List.mem_cons_of_mem _ (List.mem_filter.mpr ⟨prs_mem.mpr ⟨k, w, e2, h2, by simp⟩, ?_⟩)
    rw [cv_cat]
    have e4 : ¬ (k + 1 = i ∧ tcat w = 2) := fun q => e3 ⟨q.1, isL_cat.mpr q.2⟩
    by_cases a : k + 1 = i
    · have b : ¬ tcat w = 2 := fun q => e4 ⟨a, q⟩
      simp [e1, b, hk]
    · simp [e1, a, hk]
/-! kinds -/
def knd (lay : List Nat) (id : Nat) : Nat := lay.getD id 0
def kOK (lay : List Nat) : TV → Prop
  | .inr (.inr (τ, id)) => τ = 0 ∨ knd lay id = τ
  | _ => True
theorem sto_in {ls : List TV} {i : Nat} {v u : TV} (h : u ∈ sto ls i v) : u = v ∨ u = un ∨ u ∈ ls := by
  unfold sto at h
  split at h
  · rcases List.mem_or_eq_of_mem_set h with h | h
    · exact Or.inr (Or.inr h)
    · exact Or.inl h
  · rcases List.mem_or_eq_of_mem_set h with h | h
    · split at h
      · split at h
        · rcases List.mem_or_eq_of_mem_set h with h | h
          · exact Or.inr (Or.inr h)
          · exact Or.inr (Or.inl h)
        · exact Or.inr (Or.inr h)
      · exact Or.inr (Or.inr h)
    · exact Or.inl h
theorem kOK_un (lay : List Nat) : kOK lay un := Or.inl rfl
theorem kOK_sto {lay : List Nat} {ls : List TV} {i : Nat} {v : TV} (h : ∀ u ∈ ls, kOK lay u) (hv : kOK lay v) : ∀ u ∈ sto ls i v, kOK lay u := by
  intro u hu
  rcases sto_in hu with e | e | e
  · rw [e]; exact hv
  · rw [e]; exact kOK_un lay
  · exact h u e
theorem kOK_lt {lay : List Nat} {id τ : Nat} (h : knd lay id = τ) (h0 : τ ≠ 0) : id < lay.length := by
  rcases Nat.lt_or_ge id lay.length with q | q
  · exact q
  · exfalso
    apply h0
    rw [← h, knd, List.getD, List.getElem?_eq_none q]
    rfl
/-! the world -/
def fval (adr : Nat → Nat) (μ : Mem) (id ci k : Nat) : Value := if (fkt ci k).1 < 2 then .int (μ.1 id k) else .ref (adr (id + (fkt ci k).2))
def nfl (ci : Nat) : Nat := (clsF.getD ci []).length
def cellE (adr : Nat → Nat) (cA : Nat → ClassId) (μ : Mem) (τ id : Nat) : va_E :=
  match rarr τ with
  | some (n, _, g) => .inl (cA id, (n, .inr (.inr (.inr (.inr (fun j => if j < n then some (adr (id + 1 + g * j)) else none))))))
  | none => if τ < 20 then .inr (τ - 10, (List.range (nfl (τ - 10))).map (fval adr μ id (τ - 10)))
    else if τ < 20000 then .inl (cA id, (τ - 10000, .inl (μ.1 id)))
    else .inl (cA id, (τ - 20000, .inr (.inl (μ.2 id))))
def aty (τ : Nat) : FieldType := if τ = 30 then .object "NestRanges$Text" else if τ < 33 then .array .int else if τ < 20000 then .int else .long
def wld (lay : List Nat) (adr : Nat → Nat) (cA : Nat → ClassId) (μ : Mem) : va_W := (List.range lay.length).map fun id => (adr id, cellE adr cA μ (knd lay id) id)
def tysL (lay : List Nat) (cA : Nat → ClassId) : List (ClassId × FieldType) := ((List.range lay.length).filter (fun id => Nat.ble 20 (knd lay id))).map fun id => (cA id, aty (knd lay id))
def Aset (lay : List Nat) (adr : Nat → Nat) (sz : Nat) : Nat → Prop := fun q => (∃ id, id < lay.length ∧ q = adr id) ∨ sz ≤ q
def injA (lay : List Nat) (adr : Nat → Nat) : Prop := ∀ i j, i < lay.length → j < lay.length → adr i = adr j → i = j
theorem wld_get {lay : List Nat} {adr : Nat → Nat} {cA : Nat → ClassId} {μ : Mem} {id τ : Nat} (h : knd lay id = τ) (h0 : τ ≠ 0) : (wld lay adr cA μ)[id]? = some (adr id, cellE adr cA μ τ id) := by
  have hl := kOK_lt h h0
  unfold wld
  rw [List.getElem?_map, List.getElem?_range hl, ← h]
  rfl
theorem wld_at {lay : List Nat} {adr : Nat → Nat} {cA : Nat → ClassId} {μ : Mem} {k : Nat} {q : Nat × va_E} (h : (wld lay adr cA μ)[k]? = some q) : k < lay.length ∧ q = (adr k, cellE adr cA μ (knd lay k) k) := by
  unfold wld at h
  have hl : k < lay.length := by
    have := (List.getElem?_eq_some_iff.mp h).1
    simpa using this
  rw [List.getElem?_map, List.getElem?_range hl] at h
  exact ⟨hl, (Option.some.inj h).symm⟩
theorem wld_D {lay : List Nat} {adr : Nat → Nat} {cA : Nat → ClassId} {μ : Mem} {sz : Nat} (hi : injA lay adr) : va_D (Aset lay adr sz) (wld lay adr cA μ) := by
  refine ⟨fun i j p q hp hq e => ?_, fun k q hq => ?_⟩
  · obtain ⟨l1, e1⟩ := wld_at hp
    obtain ⟨l2, e2⟩ := wld_at hq
    rw [e1, e2] at e
    exact hi i j l1 l2 e
  · obtain ⟨l1, e1⟩ := wld_at hq
    exact Or.inl ⟨k, l1, by rw [e1]⟩
theorem tys_get {lay : List Nat} {cA : Nat → ClassId} {id τ : Nat} (h : knd lay id = τ) (h0 : 20 ≤ τ) : ∃ t0 : Nat, (tysL lay cA)[t0]? = some (cA id, aty τ) := by
  have hl := kOK_lt h (by omega)
  refine List.getElem?_of_mem ?_
  unfold tysL
  refine List.mem_map.mpr ⟨id, List.mem_filter.mpr ⟨List.mem_range.mpr hl, ?_⟩, by rw [h]⟩
  rw [h]
  exact Nat.ble_eq_true_of_le h0
theorem wld_ext {lay : List Nat} {adr : Nat → Nat} {cA : Nat → ClassId} {μ μ1 : Mem} {id τ : Nat} {e : va_E} (h : knd lay id = τ) (h0 : τ ≠ 0) (he : e = cellE adr cA μ1 τ id) (ho : ∀ b : Nat, b ≠ id → ∀ t, cellE adr cA μ1 t b = cellE adr cA μ t b) : (wld lay adr cA μ).set id (adr id, e) = wld lay adr cA μ1 := by
  have hl := kOK_lt h h0
  refine List.ext_getElem? (fun k => ?_)
  by_cases hk : k = id
  · subst hk
    rw [List.getElem?_set_self (by unfold wld; simpa using hl), wld_get h h0, he]
  · rw [List.getElem?_set_ne (Ne.symm hk)]
    unfold wld
    rw [List.getElem?_map, List.getElem?_map]
    cases hr : (List.range lay.length)[k]? with
    | none => rfl
    | some b =>
      have hb : b = k := by
        have hkl : k < lay.length := by
          have := (List.getElem?_eq_some_iff.mp hr).1
          simpa using this
        rw [List.getElem?_range hkl] at hr
        exact (Option.some.inj hr).symm
      subst hb
      simp only [Option.map_some]
      rw [ho b hk]
theorem upI_ne {μ : Mem} {a k b : Nat} {v : Int32} (h : b ≠ a) : (upI μ a k v).1 b = μ.1 b := by
  funext j
  simp [upI, h]
theorem upI_self {μ : Mem} {a k : Nat} {v : Int32} : (upI μ a k v).1 a = upd (μ.1 a) k v := by
  funext j
  simp [upI, upd]
theorem upL_ne {μ : Mem} {a k b : Nat} {v : Int64} (h : b ≠ a) : (upL μ a k v).2 b = μ.2 b := by
  funext j
  simp [upL, h]
theorem upL_self {μ : Mem} {a k : Nat} {v : Int64} : (upL μ a k v).2 a = vp_updL (μ.2 a) k v := by
  funext j
  simp [upL, vp_updL]
theorem cellE_cong {adr : Nat → Nat} {cA : Nat → ClassId} {μ μ1 : Mem} {b : Nat} (h1 : μ1.1 b = μ.1 b) (h2 : μ1.2 b = μ.2 b) (t : Nat) : cellE adr cA μ1 t b = cellE adr cA μ t b := by
  unfold cellE fval
  rw [h1, h2]
/-- a layout in which every reference finds its kind -/
def wfB (lay : List Nat) : Bool := (List.range lay.length).all fun id =>
  (match rarr (knd lay id) with
    | some (n, t, g) => (List.range n).all fun j => knd lay (id + 1 + g * j) == t
    | none => (if knd lay id < 20 then Nat.ble 10 (knd lay id) && Nat.ble (knd lay id) 16 && (List.range (nfl (knd lay id - 10))).all fun k => Nat.ble (fkt (knd lay id - 10) k).1 1 || knd lay (id + (fkt (knd lay id - 10) k).2) == (fkt (knd lay id - 10) k).1
      else Nat.ble 10000 (knd lay id) && Nat.ble (knd lay id) 29999))
theorem wfX : wfB layX = true := by decide +kernel
theorem wfM : wfB layM = true := by decide +kernel
theorem wf_at {lay : List Nat} (h : wfB lay = true) {id τ : Nat} (hk : knd lay id = τ) (h0 : τ ≠ 0) :
  (match rarr τ with
    | some (n, t, g) => (List.range n).all fun j => knd lay (id + 1 + g * j) == t
    | none => (if τ < 20 then Nat.ble 10 τ && Nat.ble τ 16 && (List.range (nfl (τ - 10))).all fun k => Nat.ble (fkt (τ - 10) k).1 1 || knd lay (id + (fkt (τ - 10) k).2) == (fkt (τ - 10) k).1
      else Nat.ble 10000 τ && Nat.ble τ 29999)) = true := by
  have hl := kOK_lt hk h0
  have := List.all_eq_true.mp h id (List.mem_range.mpr hl)
  rw [hk] at this
  exact this
theorem wf_obj {lay : List Nat} (h : wfB lay = true) {id ci : Nat} (hk : knd lay id = ci + 10) (hc : ci < 7) {k t off : Nat} (hk2 : k < nfl ci) (hf : fkt ci k = (t + 2, off)) : knd lay (id + off) = t + 2 := by
  have := wf_at h hk (by omega)
  have hr : rarr (ci + 10) = none := by
    rcases (show ci = 0 ∨ ci = 1 ∨ ci = 2 ∨ ci = 3 ∨ ci = 4 ∨ ci = 5 ∨ ci = 6 by omega) with e | e | e | e | e | e | e <;> subst e <;> rfl
  rw [hr] at this
  simp only [show ci + 10 < 20 by omega, if_true, Nat.add_sub_cancel, Bool.and_eq_true] at this
  have h2 := List.all_eq_true.mp this.2 k (List.mem_range.mpr hk2)
  rw [hf] at h2
  have h3 : Nat.ble (t + 2) 1 = false := by
    cases hb : Nat.ble (t + 2) 1 with
    | false => rfl
    | true => exact absurd (Nat.le_of_ble_eq_true hb) (by omega)
  simp only [h3, Bool.false_or, beq_iff_eq] at h2
  exact h2
theorem wf_arr {lay : List Nat} (h : wfB lay = true) {id τ n t g j : Nat} (hk : knd lay id = τ) (h0 : τ ≠ 0) (hr : rarr τ = some (n, t, g)) (hj : j < n) : knd lay (id + 1 + g * j) = t := by
  have := wf_at h hk h0
  rw [hr] at this
  simpa using List.all_eq_true.mp this j (List.mem_range.mpr hj)
end
section
/-! the code tables against the bytes and the tables' words -/
/-- the words that a call carries on -/
def lg : List Cond := lw_tbl.filter goodWord
def wAt (pl : Nat) (w : Cond) : Bool := decide (lw_tbl[pl]? = some w)
theorem wAt_in {pl : Nat} {w : Cond} (h : wAt pl w = true) (hg : goodWord w = true) : w ∈ lg := List.mem_filter.mpr ⟨List.mem_of_getElem? (of_decide_eq_true h), hg⟩
def dk (M pc : Nat) (i : Instr) (len : Nat) : Bool := decide (decode (mBy M) pc = .ok (i, len))
theorem dk_at {M pc : Nat} {i : Instr} {len : Nat} (h : dk M pc i len = true) : decode (mBy M) pc = .ok (i, len) := of_decide_eq_true h
def bini : Nat → Instr
  | 0 => .iadd
  | 1 => .isub
  | 2 => .imul
  | 3 => .iand
  | 4 => .ior
  | 5 => .ixor
  | 6 => .ishl
  | 7 => .ishr
  | _ => .iushr
def binl : Nat → Instr
  | 0 => .ladd
  | 1 => .lsub
  | _ => .lmul
def ccd : Nat → ClassFile.Cond
  | 0 => .eq
  | 1 => .ne
  | 2 => .lt
  | 3 => .ge
  | 4 => .gt
  | _ => .le
def fldOk (M ci k pl idx : Nat) : Bool := match classes[ci]? with
  | some q => decide (k < q.2.2) && wAt pl (.fieldLink (mNm M).cls idx (q.2.1 k).1 (q.2.1 k).2.1 (q.2.1 k).2.2.1)
  | none => false
def putOk (ci k : Nat) : Bool := match classes[ci]? with
  | some q => decide ((q.2.1 k).2.2.2 = false) && decide (parseFieldDescriptor (q.2.1 k).2.2.1 = some (if (fkt ci k).1 = 0 then .int else .boolean))
  | none => false
def rkOf : Option FieldType → Nat
  | none => 0
  | some .long => 2
  | some _ => 1
def calOk (M M' n rk idx pl p1 p4 : Nat) : Bool :=
  rk == rkOf (mRt M') && wAt pl (.methodLink (mNm M).cls idx (mNm M')) && (wAt p1 (.code (mNm M') (mBy M') (mMx M') (mRt M')) && (wAt p4 (.initialized (mNm M').cls) && (decide ((mNm M').cls ≠ "java/lang/invoke/MethodHandle" ∧ (mNm M').cls ≠ "java/lang/invoke/VarHandle" ∧ (parseMethodDescriptor (mNm M').desc).map (fun d => d.parameters.length) = some n) && Nat.ble (mMx M') 40)))
def clsNm (ci : Nat) : String := (classes.getD ci ("", cT0, 0)).1
def chkE (M pc : Nat) (e : INS) : Bool :=
  match e with
  | (0, a, [len, v, idx, pl]) => (match v with
    | 0 => dk M pc (.iconst a) 1 && len == 1
    | 1 => dk M pc (.bipush a) 2 && (len == 2 && decide ((Int8.ofInt a).toInt32 = cI a))
    | 2 => dk M pc (.sipush a) 3 && (len == 3 && decide ((Int16.ofInt a).toInt32 = cI a))
    | 3 => dk M pc (.ldc idx) 2 && (len == 2 && wAt pl (.constant (mNm M).cls idx (cI a)))
    | _ => dk M pc (.ldc_w idx) 3 && (len == 3 && wAt pl (.constant (mNm M).cls idx (cI a))))
  | (1, a, [len, v, idx, pl]) => (match v with
    | 0 => dk M pc (.lconst (Fin.ofNat 2 a.toNat)) 1 && (len == 1 && decide (Int64.ofNat ((Fin.ofNat 2 a.toNat : Fin 2) : Nat) = cL a))
    | _ => dk M pc (.ldc2_w idx) 3 && (len == 3 && wAt pl (.constantLong (mNm M).cls idx (cL a))))
  | (2, _, [k, v]) => (match v with
    | 0 => dk M pc (.iload_n (Fin.ofNat 4 k)) 1 && Nat.ble k 3
    | _ => dk M pc (.iload k) 2)
  | (3, _, [k, v]) => (match v with
    | 0 => dk M pc (.lload_n (Fin.ofNat 4 k)) 1 && Nat.ble k 3
    | _ => dk M pc (.lload k) 2)
  | (4, _, [k, v]) => (match v with
    | 0 => dk M pc (.aload_n (Fin.ofNat 4 k)) 1 && Nat.ble k 3
    | _ => dk M pc (.aload k) 2)
  | (5, _, [k, v]) => Nat.ble (k + 1) (mMx M) && (match v with
    | 0 => dk M pc (.istore_n (Fin.ofNat 4 k)) 1 && Nat.ble k 3
    | _ => dk M pc (.istore k) 2)
  | (6, _, [k, v]) => Nat.ble (k + 2) (mMx M) && (match v with
    | 0 => dk M pc (.lstore_n (Fin.ofNat 4 k)) 1 && Nat.ble k 3
    | _ => dk M pc (.lstore k) 2)
  | (7, _, [k, v]) => Nat.ble (k + 1) (mMx M) && (match v with
    | 0 => dk M pc (.astore_n (Fin.ofNat 4 k)) 1 && Nat.ble k 3
    | _ => dk M pc (.astore k) 2)
  | (8, a, [k]) => Nat.ble (k + 1) (mMx M) && dk M pc (.iinc k a) 3
  | (9, _, [b]) => dk M pc (bini b) 1
  | (10, _, [b]) => dk M pc (match b with | 0 => .idiv | _ => .irem) 1
  | (11, _, [b]) => dk M pc (binl b) 1
  | (12, _, [b]) => dk M pc (match b with | 0 => .ldiv | _ => .lrem) 1
  | (13, _, _) => dk M pc .i2l 1
  | (14, _, _) => dk M pc .l2i 1
  | (15, _, _) => dk M pc .lcmp 1
  | (16, _, _) => dk M pc .dup 1
  | (17, _, _) => dk M pc .dup2 1
  | (18, _, _) => dk M pc .pop 1
  | (19, _, [t]) => dk M pc (.goto ((t : Int) - pc)) 3
  | (20, _, [c, t]) => dk M pc (.ifCond (ccd c) ((t : Int) - pc)) 3
  | (21, _, [c, t]) => dk M pc (.if_icmp (ccd c) ((t : Int) - pc)) 3
  | (22, lo, len :: d :: ts) => dk M pc (.tableswitch ((d : Int) - pc) lo (lo + (ts.length : Int) - 1) (ts.map fun (t : Nat) => (t : Int) - (pc : Int)).toArray) len && (decide (0 ≤ lo) && decide (lo + (ts.length : Int) < 1000))
  | (23, _, [idx, ci, k, pl]) => dk M pc (.getfield idx) 3 && fldOk M ci k pl idx
  | (24, _, [idx, ci, k, pl]) => dk M pc (.putfield idx) 3 && (fldOk M ci k pl idx && putOk ci k)
  | (25, _, _) => dk M pc .iaload 1
  | (26, _, _) => dk M pc .iastore 1
  | (27, _, _) => dk M pc .laload 1
  | (28, _, _) => dk M pc .lastore 1
  | (29, _, _) => dk M pc .aaload 1
  | (30, _, _) => dk M pc .arraylength 1
  | (31, _, [z]) => dk M pc .ireturn 1 && decide (mRt M = some (match z with | 0 => .int | _ => .boolean))
  | (32, _, _) => dk M pc .lreturn 1 && decide (mRt M = some .long)
  | (33, _, _) => dk M pc .return_ 1 && decide (mRt M = none)
  | (34, _, [idx, M', n, rk, ci, pl, p1, p2, p3, p4]) => dk M pc (.invokevirtual idx) 3 && (calOk M M' n rk idx pl p1 p4 && (wAt p2 (.instanceMethod (mNm M')) && (wAt p3 (.selects (mNm M').cls (mNm M') (mNm M')) && decide (clsNm ci = (mNm M').cls ∧ ci < 7))))
  | (35, _, [idx, M', n, rk, _, pl, p1, p2, _, p4]) => dk M pc (.invokestatic idx) 3 && (calOk M M' n rk idx pl p1 p4 && wAt p2 (.static (mNm M')))
  | (36, _, [idx, b, p0, p1, p2, p3]) => dk M pc (.invokestatic idx) 3 && (wAt p2 (.initialized "java/lang/Math") && (match b with
    | 0 => wAt p0 (.methodLink (mNm M).cls idx Lib.Math.max.name) && (wAt p1 (.static Lib.Math.max.name) && wAt p3 (.code Lib.Math.max.name Lib.Math.max.code 2 (some .int)))
    | _ => wAt p0 (.methodLink (mNm M).cls idx Lib.Math.min.name) && (wAt p1 (.static Lib.Math.min.name) && wAt p3 (.code Lib.Math.min.name Lib.Math.min.code 2 (some .int)))))
  | (99, _, _) => true
  | _ => false
def okB (M : Nat) : Bool := plainName (mNm M).cls && (List.range (16 * (mTb M).length)).all (fun pc => chkE M pc (lk (mTb M) pc))
theorem lk1_nil (n : Nat) : lk1 [] n = nO := by cases n <;> rfl
theorem lk0_out : ∀ {t : List (List INS)} {n : Nat}, t.length ≤ n → lk0 t n = []
  | [], n, _ => by cases n <;> rfl
  | _ :: t, 0, h => by simp at h
  | _ :: t, n + 1, h => lk0_out (t := t) (by simpa using h)
theorem lk_out {t : List (List INS)} {pc : Nat} (h : 16 * t.length ≤ pc) : lk t pc = nO := by
  unfold lk
  rw [lk0_out (by omega), lk1_nil]
theorem okB_at {M : Nat} (h : okB M = true) (pc : Nat) : chkE M pc (lk (mTb M) pc) = true := by
  simp only [okB, Bool.and_eq_true] at h
  rcases Nat.lt_or_ge pc (16 * (mTb M).length) with q | q
  · exact List.all_eq_true.mp h.2 pc (List.mem_range.mpr q)
  · rw [lk_out q]; rfl
theorem lays_good (C : String) (T : u_T) (N : Nat) : ∀ w ∈ u_ws C T N, goodWord w = true := by
  intro w hw
  obtain ⟨k, -, rfl⟩ := List.mem_map.mp hw
  unfold u_lay
  split <;> rfl
theorem lg_in {C : String} {T : u_T} {N : Nat} (h : ∀ w ∈ u_ws C T N, w ∈ lw_tbl) : ∀ w ∈ u_ws C T N, w ∈ lg := fun w hw => List.mem_filter.mpr ⟨h w hw, lays_good C T N w hw⟩
theorem clsOK : ∀ (ci : Nat) (q : vw_C), classes[ci]? = some q → (∀ w ∈ u_ws q.1 q.2.1 q.2.2, w ∈ lg) ∧ (∃ ty0 : Nat → FieldType, ∀ k, k < q.2.2 → parseFieldDescriptor (q.2.1 k).2.2.1 = some (ty0 k)) ∧ (∀ a, a < q.2.2 → ∀ b, b < q.2.2 → a ≠ b → (q.2.1 a).2.1 ≠ (q.2.1 b).2.1) ∧ nfl ci = q.2.2 ∧ ci < 7
  | 0, q, h => by cases h; exact ⟨lg_in cW0, ⟨cY0, cY0_ok⟩, cN0, rfl, by omega⟩
  | 1, q, h => by cases h; exact ⟨lg_in cW1, ⟨cY1, cY1_ok⟩, cN1, rfl, by omega⟩
  | 2, q, h => by cases h; exact ⟨lg_in cW2, ⟨cY2, cY2_ok⟩, cN2, rfl, by omega⟩
  | 3, q, h => by cases h; exact ⟨lg_in cW3, ⟨cY3, cY3_ok⟩, cN3, rfl, by omega⟩
  | 4, q, h => by cases h; exact ⟨lg_in cW4, ⟨cY4, cY4_ok⟩, cN4, rfl, by omega⟩
  | 5, q, h => by cases h; exact ⟨lg_in cW5, ⟨cY5, cY5_ok⟩, cN5, rfl, by omega⟩
  | 6, q, h => by cases h; exact ⟨lg_in cW6, ⟨cY6, cY6_ok⟩, cN6, rfl, by omega⟩
  | n + 7, q, h => by simp [classes] at h
end
section
/-! the small machine's steps are the machine's -/
def wsOf (M : Nat) : List Cond := Cond.code (mNm M) (mBy M) (mMx M) (mRt M) :: lg
def rmD (d : Nat) : Room := { frames := d + 1, cells := 0, slots := 0, locals := 60 * (d + 1) }
def Qr (D : va_G) (lay : List Nat) (adr : Nat → Nat) (cA : Nat → ClassId) (A : Nat → Prop) (rk : Nat) (P : PT) : Array Value → State → Outcome → State → Prop :=
  match rk with
  | 0 => va_Qv (fun u : Mem => P none u) (fun u t => va_P D classes (wld lay adr cA u) t.heap) A
  | 1 => va_Qi (fun y (u : Mem) => P (some (vi y)) u) (fun u t => va_P D classes (wld lay adr cA u) t.heap) A
  | _ => va_Ql (fun y (u : Mem) => P (some (vl y)) u) (fun u t => va_P D classes (wld lay adr cA u) t.heap) A
/-- method M, called with these values and this memory, returns, and P holds of its answer and the memory that it leaves -/
def Rn (lay : List Nat) (d M : Nat) (av : List TV) (μ : Mem) (P : PT) : Prop :=
  (∀ v ∈ av, kOK lay v) → ∀ (l : Launch) (D : va_G) (adr : Nat → Nat) (cA : Nat → ClassId) (sz : Nat), injA lay adr →
    Met l (mNm M) (wsOf M) (rmD d) (va_Pc (av.map (cv adr)) (fun U => U.heap.size = sz ∧ va_P D classes (wld lay adr cA μ) U.heap ∧ va_K D classes (tysL lay cA) U)) (Qr D lay adr cA (Aset lay adr sz) (rkOf (mRt M)) P) 0 0 (Aset lay adr sz)
def CD (lay : List Nat) : Nat → CT
  | 0 => fun _ _ _ _ => False
  | d + 1 => Rn lay d
section SOUND
variable {p : Program} {l : Launch} {e : Env} {s : State} {m : MethodId} {args : Array Value} {below : List Frame} {meth : Method} {c : Code} {Q : State → Prop}
def WW (lay : List Nat) (adr : Nat → Nat) (cA : Nat → ClassId) (D : va_G) (M d : Nat) (Q : State → Prop) (p : Program) (l : Launch) (e : Env) (s : State) (m : MethodId) (args : Array Value) (below : List Frame) (meth : Method) (c : Code) : KT := fun pc ls st μ =>
  ∀ (H : Heap) (locs : List Loc) (la : Array Slot), va_P D classes (wld lay adr cA μ) H → va_S (Aset lay adr s.heap.size) s.heap H locs → LH adr la (mMx M) ls → (∀ v ∈ ls, kOK lay v) → (∀ v ∈ st, kOK lay v) → W p l e (rmD d) s m args below meth c H locs 0 0 Q (F0 m pc la (st.map (cv adr)))
variable {lay : List Nat} {adr : Nat → Nat} {cA : Nat → ClassId} {D : va_G} {M d : Nat}
variable {K : KT} {pc : Nat} {ls st : List TV} {μ : Mem}
def Cx (lay : List Nat) (adr : Nat → Nat) (cA : Nat → ClassId) (D : va_G) (M : Nat) (p : Program) (s : State) (m : MethodId) (args : Array Value) (c : Code) : Prop :=
  p.tables.exec = Jvm.exec ∧ c.code = mBy M ∧ c.maxLocals = mMx M ∧ s.vm.findClass (mNm M).cls = some m.cls ∧ (∀ w ∈ wsOf M, w.before args s = true) ∧ va_K D classes (tysL lay cA) s ∧ injA lay adr ∧ wfB lay = true
theorem Cx.word (X : Cx lay adr cA D M p s m args c) {w : Cond} (h : w ∈ lg) : w.before args s = true := X.2.2.2.2.1 w (List.mem_cons_of_mem _ h)
theorem k_cons {v : TV} (hv : kOK lay v) (h : ∀ u ∈ st, kOK lay u) : ∀ u ∈ v :: st, kOK lay u := fun u hu => by
  rcases List.mem_cons.mp hu with e | e
  · rw [e]; exact hv
  · exact h u e
theorem k_tl {v : TV} (h : ∀ u ∈ v :: st, kOK lay u) : ∀ u ∈ st, kOK lay u := fun u hu => h u (List.mem_cons_of_mem _ hu)
theorem k_hd {v : TV} (h : ∀ u ∈ v :: st, kOK lay u) : kOK lay v := h v List.mem_cons_self
theorem k_rf {τ id : Nat} (h : kOK lay (rf τ id)) (h0 : τ ≠ 0) : knd lay id = τ := h.resolve_left h0
theorem ok_const (X : Cx lay adr cA D M p s m args c) (hK : ∀ pc ls st μ, K pc ls st μ → WW lay adr cA D M d Q p l e s m args below meth c pc ls st μ) {a : Int} {len v idx pl : Nat} (hc : chkE M pc (0, a, [len, v, idx, pl]) = true) (h : K (pc + len) ls (vi (cI a) :: st) μ) : WW lay adr cA D M d Q p l e s m args below meth c pc ls st μ := by
  intro H locs la hP hS hL h1 h2
  have hk := hK _ _ _ _ h H locs la hP hS hL h1 (k_cons trivial h2)
  rcases v with _ | _ | _ | _ | v
  · simp only [chkE, Bool.and_eq_true, beq_iff_eq] at hc
    obtain ⟨hd, rfl⟩ := hc
    exact lv_iconst X.1 X.2.1 (dk_at hd) (cI_eq a) hk
  · simp only [chkE, Bool.and_eq_true, beq_iff_eq, decide_eq_true_eq] at hc
    obtain ⟨hd, rfl, hv⟩ := hc
    exact lv_bipush X.1 X.2.1 (dk_at hd) hv hk
  · simp only [chkE, Bool.and_eq_true, beq_iff_eq, decide_eq_true_eq] at hc
    obtain ⟨hd, rfl, hv⟩ := hc
    exact lv_sipush X.1 X.2.1 (dk_at hd) hv hk
  · simp only [chkE, Bool.and_eq_true, beq_iff_eq] at hc
    obtain ⟨hd, rfl, hw⟩ := hc
    exact lv_ldc X.1 X.2.1 X.2.2.2.1 (X.word (wAt_in hw rfl)) (dk_at hd) hk
  · simp only [chkE, Bool.and_eq_true, beq_iff_eq] at hc
    obtain ⟨hd, rfl, hw⟩ := hc
    exact lv_ldcw X.1 X.2.1 X.2.2.2.1 (X.word (wAt_in hw rfl)) (dk_at hd) hk
theorem ok_lconst (X : Cx lay adr cA D M p s m args c) (hK : ∀ pc ls st μ, K pc ls st μ → WW lay adr cA D M d Q p l e s m args below meth c pc ls st μ) {a : Int} {len v idx pl : Nat} (hc : chkE M pc (1, a, [len, v, idx, pl]) = true) (h : K (pc + len) ls (vl (cL a) :: st) μ) : WW lay adr cA D M d Q p l e s m args below meth c pc ls st μ := by
  intro H locs la hP hS hL h1 h2
  have hk := hK _ _ _ _ h H locs la hP hS hL h1 (k_cons trivial h2)
  rcases v with _ | v
  · simp only [chkE, Bool.and_eq_true, beq_iff_eq, decide_eq_true_eq] at hc
    obtain ⟨hd, rfl, hv⟩ := hc
    exact lv_lconst X.1 X.2.1 (dk_at hd) hv hk
  · simp only [chkE, Bool.and_eq_true, beq_iff_eq] at hc
    obtain ⟨hd, rfl, hw⟩ := hc
    exact lv_ldc2 X.1 X.2.1 X.2.2.2.1 (X.word (wAt_in hw rfl)) (dk_at hd) hk
theorem fin4 {k : Nat} (h : Nat.ble k 3 = true) : ((Fin.ofNat 4 k : Fin 4) : Nat) = k := Nat.mod_eq_of_lt (Nat.lt_succ_of_le (Nat.le_of_ble_eq_true h))
theorem ok_iload (X : Cx lay adr cA D M p s m args c) (hK : ∀ pc ls st μ, K pc ls st μ → WW lay adr cA D M d Q p l e s m args below meth c pc ls st μ) {a : Int} {k v : Nat} (hc : chkE M pc (2, a, [k, v]) = true) (h : s_load wI pc k (ln12 v) ls st μ K) : WW lay adr cA D M d Q p l e s m args below meth c pc ls st μ := by
  intro H locs la hP hS hL h1 h2
  cases hx : ls[k]? with
  | none => simp [s_load, hx] at h
  | some w =>
    rcases w with x | x | x
    · simp only [s_load, hx, wI] at h
      have hk := hK _ _ _ _ h H locs la hP hS hL h1 (k_cons trivial h2)
      have hg := hL.get hx rfl
      rcases v with _ | v
      · simp only [chkE, Bool.and_eq_true] at hc
        exact lv_iload_n X.1 X.2.1 (dk_at hc.1) (fin4 hc.2) hg hk
      · simp only [chkE] at hc
        exact lv_iload X.1 X.2.1 (dk_at hc) hg hk
    · simp [s_load, hx, wI] at h
    · simp [s_load, hx, wI] at h
theorem ok_lload (X : Cx lay adr cA D M p s m args c) (hK : ∀ pc ls st μ, K pc ls st μ → WW lay adr cA D M d Q p l e s m args below meth c pc ls st μ) {a : Int} {k v : Nat} (hc : chkE M pc (3, a, [k, v]) = true) (h : s_load isL pc k (ln12 v) ls st μ K) : WW lay adr cA D M d Q p l e s m args below meth c pc ls st μ := by
  intro H locs la hP hS hL h1 h2
  cases hx : ls[k]? with
  | none => simp [s_load, hx] at h
  | some w =>
    rcases w with x | x | x
    · simp [s_load, hx, isL] at h
    · simp only [s_load, hx, isL] at h
      have hk := hK _ _ _ _ h H locs la hP hS hL h1 (k_cons trivial h2)
      have hg := hL.get hx rfl
      rcases v with _ | v
      · simp only [chkE, Bool.and_eq_true] at hc
        exact lv_lload_n X.1 X.2.1 (dk_at hc.1) (fin4 hc.2) hg hk
      · simp only [chkE] at hc
        exact lv_lload X.1 X.2.1 (dk_at hc) hg hk
    · simp [s_load, hx, isL] at h
theorem ok_aload (X : Cx lay adr cA D M p s m args c) (hK : ∀ pc ls st μ, K pc ls st μ → WW lay adr cA D M d Q p l e s m args below meth c pc ls st μ) {a : Int} {k v : Nat} (hc : chkE M pc (4, a, [k, v]) = true) (h : s_load wA pc k (ln12 v) ls st μ K) : WW lay adr cA D M d Q p l e s m args below meth c pc ls st μ := by
  intro H locs la hP hS hL h1 h2
  cases hx : ls[k]? with
  | none => simp [s_load, hx] at h
  | some w =>
    rcases w with x | x | ⟨_ | τ, id⟩
    · simp [s_load, hx, wA] at h
    · simp [s_load, hx, wA] at h
    · simp [s_load, hx, wA] at h
    · simp only [s_load, hx, wA] at h
      have hk := hK _ _ _ _ h H locs la hP hS hL h1 (k_cons (h1 _ (List.mem_of_getElem? hx)) h2)
      have hg := hL.get hx rfl
      rcases v with _ | v
      · simp only [chkE, Bool.and_eq_true] at hc
        exact lv_aload_n X.1 X.2.1 (dk_at hc.1) (fin4 hc.2) hg hk
      · simp only [chkE] at hc
        exact lv_aload X.1 X.2.1 (dk_at hc) hg hk
theorem ok_istore (X : Cx lay adr cA D M p s m args c) (hK : ∀ pc ls st μ, K pc ls st μ → WW lay adr cA D M d Q p l e s m args below meth c pc ls st μ) {a : Int} {k v : Nat} (hc : chkE M pc (5, a, [k, v]) = true) (h : s_store wI pc k (ln12 v) ls st μ K) : WW lay adr cA D M d Q p l e s m args below meth c pc ls st μ := by
  intro H locs la hP hS hL h1 h2
  rcases st with _ | ⟨w, st⟩
  · simp [s_store] at h
  rcases w with x | x | x
  · simp only [s_store, wI] at h
    have hk := fun la' hL' => hK _ _ _ _ h H locs la' hP hS hL' (kOK_sto h1 trivial) (k_tl h2)
    rcases v with _ | v
    · simp only [chkE, Bool.and_eq_true] at hc
      exact lv_istore_n X.1 X.2.1 (dk_at hc.2.1) (fin4 hc.2.2) hL.1 (Nat.le_of_ble_eq_true hc.1) rfl (fun la' h' => hk la' (hL.set h'))
    · simp only [chkE, Bool.and_eq_true] at hc
      exact lv_istore X.1 X.2.1 (dk_at hc.2) hL.1 (Nat.le_of_ble_eq_true hc.1) rfl (fun la' h' => hk la' (hL.set h'))
  · simp [s_store, wI] at h
  · simp [s_store, wI] at h
theorem ok_astore (X : Cx lay adr cA D M p s m args c) (hK : ∀ pc ls st μ, K pc ls st μ → WW lay adr cA D M d Q p l e s m args below meth c pc ls st μ) {a : Int} {k v : Nat} (hc : chkE M pc (7, a, [k, v]) = true) (h : s_store wA pc k (ln12 v) ls st μ K) : WW lay adr cA D M d Q p l e s m args below meth c pc ls st μ := by
  intro H locs la hP hS hL h1 h2
  rcases st with _ | ⟨w, st⟩
  · simp [s_store] at h
  rcases w with x | x | ⟨_ | τ, id⟩
  · simp [s_store, wA] at h
  · simp [s_store, wA] at h
  · simp [s_store, wA] at h
  · simp only [s_store, wA] at h
    have hk := fun la' hL' => hK _ _ _ _ h H locs la' hP hS hL' (kOK_sto h1 (k_hd h2)) (k_tl h2)
    rcases v with _ | v
    · simp only [chkE, Bool.and_eq_true] at hc
      exact lv_astore_n X.1 X.2.1 (dk_at hc.2.1) (fin4 hc.2.2) hL.1 (Nat.le_of_ble_eq_true hc.1) rfl (fun la' h' => hk la' (hL.set (v := .inr (.inr (τ + 1, id))) h'))
    · simp only [chkE, Bool.and_eq_true] at hc
      exact lv_astore X.1 X.2.1 (dk_at hc.2) hL.1 (Nat.le_of_ble_eq_true hc.1) rfl (fun la' h' => hk la' (hL.set (v := .inr (.inr (τ + 1, id))) h'))
theorem ok_lstore (X : Cx lay adr cA D M p s m args c) (hK : ∀ pc ls st μ, K pc ls st μ → WW lay adr cA D M d Q p l e s m args below meth c pc ls st μ) {a : Int} {k v : Nat} (hc : chkE M pc (6, a, [k, v]) = true) (h : s_lstore pc k (ln12 v) ls st μ K) : WW lay adr cA D M d Q p l e s m args below meth c pc ls st μ := by
  intro H locs la hP hS hL h1 h2
  rcases st with _ | ⟨w, st⟩
  · simp [s_lstore] at h
  rcases w with x | x | x
  · simp [s_lstore] at h
  · simp only [s_lstore] at h
    have hk := fun la' hL' => hK _ _ _ _ h H locs la' hP hS hL' (fun u hu => by
      rcases List.mem_or_eq_of_mem_set hu with q | q
      · exact kOK_sto h1 (v := vl x) trivial u q
      · rw [q]; exact kOK_un lay) (k_tl h2)
    rcases v with _ | v
    · simp only [chkE, Bool.and_eq_true] at hc
      exact lv_lstore_n X.1 X.2.1 (dk_at hc.2.1) (fin4 hc.2.2) hL.1 (Nat.le_of_ble_eq_true hc.1) rfl (fun la' h' => hk la' (hL.setL h'))
    · simp only [chkE, Bool.and_eq_true] at hc
      exact lv_lstore X.1 X.2.1 (dk_at hc.2) hL.1 (Nat.le_of_ble_eq_true hc.1) rfl (fun la' h' => hk la' (hL.setL h'))
  · simp [s_lstore] at h
theorem ok_iinc (X : Cx lay adr cA D M p s m args c) (hK : ∀ pc ls st μ, K pc ls st μ → WW lay adr cA D M d Q p l e s m args below meth c pc ls st μ) {a : Int} {k : Nat} (hc : chkE M pc (8, a, [k]) = true) (h : s_iinc a pc k ls st μ K) : WW lay adr cA D M d Q p l e s m args below meth c pc ls st μ := by
  intro H locs la hP hS hL h1 h2
  cases hx : ls[k]? with
  | none => simp [s_iinc, hx] at h
  | some w =>
    rcases w with x | x | x
    · simp only [s_iinc, hx] at h
      have hk := fun la' hL' => hK _ _ _ _ h H locs la' hP hS hL' (kOK_sto h1 trivial) h2
      simp only [chkE, Bool.and_eq_true] at hc
      obtain ⟨q, hq⟩ := List.getElem?_of_mem (prs_mem (adr := adr) (q := (k, .int x)) (ls := ls) (i := 0) |>.mpr ⟨k, vi x, hx, rfl, by simp [cv]⟩)
      exact lv_iinc X.1 X.2.1 (dk_at hc.2) hL.1 hq (by rw [cI_eq]) (Nat.le_of_ble_eq_true hc.1) rfl (fun la' h' => hk la' (hL.set h'))
    · simp [s_iinc, hx] at h
    · simp [s_iinc, hx] at h
theorem ok_ibin (X : Cx lay adr cA D M p s m args c) (hK : ∀ pc ls st μ, K pc ls st μ → WW lay adr cA D M d Q p l e s m args below meth c pc ls st μ) {a : Int} {b : Nat} (hc : chkE M pc (9, a, [b]) = true) (h : s_ibin b pc ls st μ K) : WW lay adr cA D M d Q p l e s m args below meth c pc ls st μ := by
  intro H locs la hP hS hL h1 h2
  unfold s_ibin at h
  split at h
  · next y x st =>
    have hk := hK _ _ _ _ h H locs la hP hS hL h1 (k_cons trivial (k_tl (k_tl h2)))
    have hd := dk_at hc
    rcases b with _ | _ | _ | _ | _ | _ | _ | _ | b
    · exact lv_iadd X.1 X.2.1 hd hk
    · exact lv_isub X.1 X.2.1 hd hk
    · exact lv_imul X.1 X.2.1 hd hk
    · exact lv_iand X.1 X.2.1 hd hk
    · exact lv_ior X.1 X.2.1 hd hk
    · exact lv_ixor X.1 X.2.1 hd hk
    · exact lv_ishl X.1 X.2.1 hd hk
    · exact lv_ishr X.1 X.2.1 hd hk
    · exact lv_iushr X.1 X.2.1 hd rfl hk
  · exact h.elim
theorem ok_idr (X : Cx lay adr cA D M p s m args c) (hK : ∀ pc ls st μ, K pc ls st μ → WW lay adr cA D M d Q p l e s m args below meth c pc ls st μ) {a : Int} {b : Nat} (hc : chkE M pc (10, a, [b]) = true) (h : s_idr b pc ls st μ K) : WW lay adr cA D M d Q p l e s m args below meth c pc ls st μ := by
  intro H locs la hP hS hL h1 h2
  unfold s_idr at h
  split at h
  · next y x st =>
    obtain ⟨h0, h⟩ := h
    have hk := hK _ _ _ _ h H locs la hP hS hL h1 (k_cons trivial (k_tl (k_tl h2)))
    have hd := dk_at hc
    rcases b with _ | b
    · exact lv_idiv X.1 X.2.1 hd h0 hk
    · exact lv_irem X.1 X.2.1 hd h0 hk
  · exact h.elim
theorem ok_lbin (X : Cx lay adr cA D M p s m args c) (hK : ∀ pc ls st μ, K pc ls st μ → WW lay adr cA D M d Q p l e s m args below meth c pc ls st μ) {a : Int} {b : Nat} (hc : chkE M pc (11, a, [b]) = true) (h : s_lbin b pc ls st μ K) : WW lay adr cA D M d Q p l e s m args below meth c pc ls st μ := by
  intro H locs la hP hS hL h1 h2
  unfold s_lbin at h
  split at h
  · next y x st =>
    have hk := hK _ _ _ _ h H locs la hP hS hL h1 (k_cons trivial (k_tl (k_tl h2)))
    have hd := dk_at hc
    rcases b with _ | _ | b
    · exact lv_ladd X.1 X.2.1 hd hk
    · exact lv_lsub X.1 X.2.1 hd hk
    · exact lv_lmul X.1 X.2.1 hd hk
  · exact h.elim
theorem ok_ldr (X : Cx lay adr cA D M p s m args c) (hK : ∀ pc ls st μ, K pc ls st μ → WW lay adr cA D M d Q p l e s m args below meth c pc ls st μ) {a : Int} {b : Nat} (hc : chkE M pc (12, a, [b]) = true) (h : s_ldr b pc ls st μ K) : WW lay adr cA D M d Q p l e s m args below meth c pc ls st μ := by
  intro H locs la hP hS hL h1 h2
  unfold s_ldr at h
  split at h
  · next y x st =>
    obtain ⟨h0, h⟩ := h
    have hk := hK _ _ _ _ h H locs la hP hS hL h1 (k_cons trivial (k_tl (k_tl h2)))
    have hd := dk_at hc
    rcases b with _ | b
    · exact lv_ldiv X.1 X.2.1 hd h0 hk
    · exact lv_lrem X.1 X.2.1 hd h0 hk
  · exact h.elim
theorem ok_i2l (X : Cx lay adr cA D M p s m args c) (hK : ∀ pc ls st μ, K pc ls st μ → WW lay adr cA D M d Q p l e s m args below meth c pc ls st μ) {a : Int} {bs : List Nat} (hc : chkE M pc (13, a, bs) = true) (h : s_i2l pc ls st μ K) : WW lay adr cA D M d Q p l e s m args below meth c pc ls st μ := by
  intro H locs la hP hS hL h1 h2
  unfold s_i2l at h
  split at h
  · exact lv_i2l X.1 X.2.1 (dk_at hc) rfl (hK _ _ _ _ h H locs la hP hS hL h1 (k_cons trivial (k_tl h2)))
  · exact h.elim
theorem ok_l2i (X : Cx lay adr cA D M p s m args c) (hK : ∀ pc ls st μ, K pc ls st μ → WW lay adr cA D M d Q p l e s m args below meth c pc ls st μ) {a : Int} {bs : List Nat} (hc : chkE M pc (14, a, bs) = true) (h : s_l2i pc ls st μ K) : WW lay adr cA D M d Q p l e s m args below meth c pc ls st μ := by
  intro H locs la hP hS hL h1 h2
  unfold s_l2i at h
  split at h
  · exact lv_l2i X.1 X.2.1 (dk_at hc) rfl (hK _ _ _ _ h H locs la hP hS hL h1 (k_cons trivial (k_tl h2)))
  · exact h.elim
theorem ok_lcmp (X : Cx lay adr cA D M p s m args c) (hK : ∀ pc ls st μ, K pc ls st μ → WW lay adr cA D M d Q p l e s m args below meth c pc ls st μ) {a : Int} {bs : List Nat} (hc : chkE M pc (15, a, bs) = true) (h : s_lcmp pc ls st μ K) : WW lay adr cA D M d Q p l e s m args below meth c pc ls st μ := by
  intro H locs la hP hS hL h1 h2
  unfold s_lcmp at h
  split at h
  · exact W.lcmp X.1 X.2.1 (dk_at hc) (hK _ _ _ _ h H locs la hP hS hL h1 (k_cons trivial (k_tl (k_tl h2))))
  · exact h.elim
theorem cat1 {v : TV} (h : isL v = false) : (cv adr v).category = 1 := by
  rcases v with x | x | x
  · rfl
  · simp [isL] at h
  · rfl
theorem ok_dup (X : Cx lay adr cA D M p s m args c) (hK : ∀ pc ls st μ, K pc ls st μ → WW lay adr cA D M d Q p l e s m args below meth c pc ls st μ) {a : Int} {bs : List Nat} (hc : chkE M pc (16, a, bs) = true) (h : s_dup pc ls st μ K) : WW lay adr cA D M d Q p l e s m args below meth c pc ls st μ := by
  intro H locs la hP hS hL h1 h2
  unfold s_dup at h
  split at h
  · split at h
    · exact h.elim
    · next hv => exact lv_dup X.1 X.2.1 (dk_at hc) (cat1 hv) (hK _ _ _ _ h H locs la hP hS hL h1 (k_cons (k_hd h2) h2))
  · exact h.elim
theorem ok_dup2 (X : Cx lay adr cA D M p s m args c) (hK : ∀ pc ls st μ, K pc ls st μ → WW lay adr cA D M d Q p l e s m args below meth c pc ls st μ) {a : Int} {bs : List Nat} (hc : chkE M pc (17, a, bs) = true) (h : s_dup2 pc ls st μ K) : WW lay adr cA D M d Q p l e s m args below meth c pc ls st μ := by
  intro H locs la hP hS hL h1 h2
  unfold s_dup2 at h
  split at h
  · split at h
    · exact h.elim
    · next hv =>
      simp only [Bool.or_eq_false_iff] at hv
      exact lv_dup2_11 X.1 X.2.1 (dk_at hc) (cat1 hv.1) (cat1 hv.2) (hK _ _ _ _ h H locs la hP hS hL h1 (k_cons (k_hd h2) (k_cons (k_hd (k_tl h2)) h2)))
  · exact h.elim
theorem ok_pop (X : Cx lay adr cA D M p s m args c) (hK : ∀ pc ls st μ, K pc ls st μ → WW lay adr cA D M d Q p l e s m args below meth c pc ls st μ) {a : Int} {bs : List Nat} (hc : chkE M pc (18, a, bs) = true) (h : s_pop pc ls st μ K) : WW lay adr cA D M d Q p l e s m args below meth c pc ls st μ := by
  intro H locs la hP hS hL h1 h2
  unfold s_pop at h
  split at h
  · split at h
    · exact h.elim
    · next hv => exact lv_pop X.1 X.2.1 (dk_at hc) (cat1 hv) (hK _ _ _ _ h H locs la hP hS hL h1 (k_tl h2))
  · exact h.elim
theorem tgt_ok (pc t : Nat) : (pc : Int) + ((t : Int) - pc) = (t : Int) := by omega
theorem ok_goto (X : Cx lay adr cA D M p s m args c) (hK : ∀ pc ls st μ, K pc ls st μ → WW lay adr cA D M d Q p l e s m args below meth c pc ls st μ) {a : Int} {t : Nat} (hc : chkE M pc (19, a, [t]) = true) (h : K t ls st μ) : WW lay adr cA D M d Q p l e s m args below meth c pc ls st μ := by
  intro H locs la hP hS hL h1 h2
  exact lv_goto X.1 X.2.1 (dk_at hc) (tgt_ok pc t) (hK _ _ _ _ h H locs la hP hS hL h1 h2)
theorem ok_if (X : Cx lay adr cA D M p s m args c) (hK : ∀ pc ls st μ, K pc ls st μ → WW lay adr cA D M d Q p l e s m args below meth c pc ls st μ) {a : Int} {cc t : Nat} (hc : chkE M pc (20, a, [cc, t]) = true) (h : s_if cc t pc ls st μ K) : WW lay adr cA D M d Q p l e s m args below meth c pc ls st μ := by
  intro H locs la hP hS hL h1 h2
  unfold s_if at h
  split at h
  · next x st =>
    have hd := dk_at hc
    have k1 := fun h => hK t ls st μ h H locs la hP hS hL h1 (k_tl h2)
    have k2 := fun h => hK (pc + 3) ls st μ h H locs la hP hS hL h1 (k_tl h2)
    rcases cc with _ | _ | _ | _ | _ | _ | cc
    · exact lv_if_eq X.1 X.2.1 hd (tgt_ok pc t) (fun q => k1 (h.1 q)) (fun q => k2 (h.2 q))
    · exact lv_if_ne X.1 X.2.1 hd (tgt_ok pc t) (fun q => k1 (h.1 q)) (fun q => k2 (h.2 q))
    · exact lv_if_lt X.1 X.2.1 hd (tgt_ok pc t) (fun q => k1 (h.1 q)) (fun q => k2 (h.2 q))
    · exact lv_if_ge X.1 X.2.1 hd (tgt_ok pc t) (fun q => k1 (h.1 q)) (fun q => k2 (h.2 q))
    · exact lv_if_gt X.1 X.2.1 hd (tgt_ok pc t) (fun q => k1 (h.1 q)) (fun q => k2 (h.2 q))
    · exact lv_if_le X.1 X.2.1 hd (tgt_ok pc t) (fun q => k1 (h.1 q)) (fun q => k2 (h.2 q))
    · exact h.elim
  · exact h.elim
theorem ok_icmp (X : Cx lay adr cA D M p s m args c) (hK : ∀ pc ls st μ, K pc ls st μ → WW lay adr cA D M d Q p l e s m args below meth c pc ls st μ) {a : Int} {cc t : Nat} (hc : chkE M pc (21, a, [cc, t]) = true) (h : s_icmp cc t pc ls st μ K) : WW lay adr cA D M d Q p l e s m args below meth c pc ls st μ := by
  intro H locs la hP hS hL h1 h2
  unfold s_icmp at h
  split at h
  · next y x st =>
    have hd := dk_at hc
    have k1 := fun h => hK t ls st μ h H locs la hP hS hL h1 (k_tl (k_tl h2))
    have k2 := fun h => hK (pc + 3) ls st μ h H locs la hP hS hL h1 (k_tl (k_tl h2))
    rcases cc with _ | _ | _ | _ | _ | _ | cc
    · exact lv_icmp_eq X.1 X.2.1 hd (tgt_ok pc t) (fun q => k1 (h.1 q)) (fun q => k2 (h.2 q))
    · exact lv_icmp_ne X.1 X.2.1 hd (tgt_ok pc t) (fun q => k1 (h.1 q)) (fun q => k2 (h.2 q))
    · exact lv_icmp_lt X.1 X.2.1 hd (tgt_ok pc t) (fun q => k1 (h.1 q)) (fun q => k2 (h.2 q))
    · exact lv_icmp_ge X.1 X.2.1 hd (tgt_ok pc t) (fun q => k1 (h.1 q)) (fun q => k2 (h.2 q))
    · exact lv_icmp_gt X.1 X.2.1 hd (tgt_ok pc t) (fun q => k1 (h.1 q)) (fun q => k2 (h.2 q))
    · exact lv_icmp_le X.1 X.2.1 hd (tgt_ok pc t) (fun q => k1 (h.1 q)) (fun q => k2 (h.2 q))
    · exact h.elim
  · exact h.elim
end SOUND
end
section
section SOUND2
variable {p : Program} {l : Launch} {e : Env} {s : State} {m : MethodId} {args : Array Value} {below : List Frame} {meth : Method} {c : Code} {Q : State → Prop}
variable {lay : List Nat} {adr : Nat → Nat} {cA : Nat → ClassId} {D : va_G} {M d : Nat}
variable {K : KT} {pc : Nat} {ls st : List TV} {μ : Mem}
theorem cI_toInt {a : Int} (h : 0 ≤ a) (h2 : a < 1000) : (cI a).toInt = a := by
  obtain ⟨n, rfl⟩ := Int.eq_ofNat_of_zero_le h
  exact nI_toInt (by omega)
theorem cI_iff {x : Int32} {a : Int} (h : 0 ≤ a) (h2 : a < 1000) : x = cI a ↔ x.toInt = a := by
  constructor
  · intro q; rw [q, cI_toInt h h2]
  · intro q; exact Int32.toInt_inj.mp (q.trans (cI_toInt h h2).symm)
theorem sw_in {x : Int32} {dflt : Prop} {Kt : Nat → Prop} : ∀ (ts : List Nat) (lo : Int), 0 ≤ lo → lo + (ts.length : Int) < 1000 → s_sw x dflt Kt lo ts → ∀ (j t : Nat), ts[j]? = some t → x.toInt = lo + (j : Int) → Kt t
  | [], lo, _, _, _, j, t, hj, _ => by simp at hj
  | u :: ts, lo, h0, h1, h, j, t, hj, hx => by
    have h1' : lo + ((ts.length : Int) + 1) < 1000 := by simpa using h1
    cases j with
    | zero =>
      simp at hj
      subst hj
      exact h.1 ((cI_iff h0 (by omega)).mpr (by simpa using hx))
    | succ j =>
      have hn : ¬ x = cI lo := fun q => by
        have := (cI_iff h0 (by omega)).mp q
        omega
      exact sw_in ts (lo + 1) (by omega) (by omega) (h.2 hn) j t (by simpa using hj) (by omega)
theorem sw_out {x : Int32} {dflt : Prop} {Kt : Nat → Prop} : ∀ (ts : List Nat) (lo : Int), 0 ≤ lo → lo + (ts.length : Int) < 1000 → s_sw x dflt Kt lo ts → (x.toInt < lo ∨ lo + (ts.length : Int) ≤ x.toInt) → dflt
  | [], lo, _, _, h, _ => h
  | u :: ts, lo, h0, h1, h, hx => by
    have h1' : lo + ((ts.length : Int) + 1) < 1000 := by simpa using h1
    have hx' : x.toInt < lo ∨ lo + ((ts.length : Int) + 1) ≤ x.toInt := by simpa using hx
    have hn : ¬ x = cI lo := fun q => by
      have := (cI_iff h0 (by omega)).mp q
      omega
    exact sw_out ts (lo + 1) (by omega) (by omega) (h.2 hn) (by omega)
theorem ok_switch (X : Cx lay adr cA D M p s m args c) (hK : ∀ pc ls st μ, K pc ls st μ → WW lay adr cA D M d Q p l e s m args below meth c pc ls st μ) {lo : Int} {len dd : Nat} {ts : List Nat} (hc : chkE M pc (22, lo, len :: dd :: ts) = true) (h : s_switch lo dd ts ls st μ K) : WW lay adr cA D M d Q p l e s m args below meth c pc ls st μ := by
  intro H locs la hP hS hL h1 h2
  unfold s_switch at h
  split at h
  · next x st =>
    simp only [chkE, Bool.and_eq_true, decide_eq_true_eq] at hc
    obtain ⟨hd, h0, h9⟩ := hc
    by_cases hx : x.toInt < lo ∨ lo + (ts.length : Int) ≤ x.toInt
    · have hk := sw_out ts lo h0 h9 h hx
      exact lv_tableOut X.1 X.2.1 (dk_at hd) (by omega) (tgt_ok pc dd) (hK _ _ _ _ hk H locs la hP hS hL h1 (k_tl h2))
    · have hj : (x.toInt - lo).toNat < ts.length := by omega
      have ht : ts[(x.toInt - lo).toNat]? = some ts[(x.toInt - lo).toNat] := List.getElem?_eq_getElem hj
      have hk := sw_in ts lo h0 h9 h _ _ ht (by omega)
      exact lv_tableIn X.1 X.2.1 (dk_at hd) (by omega) (by omega) (by rw [List.getElem?_toArray, List.getElem?_map, ht]; rfl) (tgt_ok pc _) (hK _ _ _ _ hk H locs la hP hS hL h1 (k_tl h2))
  · exact h.elim
theorem rarr_obj {ci : Nat} (hc : ci < 7) : rarr (ci + 10) = none := by
  rcases (show ci = 0 ∨ ci = 1 ∨ ci = 2 ∨ ci = 3 ∨ ci = 4 ∨ ci = 5 ∨ ci = 6 by omega) with e | e | e | e | e | e | e <;> subst e <;> rfl
theorem cellE_obj {ci id : Nat} (hc : ci < 7) : cellE adr cA μ (ci + 10) id = .inr (ci, (List.range (nfl ci)).map (fval adr μ id ci)) := by
  unfold cellE
  rw [rarr_obj hc]
  simp only [show ci + 10 < 20 by omega, if_true, Nat.add_sub_cancel]
theorem fld_at {ci k pl idx : Nat} (h : fldOk M ci k pl idx = true) : ∃ q : vw_C, classes[ci]? = some q ∧ k < q.2.2 ∧ Cond.fieldLink (mNm M).cls idx (q.2.1 k).1 (q.2.1 k).2.1 (q.2.1 k).2.2.1 ∈ lg := by
  unfold fldOk at h
  split at h
  · next q hq =>
    simp only [Bool.and_eq_true, decide_eq_true_eq] at h
    exact ⟨q, hq, h.1, wAt_in h.2 rfl⟩
  · cases h
theorem fs_get {id ci k : Nat} (h : k < nfl ci) : ((List.range (nfl ci)).map (fval adr μ id ci))[k]? = some (fval adr μ id ci k) := by
  rw [List.getElem?_map, List.getElem?_range h]
  rfl
theorem ok_get (X : Cx lay adr cA D M p s m args c) (hK : ∀ pc ls st μ, K pc ls st μ → WW lay adr cA D M d Q p l e s m args below meth c pc ls st μ) {a : Int} {idx ci k pl : Nat} (hc : chkE M pc (23, a, [idx, ci, k, pl]) = true) (h : s_get ci k pc ls st μ K) : WW lay adr cA D M d Q p l e s m args below meth c pc ls st μ := by
  intro H locs la hP hS hL h1 h2
  simp only [chkE, Bool.and_eq_true] at hc
  obtain ⟨hd, hf⟩ := hc
  obtain ⟨q, hq, hk, hw⟩ := fld_at hf
  obtain ⟨c1, -, -, c4, c5⟩ := clsOK ci q hq
  unfold s_get at h
  split at h
  · next τ id st =>
    have row : ∀ v : TV, τ = ci + 10 → cv adr v = fval adr μ id ci k → kOK lay v → K (pc + 3) ls (v :: st) μ → W p l e (rmD d) s m args below meth c H locs 0 0 Q (F0 m pc la (List.map (cv adr) (Sum.inr (Sum.inr (τ, id)) :: st))) := by
      intro v e0 e1 e2 e3
      subst e0
      have hkd := k_rf (k_hd h2) (by omega)
      have he : (wld lay adr cA μ)[id]? = some (adr id, .inr (ci, (List.range (nfl ci)).map (fval adr μ id ci))) := by
        rw [wld_get hkd (by omega), cellE_obj c5]
      have hk2 := hK _ _ _ _ e3 H locs la hP hS hL h1 (k_cons e2 (k_tl h2))
      rw [List.map_cons, e1] at hk2
      exact va_get X.1 X.2.1 X.2.2.2.2.1 (fun w hw => List.mem_cons_of_mem _ (c1 w hw)) X.2.2.2.1 X.2.2.2.2.2.1 hP id he hq k hk (X.word hw) (fun _ h9 => h9) (fs_get (by omega)) (dk_at hd) hk2
    split at h
    · next e1 e2 => exact row (vi (μ.1 id k)) (by simpa using e1) (by unfold fval; rw [e2]; rfl) trivial h
    · next e1 e2 => exact row (vi (μ.1 id k)) (by simpa using e1) (by unfold fval; rw [e2]; rfl) trivial h
    · next t off e1 e2 =>
      have e0 : τ = ci + 10 := by simpa using e1
      refine row (rf (t + 2) (id + off)) e0 ?_ (Or.inr ?_) h
      · unfold fval
        rw [e2, if_neg (by simp)]
        rfl
      · subst e0
        exact wf_obj X.2.2.2.2.2.2.2 (k_rf (k_hd h2) (by omega)) c5 (by omega) e2
    · exact h.elim
  · exact h.elim
theorem put_cell {ci id k : Nat} {v : Int32} (hc : ci < 7) (hk : k < nfl ci) (hf : (fkt ci k).1 < 2) : (.inr (ci, ((List.range (nfl ci)).map (fval adr μ id ci)).set k (.int v)) : va_E) = cellE adr cA (upI μ id k v) (ci + 10) id := by
  rw [cellE_obj hc]
  congr 2
  refine List.ext_getElem? (fun j => ?_)
  by_cases hj : j = k
  · subst hj
    rw [List.getElem?_set_self (by simpa using hk), fs_get hk]
    unfold fval
    rw [if_pos hf, upI_self]
    simp [upd]
  · rw [List.getElem?_set_ne (Ne.symm hj), List.getElem?_map, List.getElem?_map]
    cases hr : (List.range (nfl ci))[j]? with
    | none => rfl
    | some i =>
      have hi : i = j := by
        have hjl : j < nfl ci := by
          have := (List.getElem?_eq_some_iff.mp hr).1
          simpa using this
        rw [List.getElem?_range hjl] at hr
        exact (Option.some.inj hr).symm
      subst hi
      simp only [Option.map_some]
      unfold fval
      rw [upI_self]
      simp [upd, hj]
theorem ok_put (X : Cx lay adr cA D M p s m args c) (hK : ∀ pc ls st μ, K pc ls st μ → WW lay adr cA D M d Q p l e s m args below meth c pc ls st μ) {a : Int} {idx ci k pl : Nat} (hc : chkE M pc (24, a, [idx, ci, k, pl]) = true) (h : s_put ci k pc ls st μ K) : WW lay adr cA D M d Q p l e s m args below meth c pc ls st μ := by
  intro H locs la hP hS hL h1 h2
  simp only [chkE, Bool.and_eq_true] at hc
  obtain ⟨hd, hf, hp⟩ := hc
  obtain ⟨q, hq, hk, hw⟩ := fld_at hf
  obtain ⟨c1, ⟨ty0, c2⟩, c3, c4, c5⟩ := clsOK ci q hq
  unfold putOk at hp
  rw [hq] at hp
  simp only [Bool.and_eq_true, decide_eq_true_eq] at hp
  obtain ⟨hfin, hty⟩ := hp
  unfold s_put at h
  split at h
  · next v τ id st =>
    have row : ∀ ty : FieldType, τ = ci + 10 → parseFieldDescriptor (q.2.1 k).2.2.1 = some ty → narrow ty (.int v) = .int v → fits ty (.int v) = true → (fkt ci k).1 < 2 → K (pc + 3) ls st (upI μ id k v) → W p l e (rmD d) s m args below meth c H locs 0 0 Q (F0 m pc la (List.map (cv adr) (Sum.inl v :: Sum.inr (Sum.inr (τ, id)) :: st))) := by
      intro ty e0 e1 e2 e3 e4 e5
      subst e0
      have hkd := k_rf (k_hd (k_tl h2)) (by omega)
      have he : (wld lay adr cA μ)[id]? = some (adr id, .inr (ci, (List.range (nfl ci)).map (fval adr μ id ci))) := by
        rw [wld_get hkd (by omega), cellE_obj c5]
      refine va_put X.1 X.2.1 X.2.2.2.2.1 (fun w hw => List.mem_cons_of_mem _ (c1 w hw)) ty0 c2 c3 X.2.2.2.1 X.2.2.2.2.2.1 hP (wld_D X.2.2.2.2.2.2.1) hS id he hq k hk (X.word hw) (fun _ h9 => h9) hfin e1 e2 e3 (by simp; omega) (dk_at hd) (fun H1 locs1 hP1 hD1 hS1 => ?_)
      have hw2 := wld_ext (lay := lay) (adr := adr) (cA := cA) (μ := μ) (μ1 := upI μ id k v) hkd (by omega) (put_cell (adr := adr) (cA := cA) (μ := μ) c5 (by omega) e4) (fun b hb t => cellE_cong (upI_ne hb) rfl t)
      have hP2 : va_P D classes (wld lay adr cA (upI μ id k v)) H1 := by rw [← hw2]; exact hP1
      exact hK _ _ _ _ e5 H1 locs1 la hP2 hS1 hL h1 (k_tl (k_tl h2))
    split at h
    · next e1 e2 =>
      rw [e2] at hty
      exact row .int (by simpa using e1) hty rfl rfl (by rw [e2]; simp) h
    · next e1 e2 =>
      rw [e2] at hty
      obtain ⟨hv, h⟩ := h
      refine row .boolean (by simpa using e1) hty ?_ ?_ (by rw [e2]; simp) h
      · rcases hv with e | e <;> subst e <;> decide
      · rcases hv with e | e <;> subst e <;> decide
    · exact h.elim
  · exact h.elim
theorem isIA_at {τ : Nat} (h : isIA τ = true) : 10000 ≤ τ ∧ τ < 20000 := by
  simp only [isIA, Bool.and_eq_true] at h
  have := Nat.le_of_ble_eq_true h.1
  have := Nat.le_of_ble_eq_true h.2
  omega
theorem rarr_big {τ : Nat} (h : 33 ≤ τ) : rarr τ = none := by
  cases hr : rarr τ with
  | none => rfl
  | some q =>
    exfalso
    unfold rarr at hr
    split at hr
    · omega
    · omega
    · omega
    · cases hr
theorem cellE_I {τ id : Nat} (h : 10000 ≤ τ ∧ τ < 20000) : cellE adr cA μ τ id = .inl (cA id, (τ - 10000, .inl (μ.1 id))) := by
  unfold cellE
  rw [rarr_big (by omega)]
  simp only [show ¬ τ < 20 by omega, if_false, h.2, if_true]
theorem cellE_L {τ id : Nat} (h : 20000 ≤ τ) : cellE adr cA μ τ id = .inl (cA id, (τ - 20000, .inr (.inl (μ.2 id)))) := by
  unfold cellE
  rw [rarr_big (by omega)]
  simp only [show ¬ τ < 20 by omega, if_false, show ¬ τ < 20000 by omega]
theorem aty_I {τ : Nat} (h : 10000 ≤ τ ∧ τ < 20000) : aty τ = .int := by
  unfold aty
  rw [if_neg (by omega), if_neg (by omega), if_pos h.2]
theorem aty_L {τ : Nat} (h : 20000 ≤ τ) : aty τ = .long := by
  unfold aty
  rw [if_neg (by omega), if_neg (by omega), if_neg (by omega)]
theorem ok_iald (X : Cx lay adr cA D M p s m args c) (hK : ∀ pc ls st μ, K pc ls st μ → WW lay adr cA D M d Q p l e s m args below meth c pc ls st μ) {a : Int} {bs : List Nat} (hc : chkE M pc (25, a, bs) = true) (h : s_iald pc ls st μ K) : WW lay adr cA D M d Q p l e s m args below meth c pc ls st μ := by
  intro H locs la hP hS hL h1 h2
  unfold s_iald at h
  split at h
  · next i τ id st =>
    split at h
    · next ht =>
      have hi := isIA_at ht
      have hkd := k_rf (k_hd (k_tl h2)) (by omega)
      obtain ⟨t0, ht0⟩ := tys_get (cA := cA) hkd (by omega)
      rw [aty_I hi] at ht0
      have he := wld_get (adr := adr) (cA := cA) (μ := μ) hkd (by omega)
      rw [cellE_I hi] at he
      exact va_iald X.1 X.2.1 X.2.2.2.2.2.1 hP id t0 he ht0 h.1 (dk_at hc) (hK _ _ _ _ h.2 H locs la hP hS hL h1 (k_cons trivial (k_tl (k_tl h2))))
    · exact h.elim
  · exact h.elim
theorem ok_iast (X : Cx lay adr cA D M p s m args c) (hK : ∀ pc ls st μ, K pc ls st μ → WW lay adr cA D M d Q p l e s m args below meth c pc ls st μ) {a : Int} {bs : List Nat} (hc : chkE M pc (26, a, bs) = true) (h : s_iast pc ls st μ K) : WW lay adr cA D M d Q p l e s m args below meth c pc ls st μ := by
  intro H locs la hP hS hL h1 h2
  unfold s_iast at h
  split at h
  · next v i τ id st =>
    split at h
    · next ht =>
      have hi := isIA_at ht
      have hkd := k_rf (k_hd (k_tl (k_tl h2))) (by omega)
      obtain ⟨t0, ht0⟩ := tys_get (cA := cA) hkd (by omega)
      rw [aty_I hi] at ht0
      have he := wld_get (adr := adr) (cA := cA) (μ := μ) hkd (by omega)
      rw [cellE_I hi] at he
      refine va_iast X.1 X.2.1 X.2.2.2.2.2.1 hP (wld_D X.2.2.2.2.2.2.1) hS id t0 he ht0 h.1 (dk_at hc) (fun H1 locs1 hP1 hD1 hS1 => ?_)
      rw [wld_ext hkd (by omega) (e := .inl (cA id, τ - 10000, .inl (upd (μ.1 id) i.toNatClampNeg v))) (μ1 := upI μ id i.toNatClampNeg v) (by rw [cellE_I hi, upI_self]) (fun b hb t => cellE_cong (upI_ne hb) rfl t)] at hP1
      exact hK _ _ _ _ h.2 H1 locs1 la hP1 hS1 hL h1 (k_tl (k_tl (k_tl h2)))
    · exact h.elim
  · exact h.elim
theorem ok_lald (X : Cx lay adr cA D M p s m args c) (hK : ∀ pc ls st μ, K pc ls st μ → WW lay adr cA D M d Q p l e s m args below meth c pc ls st μ) {a : Int} {bs : List Nat} (hc : chkE M pc (27, a, bs) = true) (h : s_lald pc ls st μ K) : WW lay adr cA D M d Q p l e s m args below meth c pc ls st μ := by
  intro H locs la hP hS hL h1 h2
  unfold s_lald at h
  split at h
  · next i τ id st =>
    split at h
    · next ht =>
      have hi : 20000 ≤ τ := Nat.le_of_ble_eq_true ht
      have hkd := k_rf (k_hd (k_tl h2)) (by omega)
      obtain ⟨t0, ht0⟩ := tys_get (cA := cA) hkd (by omega)
      rw [aty_L hi] at ht0
      have he := wld_get (adr := adr) (cA := cA) (μ := μ) hkd (by omega)
      rw [cellE_L hi] at he
      exact va_lald X.1 X.2.1 X.2.2.2.2.2.1 hP id t0 he ht0 h.1 (dk_at hc) (hK _ _ _ _ h.2 H locs la hP hS hL h1 (k_cons trivial (k_tl (k_tl h2))))
    · exact h.elim
  · exact h.elim
theorem ok_last (X : Cx lay adr cA D M p s m args c) (hK : ∀ pc ls st μ, K pc ls st μ → WW lay adr cA D M d Q p l e s m args below meth c pc ls st μ) {a : Int} {bs : List Nat} (hc : chkE M pc (28, a, bs) = true) (h : s_last pc ls st μ K) : WW lay adr cA D M d Q p l e s m args below meth c pc ls st μ := by
  intro H locs la hP hS hL h1 h2
  unfold s_last at h
  split at h
  · next v i τ id st =>
    split at h
    · next ht =>
      have hi : 20000 ≤ τ := Nat.le_of_ble_eq_true ht
      have hkd := k_rf (k_hd (k_tl (k_tl h2))) (by omega)
      obtain ⟨t0, ht0⟩ := tys_get (cA := cA) hkd (by omega)
      rw [aty_L hi] at ht0
      have he := wld_get (adr := adr) (cA := cA) (μ := μ) hkd (by omega)
      rw [cellE_L hi] at he
      refine va_last X.1 X.2.1 X.2.2.2.2.2.1 hP (wld_D X.2.2.2.2.2.2.1) hS id t0 he ht0 h.1 (dk_at hc) (fun H1 locs1 hP1 hD1 hS1 => ?_)
      have hw2 := wld_ext (lay := lay) (adr := adr) (cA := cA) (μ := μ) (e := .inl (cA id, τ - 20000, .inr (.inl (vp_updL (μ.2 id) i.toNatClampNeg v)))) (μ1 := upL μ id i.toNatClampNeg v) hkd (by omega) (by rw [cellE_L hi, upL_self]) (fun b hb t => cellE_cong (μ := μ) (μ1 := upL μ id i.toNatClampNeg v) rfl (upL_ne hb) t)
      have hP2 : va_P D classes (wld lay adr cA (upL μ id i.toNatClampNeg v)) H1 := by rw [← hw2]; exact hP1
      exact hK _ _ _ _ h.2 H1 locs1 la hP2 hS1 hL h1 (k_tl (k_tl (k_tl h2)))
    · exact h.elim
  · exact h.elim
theorem rarr_cases {τ n t g : Nat} (h : rarr τ = some (n, t, g)) : 30 ≤ τ ∧ τ < 33 := by
  unfold rarr at h
  split at h
  · omega
  · omega
  · omega
  · cases h
theorem aty_ref {τ : Nat} (h : 30 ≤ τ ∧ τ < 33) : (aty τ).isReference = true := by
  unfold aty
  split
  · rfl
  · rw [if_pos h.2]; rfl
theorem ok_aald (X : Cx lay adr cA D M p s m args c) (hK : ∀ pc ls st μ, K pc ls st μ → WW lay adr cA D M d Q p l e s m args below meth c pc ls st μ) {a : Int} {bs : List Nat} (hc : chkE M pc (29, a, bs) = true) (h : s_aald pc ls st μ K) : WW lay adr cA D M d Q p l e s m args below meth c pc ls st μ := by
  intro H locs la hP hS hL h1 h2
  unfold s_aald at h
  split at h
  · next i τ id st =>
    split at h
    · next n t g hr =>
      have hi := rarr_cases hr
      have hkd := k_rf (k_hd (k_tl h2)) (by omega)
      obtain ⟨t0, ht0⟩ := tys_get (cA := cA) hkd (by omega)
      have he := wld_get (adr := adr) (cA := cA) (μ := μ) hkd (by omega)
      unfold cellE at he
      rw [hr] at he
      obtain ⟨hin, h⟩ := h
      have hlt : i.toNatClampNeg < n := Nat.not_le.mp fun q => hin (Or.inr q)
      have hk2 := hK _ _ _ _ h H locs la hP hS hL h1 (k_cons (v := rf t (id + 1 + g * i.toNatClampNeg)) (Or.inr (wf_arr X.2.2.2.2.2.2.2 hkd (by omega) hr hlt)) (k_tl (k_tl h2)))
      refine W.aald (v := .ref (adr (id + 1 + g * i.toNatClampNeg))) (ty := aty τ) X.1 X.2.1 (hP id _ he) ((X.2.2.2.2.2.1.2 t0 _ ht0).1 n (fun j => va_rf (if j < n then some (adr (id + 1 + g * j)) else none))) (aty_ref hi) (fun q => by cases q) (by show ¬ (i < 0 ∨ (arrV _ _ _).slots.size ≤ _); rw [arrV_size]; exact hin) (by show (arrV _ _ _).slots[_]? = _; rw [arrV_read _ _ hlt]; simp [hlt, va_rf]) rfl rfl (dk_at hc) hk2
    · exact h.elim
  · exact h.elim
theorem ok_alen (X : Cx lay adr cA D M p s m args c) (hK : ∀ pc ls st μ, K pc ls st μ → WW lay adr cA D M d Q p l e s m args below meth c pc ls st μ) {a : Int} {bs : List Nat} (hc : chkE M pc (30, a, bs) = true) (h : s_alen pc ls st μ K) : WW lay adr cA D M d Q p l e s m args below meth c pc ls st μ := by
  intro H locs la hP hS hL h1 h2
  unfold s_alen at h
  split at h
  · next τ id st =>
    split at h
    · next ht =>
      have hi := isIA_at ht
      have hkd := k_rf (k_hd h2) (by omega)
      obtain ⟨t0, ht0⟩ := tys_get (cA := cA) hkd (by omega)
      have he := wld_get (adr := adr) (cA := cA) (μ := μ) hkd (by omega)
      rw [cellE_I hi] at he
      exact va_alen X.1 X.2.1 X.2.2.2.2.2.1 hP id t0 he ht0 rfl (dk_at hc) (hK _ _ _ _ h H locs la hP hS hL h1 (k_cons trivial (k_tl h2)))
    · exact h.elim
  · exact h.elim
end SOUND2
end
section
def rkV (rk : Nat) (v : Option TV) : Prop := match rk with
  | 0 => v = none
  | 1 => ∃ x, v = some (vi x)
  | _ => ∃ x, v = some (vl x)
section SOUND3
variable {p : Program} {l : Launch} {e : Env} {s : State} {m : MethodId} {args : Array Value} {below : List Frame} {meth : Method} {c : Code} {Q : State → Prop}
variable {lay : List Nat} {adr : Nat → Nat} {cA : Nat → ClassId} {D : va_G} {M d : Nat}
variable {K : KT} {pc : Nat} {ls st : List TV} {μ : Mem} {P : PT} {rk : Nat}
abbrev QM (D : va_G) (lay : List Nat) (adr : Nat → Nat) (cA : Nat → ClassId) (s : State) (args : Array Value) (below : List Frame) (rk : Nat) (P : PT) : State → Prop := MQ below (Qr D lay adr cA (Aset lay adr s.heap.size) rk P) args s 0 0 (Aset lay adr s.heap.size)
theorem ok_iret (X : Cx lay adr cA D M p s m args c) (hr : meth.sig.returnType = mRt M) (hlocks : meth.locks = false) {a : Int} {z : Nat} (hc : chkE M pc (31, a, [z]) = true) (h : s_iret z st μ P) : WW lay adr cA D M d (QM D lay adr cA s args below (rkOf (mRt M)) P) p l e s m args below meth c pc ls st μ := by
  intro H locs la hP hS hL h1 h2
  simp only [chkE, Bool.and_eq_true, decide_eq_true_eq] at hc
  obtain ⟨hd, hrt⟩ := hc
  rw [hrt] at hr
  unfold s_iret at h
  split at h
  · next v =>
    rcases z with _ | z
    · rw [hrt]
      exact W.iret (v := v) X.1 X.2.1 hr (fun t ht hW => ⟨⟨v, μ, rfl, h, by show va_P D classes _ t.heap; rw [ht]; exact hP⟩, hS.F ht⟩) hS.2.2 (dk_at hd) hlocks
    · obtain ⟨hv, h⟩ := h
      rw [hrt]
      exact W.zret (v := v) (ty := .boolean) X.1 X.2.1 hr (by rcases hv with e | e <;> subst e <;> decide) (fun t ht hW => ⟨⟨v, μ, rfl, h, by show va_P D classes _ t.heap; rw [ht]; exact hP⟩, hS.F ht⟩) hS.2.2 (dk_at hd) hlocks
  · exact h.elim
theorem ok_lret (X : Cx lay adr cA D M p s m args c) (hr : meth.sig.returnType = mRt M) (hlocks : meth.locks = false) {a : Int} {bs : List Nat} (hc : chkE M pc (32, a, bs) = true) (h : s_lret st μ P) : WW lay adr cA D M d (QM D lay adr cA s args below (rkOf (mRt M)) P) p l e s m args below meth c pc ls st μ := by
  intro H locs la hP hS hL h1 h2
  simp only [chkE, Bool.and_eq_true, decide_eq_true_eq] at hc
  obtain ⟨hd, hrt⟩ := hc
  rw [hrt] at hr
  unfold s_lret at h
  split at h
  · next v =>
    rw [hrt]
    exact W.lret (v := v) X.1 X.2.1 hr (fun t ht hW => ⟨⟨v, μ, rfl, h, by show va_P D classes _ t.heap; rw [ht]; exact hP⟩, hS.F ht⟩) hS.2.2 (dk_at hd) hlocks
  · exact h.elim
theorem ok_ret (X : Cx lay adr cA D M p s m args c) (hr : meth.sig.returnType = mRt M) (hlocks : meth.locks = false) {a : Int} {bs : List Nat} (hc : chkE M pc (33, a, bs) = true) (h : s_ret st μ P) : WW lay adr cA D M d (QM D lay adr cA s args below (rkOf (mRt M)) P) p l e s m args below meth c pc ls st μ := by
  intro H locs la hP hS hL h1 h2
  simp only [chkE, Bool.and_eq_true, decide_eq_true_eq] at hc
  obtain ⟨hd, hrt⟩ := hc
  rw [hrt] at hr
  unfold s_ret at h
  split at h
  · rw [hrt]
    exact W.vret X.1 X.2.1 hr (fun t ht hW => ⟨⟨μ, rfl, h, by show va_P D classes _ t.heap; rw [ht]; exact hP⟩, hS.F ht⟩) hS.2.2 (dk_at hd) hlocks
  · exact h.elim
theorem ok_math (X : Cx lay adr cA D M p s m args c) (hK : ∀ pc ls st μ, K pc ls st μ → WW lay adr cA D M d Q p l e s m args below meth c pc ls st μ) {a : Int} {idx b p0 p1 p2 p3 : Nat} (hc : chkE M pc (36, a, [idx, b, p0, p1, p2, p3]) = true) (h : s_math b pc ls st μ K) : WW lay adr cA D M d Q p l e s m args below meth c pc ls st μ := by
  intro H locs la hP hS hL h1 h2
  unfold s_math at h
  split at h
  · next y x st =>
    split at h
    · next hs =>
      have hk := hK _ _ _ _ h H locs la hP hS hL h1 (k_cons trivial (k_tl (k_tl h2)))
      have hs2 : ((st.map (cv adr)).map fun v => v.category).sum + 13 ≤ (rmD d).locals := by
        have e1 : (st.map (cv adr)).map (fun v => v.category) = st.map tcat := by
          rw [List.map_map]
          exact List.map_congr_left (fun v _ => cv_cat adr v)
        rw [e1]
        have := Nat.le_of_ble_eq_true hs
        simp only [rmD]
        omega
      have hml : c.maxLocals = la.size := by rw [X.2.2.1, hL.1.1]
      simp only [chkE, Bool.and_eq_true] at hc
      obtain ⟨hd, hi, hw⟩ := hc
      rcases b with _ | b
      · simp only [Bool.and_eq_true] at hw
        obtain ⟨w1, w2, w3⟩ := hw
        exact va_mmax X.1 X.2.1 hml X.2.2.2.1 (X.word (wAt_in w1 rfl)) (X.word (wAt_in w2 rfl)) (X.word (wAt_in hi rfl)) (X.word (wAt_in w3 rfl)) (by simp [rmD]) hs2 (Nat.zero_le _) (Nat.zero_le _) (dk_at hd) hk
      · simp only [Bool.and_eq_true] at hw
        obtain ⟨w1, w2, w3⟩ := hw
        exact va_mmin X.1 X.2.1 hml X.2.2.2.1 (X.word (wAt_in w1 rfl)) (X.word (wAt_in w2 rfl)) (X.word (wAt_in hi rfl)) (X.word (wAt_in w3 rfl)) (by simp [rmD]) hs2 (Nat.zero_le _) (Nat.zero_le _) (dk_at hd) hk
    · exact h.elim
  · exact h.elim
theorem gIn {ws : List Cond} (h : ∀ w ∈ ws, w ∈ lg) : GoodIn (wsOf M) ws := fun w hw => ⟨List.mem_cons_of_mem _ (h w hw), good_of_word (List.mem_filter.mp (h w hw)).2⟩
theorem call_go {d1 : Nat} {la : Array Slot} {H : Heap} {locs : List Loc} {st0 : List Value} {rest : List TV} {a : Array Value}
    (hr : va_Run p l e (rmD d1) s m args below meth c H locs 0 0 0 0 (F0 m pc la st0) (rest.map (cv adr)) (Qr D lay adr cA (Aset lay adr H.size) rk P a) (Aset lay adr H.size)) (hS : va_S (Aset lay adr s.heap.size) s.heap H locs)
    (kk : ∀ (H1 : Heap) (locs1 : List Loc) (v : Option TV) (μ1 : Mem), rkV rk v → P v μ1 → va_P D classes (wld lay adr cA μ1) H1 → va_S (Aset lay adr s.heap.size) s.heap H1 locs1 → W p l e (rmD d1) s m args below meth c H1 locs1 0 0 Q (F0 m (pc + 3) la ((v.toList ++ rest).map (cv adr)))) : W p l e (rmD d1) s m args below meth c H locs 0 0 Q (F0 m pc la st0) := by
  have hA : ∀ q, Aset lay adr H.size q → Aset lay adr s.heap.size q := fun q h => by
    rcases h with h | h
    · exact Or.inl h
    · exact Or.inr (Nat.le_trans hS.1 h)
  rcases rk with _ | _ | rk
  · exact va_callv (a := a) hr hS (fun q _ h => hA q h) hA (fun u t H1 locs1 ht hvm hw hB hz hk hS1 => kk H1 locs1 none u rfl hw (by rw [← ht]; exact hB) hS1)
  · exact va_calli (a := a) hr hS (fun q _ h => hA q h) hA (fun y u t H1 locs1 ht hvm hw hB hz hk hS1 => kk H1 locs1 (some (vi y)) u ⟨y, rfl⟩ hw (by rw [← ht]; exact hB) hS1)
  · exact va_calll (a := a) hr hS (fun q _ h => hA q h) hA (fun y u t H1 locs1 ht hvm hw hB hz hk hS1 => kk H1 locs1 (some (vl y)) u ⟨y, rfl⟩ hw (by rw [← ht]; exact hB) hS1)
theorem cal_at {M' n rk idx pl p1 p4 : Nat} (h : calOk M M' n rk idx pl p1 p4 = true) : rk = rkOf (mRt M') ∧ Cond.methodLink (mNm M).cls idx (mNm M') ∈ lg ∧ Cond.code (mNm M') (mBy M') (mMx M') (mRt M') ∈ lg ∧ Cond.initialized (mNm M').cls ∈ lg ∧ ((mNm M').cls ≠ "java/lang/invoke/MethodHandle" ∧ (mNm M').cls ≠ "java/lang/invoke/VarHandle" ∧ (parseMethodDescriptor (mNm M').desc).map (fun d => d.parameters.length) = some n) ∧ mMx M' ≤ 40 := by
  simp only [calOk, Bool.and_eq_true] at h
  obtain ⟨⟨h0, h1⟩, h2, h3, h4, h5⟩ := h
  exact ⟨by simpa using h0, wAt_in h1 rfl, wAt_in h2 rfl, wAt_in h3 rfl, of_decide_eq_true h4, Nat.le_of_ble_eq_true h5⟩
theorem ws_in {M' : Nat} (h : Cond.code (mNm M') (mBy M') (mMx M') (mRt M') ∈ lg) : ∀ w ∈ wsOf M', w ∈ lg := fun w hw => by
  rcases List.mem_cons.mp hw with e | e
  · rw [e]; exact h
  · exact e
theorem stk_cut (n : Nat) : st.map (cv adr) = (((st.take n).reverse).map (cv adr)).reverse ++ (st.drop n).map (cv adr) := by
  rw [List.map_reverse, List.reverse_reverse, ← List.map_append, List.take_append_drop]
theorem cat_sum {st : List TV} (h : Nat.ble ((st.map tcat).sum) 8 = true) {la : Array Slot} {rest : List Value} : 2 * (F0 m pc la rest).monitorRoom + ((st.map (cv adr)).map fun v => v.category).sum ≤ 8 := by
  refine lv_room ?_
  have e1 : (st.map (cv adr)).map (fun v => v.category) = st.map tcat := by
    rw [List.map_map]
    exact List.map_congr_left (fun v _ => cv_cat adr v)
  rw [e1]
  exact Nat.le_of_ble_eq_true h
theorem pre_blind {av : List Value} {sz : Nat} : FrameBlind (va_Pc av (fun U => U.heap.size = sz ∧ va_P D classes (wld lay adr cA μ) U.heap ∧ va_K D classes (tysL lay cA) U)) := fun a U g mk q => by
  obtain ⟨q0, q1, qP, qK⟩ := q
  exact ⟨q0, q1, qP, va_K.moved (u := U) (U := U.calling g mk a) (Vm.Alike.refl U.vm) qK⟩
theorem room_ok {M' : Nat} (h : mMx M' ≤ 40) : (rmD d).frames + 1 ≤ (rmD (d + 1)).frames ∧ 8 + (mMx M' + 11) + (rmD d).locals ≤ (rmD (d + 1)).locals := by
  simp only [rmD]
  omega
theorem s_call_use {C : CT} {M' n rk : Nat} (h : s_call C M' n rk pc ls st μ K) : n ≤ st.length ∧ Nat.ble (((st.drop n).map tcat).sum) 8 = true ∧ ∃ P : PT, C M' (st.take n).reverse μ P ∧ ∀ (v : Option TV) (μ1 : Mem), rkV rk v → P v μ1 → K (pc + 3) ls (v.toList ++ st.drop n) μ1 ∧ ∀ w ∈ v.toList, kOK lay w := by
  unfold s_call at h
  split at h
  · exact h.elim
  · next hb =>
    simp only [Bool.and_eq_true] at hb
    refine ⟨Nat.le_of_ble_eq_true hb.1, hb.2, ?_⟩
    rcases rk with _ | _ | rk
    · obtain ⟨P, h1, h2⟩ := h
      refine ⟨P, h1, fun v μ1 hv hp => ?_⟩
      have hv : v = none := hv
      subst hv
      exact ⟨h2 μ1 hp, fun w hw => by cases hw⟩
    · obtain ⟨P, h1, h2⟩ := h
      refine ⟨P, h1, fun v μ1 hv hp => ?_⟩
      obtain ⟨x, rfl⟩ : ∃ x, v = some (vi x) := hv
      exact ⟨h2 x μ1 hp, fun w hw => by simp at hw; subst hw; trivial⟩
    · obtain ⟨P, h1, h2⟩ := h
      refine ⟨P, h1, fun v μ1 hv hp => ?_⟩
      obtain ⟨x, rfl⟩ : ∃ x, v = some (vl x) := hv
      exact ⟨h2 x μ1 hp, fun w hw => by simp at hw; subst hw; trivial⟩
theorem ok_callS (X : Cx lay adr cA D M p s m args c) (hK : ∀ pc ls st μ, K pc ls st μ → WW lay adr cA D M d Q p l e s m args below meth c pc ls st μ) {a : Int} {idx M' n rk x0 pl p1 p2 p3 p4 : Nat} (hc : chkE M pc (35, a, [idx, M', n, rk, x0, pl, p1, p2, p3, p4]) = true) (h : s_call (CD lay d) M' n rk pc ls st μ K) : WW lay adr cA D M d Q p l e s m args below meth c pc ls st μ := by
  intro H locs la hP hS hL h1 h2
  obtain ⟨hn, hcat, P, hC, hk⟩ := s_call_use (lay := lay) h
  rcases d with _ | d
  · exact hC.elim
  simp only [chkE, Bool.and_eq_true] at hc
  obtain ⟨hd, hcal, hst⟩ := hc
  obtain ⟨w0, w1, w2, w3, w4, w5⟩ := cal_at hcal
  have hM := hC (fun v hv => h2 v (List.mem_of_mem_take (List.mem_reverse.mp hv))) l D adr cA H.size X.2.2.2.2.2.2.1
  rw [← w0] at hM
  have hT : GoodIn (wsOf M) (va_wsS (mNm M).cls idx (mNm M') (wsOf M')) := gIn (fun w hw => by
    rcases List.mem_append.mp hw with q | q
    · rcases List.mem_cons.mp q with e | q
      · rw [e]; exact w1
      rcases List.mem_cons.mp q with e | q
      · rw [e]; exact wAt_in hst rfl
      rcases List.mem_cons.mp q with e | q
      · rw [e]; exact w3
      cases q
    · exact ws_in w2 w q)
  refine call_go (va_runS (As := ((st.take n).reverse).map (cv adr)) (rest := (st.drop n).map (cv adr)) ⟨X.1, X.2.1, X.2.2.1, X.2.2.2.1, X.2.2.2.2.1⟩ hM (va_cwS n X.2.2.2.2.1 hT rfl rfl rfl w4 (room_ok w5)) ⟨pre_blind, fun U hU hW => ⟨rfl, by rw [hU], by rw [hU]; exact hP, va_K.moved hW.alike X.2.2.2.2.2.1⟩⟩ rfl (by simp; omega) hL.1.1 (stk_cut n) (cat_sum hcat) (dk_at hd) ⟨Nat.le_refl _, Nat.le_refl _⟩) hS (fun H1 locs1 v μ1 hv hp hP1 hS1 => ?_)
  obtain ⟨hk1, hkr⟩ := hk v μ1 hv hp
  exact hK _ _ _ _ hk1 H1 locs1 la hP1 hS1 hL h1 (fun v hv => by
    rcases List.mem_append.mp hv with q | q
    · exact hkr v q
    · exact h2 v (List.mem_of_mem_drop q))
theorem ok_callV (X : Cx lay adr cA D M p s m args c) (hK : ∀ pc ls st μ, K pc ls st μ → WW lay adr cA D M d Q p l e s m args below meth c pc ls st μ) {a : Int} {idx M' n rk ci pl p1 p2 p3 p4 : Nat} (hc : chkE M pc (34, a, [idx, M', n, rk, ci, pl, p1, p2, p3, p4]) = true) (h : s_callV (CD lay d) M' n rk ci pc ls st μ K) : WW lay adr cA D M d Q p l e s m args below meth c pc ls st μ := by
  intro H locs la hP hS hL h1 h2
  unfold s_callV at h
  split at h
  · next τ id hx =>
    split at h
    · next hτ =>
      have hτ : τ = ci + 10 := by simpa using hτ
      subst hτ
      obtain ⟨hn, hcat, P, hC, hk⟩ := s_call_use (lay := lay) h
      rcases d with _ | d
      · exact hC.elim
      simp only [chkE, Bool.and_eq_true, decide_eq_true_eq] at hc
      obtain ⟨hd, hcal, hst, hsl, hcn, hci⟩ := hc
      obtain ⟨w0, w1, w2, w3, w4, w5⟩ := cal_at hcal
      have hM := hC (fun v hv => h2 v (List.mem_of_mem_take (List.mem_reverse.mp hv))) l D adr cA H.size X.2.2.2.2.2.2.1
      rw [← w0] at hM
      have hkd : knd lay id = ci + 10 := k_rf (h2 _ (List.mem_of_getElem? hx)) (by omega)
      have htk : (st.take (n + 1)).reverse = rf (ci + 10) id :: (st.take n).reverse := by
        rw [List.take_succ, hx]
        simp
      have hT : GoodIn (wsOf M) (wsV (mNm M).cls idx (mNm M').cls (mNm M') (wsOf M')) := gIn (fun w hw => by
        rcases List.mem_append.mp hw with q | q
        · rcases List.mem_cons.mp q with e | q
          · rw [e]; exact w1
          rcases List.mem_cons.mp q with e | q
          · rw [e]; exact wAt_in hst rfl
          rcases List.mem_cons.mp q with e | q
          · rw [e]; exact wAt_in hsl rfl
          rcases List.mem_cons.mp q with e | q
          · rw [e]; exact w3
          cases q
        · exact ws_in w2 w q)
      obtain ⟨q, hq⟩ : ∃ q : vw_C, classes[ci]? = some q := ⟨classes[ci], List.getElem?_eq_getElem hci⟩
      have hqn : q.1 = (mNm M').cls := by
        rw [← hcn]
        unfold clsNm
        rw [List.getD, hq]
        rfl
      have he : (wld lay adr cA μ)[id]? = some (adr id, .inr (ci, (List.range (nfl ci)).map (fval adr μ id ci))) := by
        rw [wld_get hkd (by omega), cellE_obj hci]
      have hrv := va_recv X.2.2.2.2.2.1 hP hq he
      rw [hqn] at hrv
      refine call_go (va_runV (C := (mNm M').cls) (b := adr id) (As := ((st.take n).reverse).map (cv adr)) (rest := (st.drop (n + 1)).map (cv adr)) ⟨X.1, X.2.1, X.2.2.1, X.2.2.2.1, X.2.2.2.2.1⟩ hM (cwV n X.2.2.2.2.1 hT rfl rfl rfl ⟨rfl, w4⟩ (room_ok w5)) ⟨pre_blind, hrv, fun U hU hW => ⟨by rw [htk]; rfl, by rw [hU], by rw [hU]; exact hP, va_K.moved hW.alike X.2.2.2.2.2.1⟩⟩ rfl (by simp; omega) hL.1.1 ?_ (cat_sum hcat) (dk_at hd) ⟨Nat.le_refl _, Nat.le_refl _⟩) hS (fun H1 locs1 v μ1 hv hp hP1 hS1 => ?_)
      · show st.map (cv adr) = _
        rw [stk_cut (st := st) (n + 1), htk]
        simp [cv]
      · obtain ⟨hk1, hkr⟩ := hk v μ1 hv hp
        exact hK _ _ _ _ hk1 H1 locs1 la hP1 hS1 hL h1 (fun v hv => by
          rcases List.mem_append.mp hv with q | q
          · exact hkr v q
          · exact h2 v (List.mem_of_mem_drop q))
    · exact h.elim
  · exact h.elim
end SOUND3
end
section
/-! a method's contract out of its own steps -/
/-- locals that are forgotten -/
def fgt (m : List Nat) (ls : List TV) : List TV := m.foldl (fun l k => l.set k un) ls
def Clo (lay : List Nat) (d M : Nat) (P : PT) (G : KT) : Prop := (∀ K : KT, (∀ pc ls st μ, K pc ls st μ → G pc ls st μ) → ∀ pc ls st μ, stpE (CD lay d) (lk (mTb M) pc) P pc ls st μ K → G pc ls st μ) ∧ ∀ m pc ls st μ, G pc (fgt m ls) st μ → G pc ls st μ
theorem LH.fg {adr : Nat → Nat} {la : Array Slot} {nL : Nat} : ∀ {m : List Nat} {ls : List TV}, LH adr la nL ls → LH adr la nL (fgt m ls)
  | [], ls, h => h
  | k :: m, ls, h => by
    have h2 : LH adr la nL (ls.set k un) := by
      refine ⟨⟨h.1.1, h.1.2.1, fun q hq => h.1.2.2 q ?_⟩, by rw [List.length_set]; exact h.2⟩
      obtain ⟨j, w, h1, h2, h3⟩ := prs_mem.mp hq
      refine prs_mem.mpr ⟨j, w, ?_, h2, h3⟩
      by_cases e : j = k
      · subst e
        rw [List.getElem?_set] at h1
        simp at h1
        obtain ⟨-, h1⟩ := h1
        subst h1
        simp [kn] at h2
      · rw [List.getElem?_set_ne (Ne.symm e)] at h1
        exact h1
    exact LH.fg (m := m) h2
theorem fg_in {lay : List Nat} : ∀ {m : List Nat} {ls : List TV}, (∀ u ∈ ls, kOK lay u) → ∀ u ∈ fgt m ls, kOK lay u
  | [], ls, h => h
  | k :: m, ls, h => fg_in (m := m) (ls := ls.set k un) (fun u hu => by
    rcases List.mem_or_eq_of_mem_set hu with q | q
    · exact h u q
    · rw [q]; exact kOK_un lay)
section INTRO
variable {p : Program} {l : Launch} {e : Env} {s : State} {m : MethodId} {args : Array Value} {below : List Frame} {meth : Method} {c : Code}
variable {lay : List Nat} {adr : Nat → Nat} {cA : Nat → ClassId} {D : va_G} {M d : Nat} {P : PT}
theorem clo_WW (X : Cx lay adr cA D M p s m args c) (hr : meth.sig.returnType = mRt M) (hlocks : meth.locks = false) (hok : okB M = true) : Clo lay d M P (WW lay adr cA D M d (QM D lay adr cA s args below (rkOf (mRt M)) P) p l e s m args below meth c) := by
  refine ⟨?_, fun m pc ls st μ h H locs la hP hS hL h1 h2 => h H locs la hP hS hL.fg (fg_in h1) h2⟩
  intro K hK pc ls st μ h
  have hc := okB_at hok pc
  generalize lk (mTb M) pc = i at h hc
  unfold stpE at h
  split at h
  · exact ok_const X hK hc h
  · exact ok_lconst X hK hc h
  · exact ok_iload X hK hc h
  · exact ok_lload X hK hc h
  · exact ok_aload X hK hc h
  · exact ok_istore X hK hc h
  · exact ok_lstore X hK hc h
  · exact ok_astore X hK hc h
  · exact ok_iinc X hK hc h
  · exact ok_ibin X hK hc h
  · exact ok_idr X hK hc h
  · exact ok_lbin X hK hc h
  · exact ok_ldr X hK hc h
  · exact ok_i2l X hK hc h
  · exact ok_l2i X hK hc h
  · exact ok_lcmp X hK hc h
  · exact ok_dup X hK hc h
  · exact ok_dup2 X hK hc h
  · exact ok_pop X hK hc h
  · exact ok_goto X hK hc h
  · exact ok_if X hK hc h
  · exact ok_icmp X hK hc h
  · exact ok_switch X hK hc h
  · exact ok_get X hK hc h
  · exact ok_put X hK hc h
  · exact ok_iald X hK hc h
  · exact ok_iast X hK hc h
  · exact ok_lald X hK hc h
  · exact ok_last X hK hc h
  · exact ok_aald X hK hc h
  · exact ok_alen X hK hc h
  · exact ok_iret X hr hlocks hc h
  · exact ok_lret X hr hlocks hc h
  · exact ok_ret X hr hlocks hc h
  · exact ok_callV X hK hc h
  · exact ok_callS X hK hc h
  · next a idx b bs =>
    rcases bs with _ | ⟨p0, _ | ⟨p1, _ | ⟨p2, _ | ⟨p3, _ | ⟨q, bs⟩⟩⟩⟩⟩
    · exact absurd hc (by simp [chkE])
    · exact absurd hc (by simp [chkE])
    · exact absurd hc (by simp [chkE])
    · exact absurd hc (by simp [chkE])
    · exact ok_math X hK hc h
    · exact absurd hc (by simp [chkE])
  · exact h.elim
end INTRO
def aLoc : List TV → List TV
  | [] => []
  | v :: l => match isL v with
    | true => v :: un :: aLoc l
    | false => v :: aLoc l
def padL : Nat → List TV → List TV
  | 0, l => l
  | n + 1, [] => un :: padL n []
  | n + 1, v :: l => v :: padL n l
theorem padL_len : ∀ {n : Nat} {l : List TV}, l.length ≤ n → (padL n l).length = n
  | 0, l, h => by simp only [padL]; omega
  | n + 1, [], h => by simp only [padL, List.length_cons]; rw [padL_len (Nat.zero_le n)]
  | n + 1, v :: l, h => by simp only [padL, List.length_cons]; rw [padL_len (by simpa using h)]
theorem padL_in {v : TV} : ∀ {n : Nat} {l : List TV}, v ∈ padL n l → v = un ∨ v ∈ l
  | 0, l, h => Or.inr h
  | n + 1, [], h => by
    simp only [padL] at h
    rcases List.mem_cons.mp h with e | e
    · exact Or.inl e
    · rcases padL_in e with q | q
      · exact Or.inl q
      · cases q
  | n + 1, w :: l, h => by
    simp only [padL] at h
    rcases List.mem_cons.mp h with e | e
    · exact Or.inr (by rw [e]; exact List.mem_cons_self)
    · rcases padL_in e with q | q
      · exact Or.inl q
      · exact Or.inr (List.mem_cons_of_mem _ q)
theorem padL_prs {adr : Nat → Nat} : ∀ {n i : Nat} {l : List TV}, prs adr i (padL n l) = prs adr i l
  | 0, i, l => rfl
  | n + 1, i, [] => by
    simp only [padL]
    show prs adr (i + 1) (padL n []) = []
    rw [padL_prs]
    rfl
  | n + 1, i, v :: l => by
    simp only [padL, prs]
    cases kn v with
    | true => simp only; rw [padL_prs]
    | false => simp only; rw [padL_prs]
theorem aLoc_in {v : TV} : ∀ {l : List TV}, v ∈ aLoc l → v = un ∨ v ∈ l
  | [], h => by cases h
  | w :: l, h => by
    simp only [aLoc] at h
    split at h
    · rcases List.mem_cons.mp h with e | h
      · exact Or.inr (by rw [e]; exact List.mem_cons_self)
      rcases List.mem_cons.mp h with e | h
      · exact Or.inl e
      rcases aLoc_in h with q | q
      · exact Or.inl q
      · exact Or.inr (List.mem_cons_of_mem _ q)
    · rcases List.mem_cons.mp h with e | h
      · exact Or.inr (by rw [e]; exact List.mem_cons_self)
      rcases aLoc_in h with q | q
      · exact Or.inl q
      · exact Or.inr (List.mem_cons_of_mem _ q)
theorem aLoc_sl {adr : Nat → Nat} : ∀ {l : List TV}, (lg_sl (l.map (cv adr))).length = (aLoc l).length
  | [] => rfl
  | v :: l => by
    have ih := aLoc_sl (adr := adr) (l := l)
    unfold lg_sl at ih ⊢
    rw [List.map_cons, List.flatMap_cons, List.length_append, ih, cv_cat]
    simp only [aLoc]
    rcases v with x | x | x
    · simp [tcat, isL]; omega
    · simp [tcat, isL]; omega
    · simp [tcat, isL]; omega
theorem aLoc_prs {adr : Nat → Nat} {q : Nat × Value} : ∀ {l : List TV} {i : Nat}, q ∈ prs adr i (aLoc l) → q ∈ lv_args i (l.map (cv adr))
  | [], i, h => by cases h
  | v :: l, i, h => by
    rw [List.map_cons]
    unfold lv_args
    rw [cv_cat]
    rcases v with x | x | ⟨_ | τ, id⟩
    · simp only [aLoc, isL, prs, kn, tcat] at h ⊢
      rcases List.mem_cons.mp h with e | h
      · rw [e]; exact List.mem_cons_self
      · exact List.mem_cons_of_mem _ (aLoc_prs h)
    · simp only [aLoc, isL, prs, kn, tcat] at h ⊢
      rcases List.mem_cons.mp h with e | h
      · rw [e]; exact List.mem_cons_self
      · exact List.mem_cons_of_mem _ (aLoc_prs h)
    · simp only [aLoc, isL, prs, kn, tcat] at h ⊢
      exact List.mem_cons_of_mem _ (aLoc_prs h)
    · simp only [aLoc, isL, prs, kn, tcat] at h ⊢
      rcases List.mem_cons.mp h with e | h
      · rw [e]; exact List.mem_cons_self
      · exact List.mem_cons_of_mem _ (aLoc_prs h)
theorem Rn_intro {lay : List Nat} {d M : Nat} {av : List TV} {μ : Mem} {P : PT} (hok : okB M = true) (hwf : wfB lay = true) (hlen : Nat.ble (aLoc av).length (mMx M) = true) (HG : ∀ G : KT, Clo lay d M P G → G 0 (padL (mMx M) (aLoc av)) [] μ) : Rn lay d M av μ P := by
  intro hkv l D adr cA sz hi
  have hlen := Nat.le_of_ble_eq_true hlen
  have hy : plainName (mNm M).cls = true := by
    have h := hok
    simp only [okB, Bool.and_eq_true] at h
    exact h.1
  refine Met.ofW (cc := mBy M) (maxL := mMx M) (ret := mRt M) hy rfl ?_
  intro p e s m args below meth c s₁ B hml hv
  obtain ⟨rfl, hsz, hP, hK⟩ := hv
  subst hsz
  have hts := atoms_spec (ws := wsOf M) B.pre
  have hown : s.vm.findClass (mNm M).cls = some m.cls := findClass_of_methodNamed B.named
  have X : Cx lay adr cA D M p s m (av.map (cv adr)).toArray c := ⟨B.exec, B.bytes, hml, hown, hts, hK, hi, hwf⟩
  have hc := HG _ (clo_WW (l := l) (e := e) (below := below) (d := d) (P := P) X B.returns B.notSynchronized hok)
  have hl := lv_entry (av.map (cv adr)) (n := mMx M) (by rw [aLoc_sl]; exact hlen)
  rw [lg_entry_eq]
  refine hc s.heap [] _ hP va_S.rf ⟨⟨hl.1, hl.2.1, fun q hq => hl.2.2 q ?_⟩, padL_len hlen⟩ (fun v hv => ?_) (fun v hv => by cases hv)
  · rw [padL_prs] at hq
    exact aLoc_prs hq
  · rcases padL_in hv with e | e
    · rw [e]; exact kOK_un lay
    · rcases aLoc_in e with e | e
      · rw [e]; exact kOK_un lay
      · exact hkv v e
def lkS : List (Nat × List Nat) → Nat → Option (List Nat)
  | [], _ => none
  | (a, m) :: l, pc => match Nat.beq a pc with
    | true => some m
    | false => lkS l pc
/-- many steps at once, as far as the places S -/
def go (C : CT) (t : List (List INS)) (S : List (Nat × List Nat)) (P : PT) (G : KT) : Nat → KT
  | 0, pc, ls, st, μ => G pc ls st μ
  | n + 1, pc, ls, st, μ => match lkS S pc with
    | some m => G pc (fgt m ls) st μ
    | none => stpE C (lk t pc) P pc ls st μ (go C t S P G n)
theorem go_ok {lay : List Nat} {d M : Nat} {P : PT} {G : KT} (hC : Clo lay d M P G) (S : List (Nat × List Nat)) : ∀ (n : Nat) (pc : Nat) (ls st : List TV) (μ : Mem), go (CD lay d) (mTb M) S P G n pc ls st μ → G pc ls st μ
  | 0, pc, ls, st, μ, h => h
  | n + 1, pc, ls, st, μ, h => by
    unfold go at h
    split at h
    · exact hC.2 _ _ _ _ _ h
    · exact hC.1 _ (go_ok hC S n) pc ls st μ h
theorem seg {lay : List Nat} {d M : Nat} {P : PT} {G : KT} (hC : Clo lay d M P G) (S : List (Nat × List Nat)) (n : Nat) {t : List (List INS)} (ht : mTb M = t) {pc : Nat} {ls st : List TV} {μ : Mem} (h : stpE (CD lay d) (lk t pc) P pc ls st μ (go (CD lay d) t S P G n)) : G pc ls st μ := by
  subst ht
  exact hC.1 _ (go_ok hC S n) pc ls st μ h
end
section
theorem ok_Int_bitCount : okB mInt_bitCount = true := by decide +kernel
theorem g_Int_bitCount_0 {lay : List Nat} {d : Nat} {P : PT} {G : KT} (hC : Clo lay d mInt_bitCount P G) {v0 : Int32} {μ : Mem}
    (h : P (some (vi ((((((((v0 - (((v0.toUInt32 >>> ((nI 1).toUInt32 &&& Int32.toUInt32 31)).toInt32) &&& (nI 1431655765))) &&& (nI 858993459)) + ((((v0 - (((v0.toUInt32 >>> ((nI 1).toUInt32 &&& Int32.toUInt32 31)).toInt32) &&& (nI 1431655765))).toUInt32 >>> ((nI 2).toUInt32 &&& Int32.toUInt32 31)).toInt32) &&& (nI 858993459))) + (((((v0 - (((v0.toUInt32 >>> ((nI 1).toUInt32 &&& Int32.toUInt32 31)).toInt32) &&& (nI 1431655765))) &&& (nI 858993459)) + ((((v0 - (((v0.toUInt32 >>> ((nI 1).toUInt32 &&& Int32.toUInt32 31)).toInt32) &&& (nI 1431655765))).toUInt32 >>> ((nI 2).toUInt32 &&& Int32.toUInt32 31)).toInt32) &&& (nI 858993459))).toUInt32 >>> ((nI 4).toUInt32 &&& Int32.toUInt32 31)).toInt32)) &&& (nI 252645135)) + (((((((v0 - (((v0.toUInt32 >>> ((nI 1).toUInt32 &&& Int32.toUInt32 31)).toInt32) &&& (nI 1431655765))) &&& (nI 858993459)) + ((((v0 - (((v0.toUInt32 >>> ((nI 1).toUInt32 &&& Int32.toUInt32 31)).toInt32) &&& (nI 1431655765))).toUInt32 >>> ((nI 2).toUInt32 &&& Int32.toUInt32 31)).toInt32) &&& (nI 858993459))) + (((((v0 - (((v0.toUInt32 >>> ((nI 1).toUInt32 &&& Int32.toUInt32 31)).toInt32) &&& (nI 1431655765))) &&& (nI 858993459)) + ((((v0 - (((v0.toUInt32 >>> ((nI 1).toUInt32 &&& Int32.toUInt32 31)).toInt32) &&& (nI 1431655765))).toUInt32 >>> ((nI 2).toUInt32 &&& Int32.toUInt32 31)).toInt32) &&& (nI 858993459))).toUInt32 >>> ((nI 4).toUInt32 &&& Int32.toUInt32 31)).toInt32)) &&& (nI 252645135)).toUInt32 >>> ((nI 8).toUInt32 &&& Int32.toUInt32 31)).toInt32)) + ((((((((v0 - (((v0.toUInt32 >>> ((nI 1).toUInt32 &&& Int32.toUInt32 31)).toInt32) &&& (nI 1431655765))) &&& (nI 858993459)) + ((((v0 - (((v0.toUInt32 >>> ((nI 1).toUInt32 &&& Int32.toUInt32 31)).toInt32) &&& (nI 1431655765))).toUInt32 >>> ((nI 2).toUInt32 &&& Int32.toUInt32 31)).toInt32) &&& (nI 858993459))) + (((((v0 - (((v0.toUInt32 >>> ((nI 1).toUInt32 &&& Int32.toUInt32 31)).toInt32) &&& (nI 1431655765))) &&& (nI 858993459)) + ((((v0 - (((v0.toUInt32 >>> ((nI 1).toUInt32 &&& Int32.toUInt32 31)).toInt32) &&& (nI 1431655765))).toUInt32 >>> ((nI 2).toUInt32 &&& Int32.toUInt32 31)).toInt32) &&& (nI 858993459))).toUInt32 >>> ((nI 4).toUInt32 &&& Int32.toUInt32 31)).toInt32)) &&& (nI 252645135)) + (((((((v0 - (((v0.toUInt32 >>> ((nI 1).toUInt32 &&& Int32.toUInt32 31)).toInt32) &&& (nI 1431655765))) &&& (nI 858993459)) + ((((v0 - (((v0.toUInt32 >>> ((nI 1).toUInt32 &&& Int32.toUInt32 31)).toInt32) &&& (nI 1431655765))).toUInt32 >>> ((nI 2).toUInt32 &&& Int32.toUInt32 31)).toInt32) &&& (nI 858993459))) + (((((v0 - (((v0.toUInt32 >>> ((nI 1).toUInt32 &&& Int32.toUInt32 31)).toInt32) &&& (nI 1431655765))) &&& (nI 858993459)) + ((((v0 - (((v0.toUInt32 >>> ((nI 1).toUInt32 &&& Int32.toUInt32 31)).toInt32) &&& (nI 1431655765))).toUInt32 >>> ((nI 2).toUInt32 &&& Int32.toUInt32 31)).toInt32) &&& (nI 858993459))).toUInt32 >>> ((nI 4).toUInt32 &&& Int32.toUInt32 31)).toInt32)) &&& (nI 252645135)).toUInt32 >>> ((nI 8).toUInt32 &&& Int32.toUInt32 31)).toInt32)).toUInt32 >>> ((nI 16).toUInt32 &&& Int32.toUInt32 31)).toInt32)) &&& (nI 63)))) μ) :
    G 0 [vi v0] [] μ := seg hC [] 45 rfl h
end
section
theorem ok_St_at : okB mSt_at = true := by decide +kernel
theorem g_St_at_0 {lay : List Nat} {d : Nat} {P : PT} {G : KT} (hC : Clo lay d mSt_at P G) {v0 : Int32} {v1 : Int32} {μ : Mem}
    (h : ((v1 < 0 → P (some (vi (mI 0))) μ) ∧ (¬ v1 < 0 → ((v1 < (nI 5) → P (some (vi (((v0 >>> (((nI 4) * v1) &&& 31)) &&& (nI 15)) - (nI 1)))) μ) ∧ (¬ v1 < (nI 5) → P (some (vi (mI 0))) μ))))) :
    G 0 [vi v0, vi v1] [] μ := seg hC [] 18 rfl h
theorem ok_St_with : okB mSt_with = true := by decide +kernel
theorem g_St_with_0 {lay : List Nat} {d : Nat} {P : PT} {G : KT} (hC : Clo lay d mSt_with P G) {v0 : Int32} {v1 : Int32} {v2 : Int32} {μ : Mem}
    (h : ((v1 < 0 → P (some (vi v0)) μ) ∧ (¬ v1 < 0 → ((v1 < (nI 5) → P (some (vi (v0 ||| ((v2 + (nI 1)) <<< (((nI 4) * v1) &&& 31))))) μ) ∧ (¬ v1 < (nI 5) → P (some (vi v0)) μ))))) :
    G 0 [vi v0, vi v1, vi v2] [] μ := seg hC [] 18 rfl h
theorem ok_St_alike : okB mSt_alike = true := by decide +kernel
theorem g_St_alike_0 {lay : List Nat} {d : Nat} {P : PT} {G : KT} (hC : Clo lay (d + 1) mSt_alike P G) {v0 : Int32} {v1 : Int32} {μ : Mem}
    (h : G 2 [vi v0, vi v1, vi (nI 0), un] [] μ) :
    G 0 [vi v0, vi v1, un, un] [] μ := seg hC [(2, [3])] 5 rfl h
theorem g_St_alike_2 {lay : List Nat} {d : Nat} {P : PT} {G : KT} (hC : Clo lay (d + 1) mSt_alike P G) {v0 : Int32} {v1 : Int32} {v2 : Int32} {μ : Mem}
    (h : (((nI 5) ≤ v2 → P (some (vi (nI 5))) μ) ∧ (¬ (nI 5) ≤ v2 → (∃ P9 : PT, Rn lay d mSt_at [vi v0, vi v2] μ P9 ∧ ∀ (x9 : Int32) (μ9 : Mem), P9 (some (vi x9)) μ9 → ((x9 = (mI 0) → P (some (vi v2)) μ9) ∧ (¬ x9 = (mI 0) → (∃ P21 : PT, Rn lay d mSt_at [vi v1, vi v2] μ9 P21 ∧ ∀ (x21 : Int32) (μ21 : Mem), P21 (some (vi x21)) μ21 → ((x9 = x21 → G 2 [vi v0, vi v1, vi (v2 + nI 1), un] [] μ21) ∧ (¬ x9 = x21 → P (some (vi v2)) μ21))))))))) :
    G 2 [vi v0, vi v1, vi v2, un] [] μ := seg hC [(2, [3])] 20 rfl h
end
section
theorem ok_Te_clear : okB mTe_clear = true := by decide +kernel
theorem g_Te_clear_0 {lay : List Nat} {d : Nat} {P : PT} {G : KT} (hC : Clo lay d mTe_clear P G) {v0 : Nat} {v1 : Int32} {μ : Mem}
    (h : G 12 [rf 13 v0, un, vi (nI 0)] [] (upI (upI μ v0 4 (nI 0)) v0 5 v1)) :
    G 0 [rf 13 v0, vi v1, un] [] μ := seg hC [(12, [1])] 11 rfl h
theorem g_Te_clear_12 {lay : List Nat} {d : Nat} {P : PT} {G : KT} (hC : Clo lay d mTe_clear P G) {v0 : Nat} {v2 : Int32} {μ : Mem}
    (h : (((nI 4) ≤ v2 → P none μ) ∧ (¬ (nI 4) ≤ v2 → (vp_in v2 4 ∧ G 12 [rf 13 v0, un, vi (v2 + nI 1)] [] (upI μ (v0 + 4) v2.toNatClampNeg v2))))) :
    G 12 [rf 13 v0, un, vi v2] [] μ := seg hC [(12, [1])] 13 rfl h
theorem ok_Te_copy : okB mTe_copy = true := by decide +kernel
theorem g_Te_copy_0 {lay : List Nat} {d : Nat} {P : PT} {G : KT} (hC : Clo lay d mTe_copy P G) {v0 : Nat} {v1 : Nat} {μ : Mem}
    (h : G 18 [rf 13 v0, rf 13 v1, vi (nI 0)] [] (upI (upI μ v0 4 (μ.1 v1 4)) v0 5 ((upI μ v0 4 (μ.1 v1 4)).1 v1 5))) :
    G 0 [rf 13 v0, rf 13 v1, un] [] μ := seg hC [(18, []), (68, [])] 13 rfl h
theorem g_Te_copy_18 {lay : List Nat} {d : Nat} {P : PT} {G : KT} (hC : Clo lay d mTe_copy P G) {v0 : Nat} {v1 : Nat} {v2 : Int32} {μ : Mem}
    (h : (((nI 8) ≤ v2 → G 68 [rf 13 v0, rf 13 v1, vi (nI 0)] [] μ) ∧ (¬ (nI 8) ≤ v2 → (vp_in v2 8 ∧ (vp_in v2 8 ∧ (vp_in v2 8 ∧ (vp_in v2 8 ∧ (vp_in v2 8 ∧ (vp_in v2 8 ∧ G 18 [rf 13 v0, rf 13 v1, vi (v2 + nI 1)] [] (upI (upI (upI μ (v0 + 1) v2.toNatClampNeg (μ.1 (v1 + 1) v2.toNatClampNeg)) (v0 + 2) v2.toNatClampNeg ((upI μ (v0 + 1) v2.toNatClampNeg (μ.1 (v1 + 1) v2.toNatClampNeg)).1 (v1 + 2) v2.toNatClampNeg)) (v0 + 3) v2.toNatClampNeg ((upI (upI μ (v0 + 1) v2.toNatClampNeg (μ.1 (v1 + 1) v2.toNatClampNeg)) (v0 + 2) v2.toNatClampNeg ((upI μ (v0 + 1) v2.toNatClampNeg (μ.1 (v1 + 1) v2.toNatClampNeg)).1 (v1 + 2) v2.toNatClampNeg)).1 (v1 + 3) v2.toNatClampNeg))))))))))) :
    G 18 [rf 13 v0, rf 13 v1, vi v2] [] μ := seg hC [(18, []), (68, [])] 32 rfl h
theorem g_Te_copy_68 {lay : List Nat} {d : Nat} {P : PT} {G : KT} (hC : Clo lay d mTe_copy P G) {v0 : Nat} {v1 : Nat} {v2 : Int32} {μ : Mem}
    (h : (((nI 4) ≤ v2 → P none μ) ∧ (¬ (nI 4) ≤ v2 → (vp_in v2 4 ∧ (vp_in v2 4 ∧ G 68 [rf 13 v0, rf 13 v1, vi (v2 + nI 1)] [] (upI μ (v0 + 4) v2.toNatClampNeg (μ.1 (v1 + 4) v2.toNatClampNeg))))))) :
    G 68 [rf 13 v0, rf 13 v1, vi v2] [] μ := seg hC [(18, []), (68, [])] 16 rfl h
theorem ok_Te_isKindNumber : okB mTe_isKindNumber = true := by decide +kernel
theorem g_Te_isKindNumber_0 {lay : List Nat} {d : Nat} {P : PT} {G : KT} (hC : Clo lay d mTe_isKindNumber P G) {v0 : Int32} {μ : Mem}
    (h : ((v0 < 0 → P (some (vi (nI 0))) μ) ∧ (¬ v0 < 0 → (((nI 4) ≤ v0 → P (some (vi (nI 0))) μ) ∧ (¬ (nI 4) ≤ v0 → P (some (vi (nI 1))) μ))))) :
    G 0 [vi v0] [] μ := seg hC [] 11 rfl (⟨fun q1 => ⟨Or.inl (by decide), (h.1 q1)⟩, fun q1 => ⟨fun q2 => ⟨Or.inl (by decide), ((h.2 q1).1 q2)⟩, fun q2 => ⟨Or.inr (by decide), ((h.2 q1).2 q2)⟩⟩⟩)
theorem ok_Te_has : okB mTe_has = true := by decide +kernel
theorem g_Te_has_0 {lay : List Nat} {d : Nat} {P : PT} {G : KT} (hC : Clo lay d mTe_has P G) {v0 : Nat} {v1 : Int32} {μ : Mem}
    (h : ((v1 < 0 → P (some (vi (nI 0))) μ) ∧ (¬ v1 < 0 → (((μ.1 v0 4) ≤ v1 → P (some (vi (nI 0))) μ) ∧ (¬ (μ.1 v0 4) ≤ v1 → (((nI 8) ≤ v1 → P (some (vi (nI 0))) μ) ∧ (¬ (nI 8) ≤ v1 → P (some (vi (nI 1))) μ))))))) :
    G 0 [rf 13 v0, vi v1] [] μ := seg hC [] 15 rfl (⟨fun q1 => ⟨Or.inl (by decide), (h.1 q1)⟩, fun q1 => ⟨fun q2 => ⟨Or.inl (by decide), ((h.2 q1).1 q2)⟩, fun q2 => ⟨fun q3 => ⟨Or.inl (by decide), (((h.2 q1).2 q2).1 q3)⟩, fun q3 => ⟨Or.inr (by decide), (((h.2 q1).2 q2).2 q3)⟩⟩⟩⟩)
theorem ok_Te_holds : okB mTe_holds = true := by decide +kernel
theorem g_Te_holds_0 {lay : List Nat} {d : Nat} {P : PT} {G : KT} (hC : Clo lay d mTe_holds P G) {v0 : Nat} {v1 : Int32} {v2 : Int32} {μ : Mem}
    (h : ((v1 < 0 → P (some (vi (nI 0))) μ) ∧ (¬ v1 < 0 → ((v2 < v1 → P (some (vi (nI 0))) μ) ∧ (¬ v2 < v1 → (((μ.1 v0 5) < v2 → P (some (vi (nI 0))) μ) ∧ (¬ (μ.1 v0 5) < v2 → P (some (vi (nI 1))) μ))))))) :
    G 0 [rf 13 v0, vi v1, vi v2] [] μ := seg hC [] 15 rfl (⟨fun q1 => ⟨Or.inl (by decide), (h.1 q1)⟩, fun q1 => ⟨fun q2 => ⟨Or.inl (by decide), ((h.2 q1).1 q2)⟩, fun q2 => ⟨fun q3 => ⟨Or.inl (by decide), (((h.2 q1).2 q2).1 q3)⟩, fun q3 => ⟨Or.inr (by decide), (((h.2 q1).2 q2).2 q3)⟩⟩⟩⟩)
theorem ok_Te_isEmpty : okB mTe_isEmpty = true := by decide +kernel
theorem g_Te_isEmpty_0 {lay : List Nat} {d : Nat} {P : PT} {G : KT} (hC : Clo lay (d + 1) mTe_isEmpty P G) {v0 : Nat} {v1 : Int32} {μ : Mem}
    (h : (∃ P2 : PT, Rn lay d mTe_has [rf 13 v0, vi v1] μ P2 ∧ ∀ (x2 : Int32) (μ2 : Mem), P2 (some (vi x2)) μ2 → ((x2 = 0 → P (some (vi (nI 1))) μ2) ∧ (¬ x2 = 0 → (vp_in v1 8 ∧ (vp_in v1 8 ∧ ((¬ (μ2.1 (v0 + 2) v1.toNatClampNeg) = (μ2.1 (v0 + 3) v1.toNatClampNeg) → P (some (vi (nI 0))) μ2) ∧ ((μ2.1 (v0 + 2) v1.toNatClampNeg) = (μ2.1 (v0 + 3) v1.toNatClampNeg) → P (some (vi (nI 1))) μ2)))))))) :
    G 0 [rf 13 v0, vi v1] [] μ := seg hC [] 19 rfl ((match h with | ⟨P2, c2, f2⟩ => ⟨P2, c2, fun x2 μ2 y2 => (fun h2 => ⟨fun q1 => ⟨Or.inr (by decide), (h2.1 q1)⟩, fun q1 => ⟨(h2.2 q1).1, ⟨(h2.2 q1).2.1, ⟨fun q2 => ⟨Or.inl (by decide), ((h2.2 q1).2.2.1 q2)⟩, fun q2 => ⟨Or.inr (by decide), ((h2.2 q1).2.2.2 q2)⟩⟩⟩⟩⟩) (f2 x2 μ2 y2)⟩))
theorem ok_Te_rankOf : okB mTe_rankOf = true := by decide +kernel
theorem g_Te_rankOf_0 {lay : List Nat} {d : Nat} {P : PT} {G : KT} (hC : Clo lay (d + 1) mTe_rankOf P G) {v0 : Nat} {v1 : Int32} {μ : Mem}
    (h : (∃ P2 : PT, Rn lay d mTe_has [rf 13 v0, vi v1] μ P2 ∧ ∀ (x2 : Int32) (μ2 : Mem), P2 (some (vi x2)) μ2 → ((¬ x2 = 0 → (vp_in v1 8 ∧ (∃ P18 : PT, Rn lay d mTe_isKindNumber [vi (μ2.1 (v0 + 1) v1.toNatClampNeg)] μ2 P18 ∧ ∀ (x18 : Int32) (μ18 : Mem), P18 (some (vi x18)) μ18 → ((x18 = 0 → P (some (vi (nI 0))) μ18) ∧ (¬ x18 = 0 → (vp_in (μ2.1 (v0 + 1) v1.toNatClampNeg) 4 ∧ P (some (vi (μ18.1 (v0 + 4) (μ2.1 (v0 + 1) v1.toNatClampNeg).toNatClampNeg))) μ18)))))) ∧ (x2 = 0 → P (some (vi (nI 0))) μ2)))) :
    G 0 [rf 13 v0, vi v1, un] [] μ := seg hC [] 21 rfl h
theorem ok_Te_ranksAsOne : okB mTe_ranksAsOne = true := by decide +kernel
theorem g_Te_ranksAsOne_0 {lay : List Nat} {d : Nat} {P : PT} {G : KT} (hC : Clo lay d mTe_ranksAsOne P G) {v0 : Nat} {μ : Mem}
    (h : G 4 [rf 13 v0, vi (nI 0), vi (nI 0)] [] μ) :
    G 0 [rf 13 v0, un, un] [] μ := seg hC [(4, [])] 7 rfl h
theorem g_Te_ranksAsOne_4 {lay : List Nat} {d : Nat} {P : PT} {G : KT} (hC : Clo lay d mTe_ranksAsOne P G) {v0 : Nat} {v1 : Int32} {v2 : Int32} {μ : Mem}
    (h : (((nI 4) ≤ v2 → P (some (vi v1)) μ) ∧ (¬ (nI 4) ≤ v2 → (vp_in v2 4 ∧ G 4 [rf 13 v0, vi (((nI 10) * v1) + (μ.1 (v0 + 4) v2.toNatClampNeg)), vi (v2 + nI 1)] [] μ)))) :
    G 4 [rf 13 v0, vi v1, vi v2] [] μ := seg hC [(4, [])] 17 rfl h
theorem ok_Te_coverAt : okB mTe_coverAt = true := by decide +kernel
theorem g_Te_coverAt_0 {lay : List Nat} {d : Nat} {P : PT} {G : KT} (hC : Clo lay d mTe_coverAt P G) {v0 : Nat} {v1 : Int32} {μ : Mem}
    (h : G 4 [rf 13 v0, vi v1, vi (nI 0), vi (nI 0)] [] μ) :
    G 0 [rf 13 v0, vi v1, un, un] [] μ := seg hC [(4, [])] 7 rfl h
theorem g_Te_coverAt_4 {lay : List Nat} {d : Nat} {P : PT} {G : KT} (hC : Clo lay d mTe_coverAt P G) {v0 : Nat} {v1 : Int32} {v2 : Int32} {v3 : Int32} {μ : Mem}
    (h : (((μ.1 v0 4) ≤ v3 → P (some (vi v2)) μ) ∧ (¬ (μ.1 v0 4) ≤ v3 → (((nI 8) ≤ v3 → P (some (vi v2)) μ) ∧ (¬ (nI 8) ≤ v3 → (vp_in v3 8 ∧ ((v1 < (μ.1 (v0 + 2) v3.toNatClampNeg) → G 4 [rf 13 v0, vi v1, vi v2, vi (v3 + nI 1)] [] μ) ∧ (¬ v1 < (μ.1 (v0 + 2) v3.toNatClampNeg) → (vp_in v3 8 ∧ (((μ.1 (v0 + 3) v3.toNatClampNeg) ≤ v1 → G 4 [rf 13 v0, vi v1, vi v2, vi (v3 + nI 1)] [] μ) ∧ (¬ (μ.1 (v0 + 3) v3.toNatClampNeg) ≤ v1 → G 4 [rf 13 v0, vi v1, vi (v2 ||| ((nI 1) <<< (v3 &&& 31))), vi (v3 + nI 1)] [] μ))))))))))) :
    G 4 [rf 13 v0, vi v1, vi v2, vi v3] [] μ := seg hC [(4, [])] 30 rfl h
theorem ok_Te_isCrowded : okB mTe_isCrowded = true := by decide +kernel
theorem g_Te_isCrowded_0 {lay : List Nat} {d : Nat} {P : PT} {G : KT} (hC : Clo lay (d + 1) mTe_isCrowded P G) {v0 : Nat} {μ : Mem}
    (h : G 2 [rf 13 v0, vi (nI 0)] [] μ) :
    G 0 [rf 13 v0, un] [] μ := seg hC [(2, [])] 5 rfl h
theorem g_Te_isCrowded_2 {lay : List Nat} {d : Nat} {P : PT} {G : KT} (hC : Clo lay (d + 1) mTe_isCrowded P G) {v0 : Nat} {v1 : Int32} {μ : Mem}
    (h : (((μ.1 v0 4) ≤ v1 → P (some (vi (nI 0))) μ) ∧ (¬ (μ.1 v0 4) ≤ v1 → (((nI 8) ≤ v1 → P (some (vi (nI 0))) μ) ∧ (¬ (nI 8) ≤ v1 → (vp_in v1 8 ∧ (∃ P23 : PT, Rn lay d mTe_coverAt [rf 13 v0, vi (μ.1 (v0 + 2) v1.toNatClampNeg)] μ P23 ∧ ∀ (x23 : Int32) (μ23 : Mem), P23 (some (vi x23)) μ23 → (∃ P26 : PT, Rn lay d mInt_bitCount [vi x23] μ23 P26 ∧ ∀ (x26 : Int32) (μ26 : Mem), P26 (some (vi x26)) μ26 → ((x26 ≤ (nI 5) → G 2 [rf 13 v0, vi (v1 + nI 1)] [] μ26) ∧ (¬ x26 ≤ (nI 5) → P (some (vi (nI 1))) μ26)))))))))) :
    G 2 [rf 13 v0, vi v1] [] μ := seg hC [(2, [])] 21 rfl (⟨fun q1 => ⟨Or.inl (by decide), (h.1 q1)⟩, fun q1 => ⟨fun q2 => ⟨Or.inl (by decide), ((h.2 q1).1 q2)⟩, fun q2 => ⟨((h.2 q1).2 q2).1, (match ((h.2 q1).2 q2).2 with | ⟨P23, c23, f23⟩ => ⟨P23, c23, fun x23 μ23 y23 => (fun h23 => (match h23 with | ⟨P26, c26, f26⟩ => ⟨P26, c26, fun x26 μ26 y26 => (fun h26 => ⟨fun q3 => (h26.1 q3), fun q3 => ⟨Or.inr (by decide), (h26.2 q3)⟩⟩) (f26 x26 μ26 y26)⟩)) (f23 x23 μ23 y23)⟩)⟩⟩⟩)
theorem ok_Te_howManyAcross : okB mTe_howManyAcross = true := by decide +kernel
theorem g_Te_howManyAcross_0 {lay : List Nat} {d : Nat} {P : PT} {G : KT} (hC : Clo lay (d + 1) mTe_howManyAcross P G) {v0 : Nat} {v1 : Int32} {μ : Mem}
    (h : G 4 [rf 13 v0, vi v1, vi (nI 0), vi (nI 0)] [] μ) :
    G 0 [rf 13 v0, vi v1, un, un] [] μ := seg hC [(4, [])] 7 rfl h
theorem g_Te_howManyAcross_4 {lay : List Nat} {d : Nat} {P : PT} {G : KT} (hC : Clo lay (d + 1) mTe_howManyAcross P G) {v0 : Nat} {v1 : Int32} {v2 : Int32} {v3 : Int32} {μ : Mem}
    (h : (((μ.1 v0 4) ≤ v3 → P (some (vi v2)) μ) ∧ (¬ (μ.1 v0 4) ≤ v3 → (((nI 8) ≤ v3 → P (some (vi v2)) μ) ∧ (¬ (nI 8) ≤ v3 → (∃ P21 : PT, Rn lay d mTe_isAcross [rf 13 v0, vi v1, vi v3] μ P21 ∧ ∀ (x21 : Int32) (μ21 : Mem), P21 (some (vi x21)) μ21 → ((¬ x21 = 0 → G 4 [rf 13 v0, vi v1, vi (v2 + nI 1), vi (v3 + nI 1)] [] μ21) ∧ (x21 = 0 → (∃ P30 : PT, Rn lay d mTe_isAcross [rf 13 v0, vi v3, vi v1] μ21 P30 ∧ ∀ (x30 : Int32) (μ30 : Mem), P30 (some (vi x30)) μ30 → ((x30 = 0 → G 4 [rf 13 v0, vi v1, vi v2, vi (v3 + nI 1)] [] μ30) ∧ (¬ x30 = 0 → G 4 [rf 13 v0, vi v1, vi (v2 + nI 1), vi (v3 + nI 1)] [] μ30))))))))))) :
    G 4 [rf 13 v0, vi v1, vi v2, vi v3] [] μ := seg hC [(4, [])] 23 rfl h
theorem ok_Te_isAcross : okB mTe_isAcross = true := by decide +kernel
theorem g_Te_isAcross_0 {lay : List Nat} {d : Nat} {P : PT} {G : KT} (hC : Clo lay (d + 1) mTe_isAcross P G) {v0 : Nat} {v1 : Int32} {v2 : Int32} {μ : Mem}
    (h : (∃ P2 : PT, Rn lay d mTe_has [rf 13 v0, vi v1] μ P2 ∧ ∀ (x2 : Int32) (μ2 : Mem), P2 (some (vi x2)) μ2 → ((x2 = 0 → P (some (vi (nI 0))) μ2) ∧ (¬ x2 = 0 → (∃ P10 : PT, Rn lay d mTe_has [rf 13 v0, vi v2] μ2 P10 ∧ ∀ (x10 : Int32) (μ10 : Mem), P10 (some (vi x10)) μ10 → ((¬ x10 = 0 → (vp_in v1 8 ∧ (vp_in v2 8 ∧ (((μ10.1 (v0 + 2) v2.toNatClampNeg) ≤ (μ10.1 (v0 + 2) v1.toNatClampNeg) → P (some (vi (nI 0))) μ10) ∧ (¬ (μ10.1 (v0 + 2) v2.toNatClampNeg) ≤ (μ10.1 (v0 + 2) v1.toNatClampNeg) → (vp_in v2 8 ∧ (vp_in v1 8 ∧ (((μ10.1 (v0 + 3) v1.toNatClampNeg) ≤ (μ10.1 (v0 + 2) v2.toNatClampNeg) → P (some (vi (nI 0))) μ10) ∧ (¬ (μ10.1 (v0 + 3) v1.toNatClampNeg) ≤ (μ10.1 (v0 + 2) v2.toNatClampNeg) → (vp_in v1 8 ∧ (vp_in v2 8 ∧ (((μ10.1 (v0 + 3) v2.toNatClampNeg) ≤ (μ10.1 (v0 + 3) v1.toNatClampNeg) → P (some (vi (nI 0))) μ10) ∧ (¬ (μ10.1 (v0 + 3) v2.toNatClampNeg) ≤ (μ10.1 (v0 + 3) v1.toNatClampNeg) → P (some (vi (nI 1))) μ10))))))))))))) ∧ (x10 = 0 → P (some (vi (nI 0))) μ10))))))) :
    G 0 [rf 13 v0, vi v1, vi v2] [] μ := seg hC [] 41 rfl ((match h with | ⟨P2, c2, f2⟩ => ⟨P2, c2, fun x2 μ2 y2 => (fun h2 => ⟨fun q1 => ⟨Or.inl (by decide), (h2.1 q1)⟩, fun q1 => (match (h2.2 q1) with | ⟨P10, c10, f10⟩ => ⟨P10, c10, fun x10 μ10 y10 => (fun h10 => ⟨fun q2 => ⟨(h10.1 q2).1, ⟨(h10.1 q2).2.1, ⟨fun q3 => ⟨Or.inl (by decide), ((h10.1 q2).2.2.1 q3)⟩, fun q3 => ⟨((h10.1 q2).2.2.2 q3).1, ⟨((h10.1 q2).2.2.2 q3).2.1, ⟨fun q4 => ⟨Or.inl (by decide), (((h10.1 q2).2.2.2 q3).2.2.1 q4)⟩, fun q4 => ⟨(((h10.1 q2).2.2.2 q3).2.2.2 q4).1, ⟨(((h10.1 q2).2.2.2 q3).2.2.2 q4).2.1, ⟨fun q5 => ⟨Or.inl (by decide), ((((h10.1 q2).2.2.2 q3).2.2.2 q4).2.2.1 q5)⟩, fun q5 => ⟨Or.inr (by decide), ((((h10.1 q2).2.2.2 q3).2.2.2 q4).2.2.2 q5)⟩⟩⟩⟩⟩⟩⟩⟩⟩⟩, fun q2 => ⟨Or.inl (by decide), (h10.2 q2)⟩⟩) (f10 x10 μ10 y10)⟩)⟩) (f2 x2 μ2 y2)⟩))
theorem ok_Te_append : okB mTe_append = true := by decide +kernel
theorem g_Te_append_0 {lay : List Nat} {d : Nat} {P : PT} {G : KT} (hC : Clo lay d mTe_append P G) {v0 : Nat} {v1 : Int32} {v2 : Int32} {v3 : Int32} {μ : Mem}
    (h : (((μ.1 v0 4) < 0 → P (some (vi (nI 0))) μ) ∧ (¬ (μ.1 v0 4) < 0 → (((μ.1 v0 4) < (nI 8) → (vp_in (μ.1 v0 4) 8 ∧ (vp_in ((upI μ (v0 + 1) (μ.1 v0 4).toNatClampNeg v1).1 v0 4) 8 ∧ (vp_in ((upI (upI μ (v0 + 1) (μ.1 v0 4).toNatClampNeg v1) (v0 + 2) ((upI μ (v0 + 1) (μ.1 v0 4).toNatClampNeg v1).1 v0 4).toNatClampNeg v2).1 v0 4) 8 ∧ P (some (vi (nI 1))) (upI (upI (upI (upI μ (v0 + 1) (μ.1 v0 4).toNatClampNeg v1) (v0 + 2) ((upI μ (v0 + 1) (μ.1 v0 4).toNatClampNeg v1).1 v0 4).toNatClampNeg v2) (v0 + 3) ((upI (upI μ (v0 + 1) (μ.1 v0 4).toNatClampNeg v1) (v0 + 2) ((upI μ (v0 + 1) (μ.1 v0 4).toNatClampNeg v1).1 v0 4).toNatClampNeg v2).1 v0 4).toNatClampNeg v3) v0 4 (((upI (upI (upI μ (v0 + 1) (μ.1 v0 4).toNatClampNeg v1) (v0 + 2) ((upI μ (v0 + 1) (μ.1 v0 4).toNatClampNeg v1).1 v0 4).toNatClampNeg v2) (v0 + 3) ((upI (upI μ (v0 + 1) (μ.1 v0 4).toNatClampNeg v1) (v0 + 2) ((upI μ (v0 + 1) (μ.1 v0 4).toNatClampNeg v1).1 v0 4).toNatClampNeg v2).1 v0 4).toNatClampNeg v3).1 v0 4) + (nI 1))))))) ∧ (¬ (μ.1 v0 4) < (nI 8) → P (some (vi (nI 0))) μ))))) :
    G 0 [rf 13 v0, vi v1, vi v2, vi v3] [] μ := seg hC [] 36 rfl (⟨fun q1 => ⟨Or.inl (by decide), (h.1 q1)⟩, fun q1 => ⟨fun q2 => ⟨((h.2 q1).1 q2).1, ⟨((h.2 q1).1 q2).2.1, ⟨((h.2 q1).1 q2).2.2.1, ⟨Or.inr (by decide), ((h.2 q1).1 q2).2.2.2⟩⟩⟩⟩, fun q2 => ⟨Or.inl (by decide), ((h.2 q1).2 q2)⟩⟩⟩)
theorem ok_Te_lay : okB mTe_lay = true := by decide +kernel
theorem g_Te_lay_0 {lay : List Nat} {d : Nat} {P : PT} {G : KT} (hC : Clo lay (d + 1) mTe_lay P G) {v0 : Nat} {v1 : Int32} {v2 : Int32} {v3 : Int32} {μ : Mem}
    (h : (∃ P2 : PT, Rn lay d mTe_has [rf 13 v0, vi v1] μ P2 ∧ ∀ (x2 : Int32) (μ2 : Mem), P2 (some (vi x2)) μ2 → ((¬ x2 = 0 → (vp_in v1 8 ∧ (vp_in v1 8 ∧ P none (upI (upI μ2 (v0 + 2) v1.toNatClampNeg v2) (v0 + 3) v1.toNatClampNeg v3)))) ∧ (x2 = 0 → P none μ2)))) :
    G 0 [rf 13 v0, vi v1, vi v2, vi v3] [] μ := seg hC [] 18 rfl h
theorem ok_Te_remove : okB mTe_remove = true := by decide +kernel
theorem g_Te_remove_0 {lay : List Nat} {d : Nat} {P : PT} {G : KT} (hC : Clo lay (d + 1) mTe_remove P G) {v0 : Nat} {v1 : Int32} {μ : Mem}
    (h : (∃ P2 : PT, Rn lay d mTe_has [rf 13 v0, vi v1] μ P2 ∧ ∀ (x2 : Int32) (μ2 : Mem), P2 (some (vi x2)) μ2 → ((¬ x2 = 0 → G 11 [rf 13 v0, un, vi v1] [] μ2) ∧ (x2 = 0 → P none μ2)))) :
    G 0 [rf 13 v0, vi v1, un] [] μ := seg hC [(11, [1]), (77, [1, 2])] 9 rfl h
theorem g_Te_remove_11 {lay : List Nat} {d : Nat} {P : PT} {G : KT} (hC : Clo lay (d + 1) mTe_remove P G) {v0 : Nat} {v2 : Int32} {μ : Mem}
    (h : (((μ.1 v0 4) ≤ (v2 + (nI 1)) → G 77 [rf 13 v0, un, un] [] μ) ∧ (¬ (μ.1 v0 4) ≤ (v2 + (nI 1)) → (((nI 8) ≤ (v2 + (nI 1)) → G 77 [rf 13 v0, un, un] [] μ) ∧ (¬ (nI 8) ≤ (v2 + (nI 1)) → (vp_in (v2 + (nI 1)) 8 ∧ (vp_in v2 8 ∧ (vp_in (v2 + (nI 1)) 8 ∧ (vp_in v2 8 ∧ (vp_in (v2 + (nI 1)) 8 ∧ (vp_in v2 8 ∧ G 11 [rf 13 v0, un, vi (v2 + nI 1)] [] (upI (upI (upI μ (v0 + 1) v2.toNatClampNeg (μ.1 (v0 + 1) (v2 + (nI 1)).toNatClampNeg)) (v0 + 2) v2.toNatClampNeg ((upI μ (v0 + 1) v2.toNatClampNeg (μ.1 (v0 + 1) (v2 + (nI 1)).toNatClampNeg)).1 (v0 + 2) (v2 + (nI 1)).toNatClampNeg)) (v0 + 3) v2.toNatClampNeg ((upI (upI μ (v0 + 1) v2.toNatClampNeg (μ.1 (v0 + 1) (v2 + (nI 1)).toNatClampNeg)) (v0 + 2) v2.toNatClampNeg ((upI μ (v0 + 1) v2.toNatClampNeg (μ.1 (v0 + 1) (v2 + (nI 1)).toNatClampNeg)).1 (v0 + 2) (v2 + (nI 1)).toNatClampNeg)).1 (v0 + 3) (v2 + (nI 1)).toNatClampNeg))))))))))))) :
    G 11 [rf 13 v0, un, vi v2] [] μ := seg hC [(11, [1]), (77, [1, 2])] 46 rfl h
theorem g_Te_remove_77 {lay : List Nat} {d : Nat} {P : PT} {G : KT} (hC : Clo lay (d + 1) mTe_remove P G) {v0 : Nat} {μ : Mem}
    (h : P none (upI μ v0 4 ((μ.1 v0 4) - (nI 1)))) :
    G 77 [rf 13 v0, un, un] [] μ := seg hC [(11, [1]), (77, [1, 2])] 10 rfl h
theorem ok_Te_putIn : okB mTe_putIn = true := by decide +kernel
theorem g_Te_putIn_0 {lay : List Nat} {d : Nat} {P : PT} {G : KT} (hC : Clo lay (d + 1) mTe_putIn P G) {v0 : Nat} {v1 : Int32} {v2 : Int32} {μ : Mem}
    (h : G 12 [rf 13 v0, vi v1, vi v2, vi (nI 0), un] [] (upI μ v0 5 ((μ.1 v0 5) + v2))) :
    G 0 [rf 13 v0, vi v1, vi v2, un, un] [] μ := seg hC [(12, [4]), (59, [4])] 11 rfl h
theorem g_Te_putIn_12 {lay : List Nat} {d : Nat} {P : PT} {G : KT} (hC : Clo lay (d + 1) mTe_putIn P G) {v0 : Nat} {v1 : Int32} {v2 : Int32} {v3 : Int32} {μ : Mem}
    (h : (((μ.1 v0 4) ≤ v3 → P none μ) ∧ (¬ (μ.1 v0 4) ≤ v3 → (((nI 8) ≤ v3 → P none μ) ∧ (¬ (nI 8) ≤ v3 → (vp_in v3 8 ∧ ((v1 < (μ.1 (v0 + 2) v3.toNatClampNeg) → G 59 [rf 13 v0, vi v1, vi v2, vi v3, un] [vi (nI 1)] μ) ∧ (¬ v1 < (μ.1 (v0 + 2) v3.toNatClampNeg) → (vp_in v3 8 ∧ ((¬ (μ.1 (v0 + 2) v3.toNatClampNeg) = v1 → G 59 [rf 13 v0, vi v1, vi v2, vi v3, un] [vi (nI 0)] μ) ∧ ((μ.1 (v0 + 2) v3.toNatClampNeg) = v1 → (∃ P48 : PT, Rn lay d mTe_isEmpty [rf 13 v0, vi v3] μ P48 ∧ ∀ (x48 : Int32) (μ48 : Mem), P48 (some (vi x48)) μ48 → ((¬ x48 = 0 → G 59 [rf 13 v0, vi v1, vi v2, vi v3, un] [vi (nI 0)] μ48) ∧ (x48 = 0 → G 59 [rf 13 v0, vi v1, vi v2, vi v3, un] [vi (nI 1)] μ48)))))))))))))) :
    G 12 [rf 13 v0, vi v1, vi v2, vi v3, un] [] μ := seg hC [(12, [4]), (59, [4])] 28 rfl h
theorem g_Te_putIn_59 {lay : List Nat} {d : Nat} {P : PT} {G : KT} (hC : Clo lay (d + 1) mTe_putIn P G) {v0 : Nat} {v1 : Int32} {v2 : Int32} {v3 : Int32} {s0 : Int32} {μ : Mem}
    (h : ((s0 = 0 → (vp_in v3 8 ∧ (((μ.1 (v0 + 3) v3.toNatClampNeg) ≤ v1 → G 12 [rf 13 v0, vi v1, vi v2, vi (v3 + nI 1), un] [] μ) ∧ (¬ (μ.1 (v0 + 3) v3.toNatClampNeg) ≤ v1 → (vp_in v3 8 ∧ (vp_in v3 8 ∧ G 12 [rf 13 v0, vi v1, vi v2, vi (v3 + nI 1), un] [] (upI μ (v0 + 3) v3.toNatClampNeg ((μ.1 (v0 + 3) v3.toNatClampNeg) + v2)))))))) ∧ (¬ s0 = 0 → (vp_in v3 8 ∧ (vp_in v3 8 ∧ (vp_in v3 8 ∧ ((((upI μ (v0 + 2) v3.toNatClampNeg ((μ.1 (v0 + 2) v3.toNatClampNeg) + v2)).1 (v0 + 3) v3.toNatClampNeg) ≤ v1 → G 12 [rf 13 v0, vi v1, vi v2, vi (v3 + nI 1), un] [] (upI μ (v0 + 2) v3.toNatClampNeg ((μ.1 (v0 + 2) v3.toNatClampNeg) + v2))) ∧ (¬ ((upI μ (v0 + 2) v3.toNatClampNeg ((μ.1 (v0 + 2) v3.toNatClampNeg) + v2)).1 (v0 + 3) v3.toNatClampNeg) ≤ v1 → (vp_in v3 8 ∧ (vp_in v3 8 ∧ G 12 [rf 13 v0, vi v1, vi v2, vi (v3 + nI 1), un] [] (upI (upI μ (v0 + 2) v3.toNatClampNeg ((μ.1 (v0 + 2) v3.toNatClampNeg) + v2)) (v0 + 3) v3.toNatClampNeg (((upI μ (v0 + 2) v3.toNatClampNeg ((μ.1 (v0 + 2) v3.toNatClampNeg) + v2)).1 (v0 + 3) v3.toNatClampNeg) + v2)))))))))))) :
    G 59 [rf 13 v0, vi v1, vi v2, vi v3, un] [vi s0] μ := seg hC [(12, [4]), (59, [4])] 30 rfl h
theorem ok_Te_takeOut : okB mTe_takeOut = true := by decide +kernel
theorem g_Te_takeOut_0 {lay : List Nat} {d : Nat} {P : PT} {G : KT} (hC : Clo lay (d + 1) mTe_takeOut P G) {v0 : Nat} {v1 : Int32} {v2 : Int32} {μ : Mem}
    (h : G 14 [rf 13 v0, vi v1, vi v2, vi (nI 0)] [] (upI μ v0 5 ((μ.1 v0 5) - (v2 - v1)))) :
    G 0 [rf 13 v0, vi v1, vi v2, un] [] μ := seg hC [(14, [])] 13 rfl h
theorem g_Te_takeOut_14 {lay : List Nat} {d : Nat} {P : PT} {G : KT} (hC : Clo lay (d + 1) mTe_takeOut P G) {v0 : Nat} {v1 : Int32} {v2 : Int32} {v3 : Int32} {μ : Mem}
    (h : (((μ.1 v0 4) ≤ v3 → P none μ) ∧ (¬ (μ.1 v0 4) ≤ v3 → (((nI 8) ≤ v3 → P none μ) ∧ (¬ (nI 8) ≤ v3 → (vp_in v3 8 ∧ (∃ P41 : PT, Rn lay d mTe_afterTaking [vi (μ.1 (v0 + 2) v3.toNatClampNeg), vi v1, vi v2] μ P41 ∧ ∀ (x41 : Int32) (μ41 : Mem), P41 (some (vi x41)) μ41 → (vp_in v3 8 ∧ (vp_in v3 8 ∧ (∃ P58 : PT, Rn lay d mTe_afterTaking [vi ((upI μ41 (v0 + 2) v3.toNatClampNeg x41).1 (v0 + 3) v3.toNatClampNeg), vi v1, vi v2] (upI μ41 (v0 + 2) v3.toNatClampNeg x41) P58 ∧ ∀ (x58 : Int32) (μ58 : Mem), P58 (some (vi x58)) μ58 → (vp_in v3 8 ∧ G 14 [rf 13 v0, vi v1, vi v2, vi (v3 + nI 1)] [] (upI μ58 (v0 + 3) v3.toNatClampNeg x58)))))))))))) :
    G 14 [rf 13 v0, vi v1, vi v2, vi v3] [] μ := seg hC [(14, [])] 34 rfl h
theorem ok_Te_afterTaking : okB mTe_afterTaking = true := by decide +kernel
theorem g_Te_afterTaking_0 {lay : List Nat} {d : Nat} {P : PT} {G : KT} (hC : Clo lay d mTe_afterTaking P G) {v0 : Int32} {v1 : Int32} {v2 : Int32} {μ : Mem}
    (h : ((v0 < v2 → P (some (vi (if v1 < v0 then v1 else v0))) μ) ∧ (¬ v0 < v2 → P (some (vi (v0 - (v2 - v1)))) μ))) :
    G 0 [vi v0, vi v1, vi v2] [] μ := seg hC [] 12 rfl h
theorem ok_Te_gatherInto : okB mTe_gatherInto = true := by decide +kernel
theorem g_Te_gatherInto_0 {lay : List Nat} {d : Nat} {P : PT} {G : KT} (hC : Clo lay (d + 1) mTe_gatherInto P G) {v0 : Nat} {v1 : Int32} {μ : Mem}
    (h : (∃ P2 : PT, Rn lay d mTe_isEmpty [rf 13 v0, vi v1] μ P2 ∧ ∀ (x2 : Int32) (μ2 : Mem), P2 (some (vi x2)) μ2 → ((x2 = 0 → G 11 [rf 13 v0, vi v1, vi (nI 0), un] [] μ2) ∧ (¬ x2 = 0 → P none μ2)))) :
    G 0 [rf 13 v0, vi v1, un, un] [] μ := seg hC [(11, [3]), (29, [])] 9 rfl h
theorem g_Te_gatherInto_11 {lay : List Nat} {d : Nat} {P : PT} {G : KT} (hC : Clo lay (d + 1) mTe_gatherInto P G) {v0 : Nat} {v1 : Int32} {v2 : Int32} {μ : Mem}
    (h : (((nI 8) ≤ v2 → P none μ) ∧ (¬ (nI 8) ≤ v2 → G 29 [rf 13 v0, vi v1, vi v2, vi ((if nI 8 < μ.1 v0 4 then nI 8 else μ.1 v0 4) - (nI 1))] [] μ))) :
    G 11 [rf 13 v0, vi v1, vi v2, un] [] μ := seg hC [(11, [3]), (29, [])] 13 rfl h
theorem g_Te_gatherInto_29 {lay : List Nat} {d : Nat} {P : PT} {G : KT} (hC : Clo lay (d + 1) mTe_gatherInto P G) {v0 : Nat} {v1 : Int32} {v2 : Int32} {v3 : Int32} {μ : Mem}
    (h : ((v3 ≤ v1 → G 11 [rf 13 v0, vi v1, vi (v2 + nI 1), un] [] μ) ∧ (¬ v3 ≤ v1 → (∃ P37 : PT, Rn lay d mTe_hangTogether [rf 13 v0, vi v1, vi v3] μ P37 ∧ ∀ (x37 : Int32) (μ37 : Mem), P37 (some (vi x37)) μ37 → ((x37 = 0 → G 29 [rf 13 v0, vi v1, vi v2, vi (v3 + mI 0)] [] μ37) ∧ (¬ x37 = 0 → (vp_in v1 8 ∧ (vp_in v3 8 ∧ (vp_in v1 8 ∧ (vp_in v3 8 ∧ (∃ P75 : PT, Rn lay d mTe_lay [rf 13 v0, vi v1, vi (if μ37.1 (v0 + 2) v3.toNatClampNeg < μ37.1 (v0 + 2) v1.toNatClampNeg then μ37.1 (v0 + 2) v3.toNatClampNeg else μ37.1 (v0 + 2) v1.toNatClampNeg), vi (if μ37.1 (v0 + 3) v1.toNatClampNeg < μ37.1 (v0 + 3) v3.toNatClampNeg then μ37.1 (v0 + 3) v3.toNatClampNeg else μ37.1 (v0 + 3) v1.toNatClampNeg)] μ37 P75 ∧ ∀ μ75 : Mem, P75 none μ75 → (∃ P80 : PT, Rn lay d mTe_remove [rf 13 v0, vi v3] μ75 P80 ∧ ∀ μ80 : Mem, P80 none μ80 → G 29 [rf 13 v0, vi v1, vi v2, vi (v3 + mI 0)] [] μ80)))))))))))) :
    G 29 [rf 13 v0, vi v1, vi v2, vi v3] [] μ := seg hC [(11, [3]), (29, [])] 37 rfl h
theorem ok_Te_hangTogether : okB mTe_hangTogether = true := by decide +kernel
theorem g_Te_hangTogether_0 {lay : List Nat} {d : Nat} {P : PT} {G : KT} (hC : Clo lay (d + 1) mTe_hangTogether P G) {v0 : Nat} {v1 : Int32} {v2 : Int32} {μ : Mem}
    (h : (∃ P2 : PT, Rn lay d mTe_isEmpty [rf 13 v0, vi v1] μ P2 ∧ ∀ (x2 : Int32) (μ2 : Mem), P2 (some (vi x2)) μ2 → ((¬ x2 = 0 → P (some (vi (nI 0))) μ2) ∧ (x2 = 0 → (∃ P10 : PT, Rn lay d mTe_isEmpty [rf 13 v0, vi v2] μ2 P10 ∧ ∀ (x10 : Int32) (μ10 : Mem), P10 (some (vi x10)) μ10 → ((¬ x10 = 0 → P (some (vi (nI 0))) μ10) ∧ (x10 = 0 → (vp_in v1 8 ∧ (vp_in v2 8 ∧ (((μ10.1 (v0 + 1) v1.toNatClampNeg) = (μ10.1 (v0 + 1) v2.toNatClampNeg) → (vp_in v1 8 ∧ (vp_in v2 8 ∧ (((μ10.1 (v0 + 3) v2.toNatClampNeg) < (μ10.1 (v0 + 2) v1.toNatClampNeg) → P (some (vi (nI 0))) μ10) ∧ (¬ (μ10.1 (v0 + 3) v2.toNatClampNeg) < (μ10.1 (v0 + 2) v1.toNatClampNeg) → (vp_in v2 8 ∧ (vp_in v1 8 ∧ (((μ10.1 (v0 + 3) v1.toNatClampNeg) < (μ10.1 (v0 + 2) v2.toNatClampNeg) → P (some (vi (nI 0))) μ10) ∧ (¬ (μ10.1 (v0 + 3) v1.toNatClampNeg) < (μ10.1 (v0 + 2) v2.toNatClampNeg) → P (some (vi (nI 1))) μ10))))))))) ∧ (¬ (μ10.1 (v0 + 1) v1.toNatClampNeg) = (μ10.1 (v0 + 1) v2.toNatClampNeg) → P (some (vi (nI 0))) μ10))))))))))) :
    G 0 [rf 13 v0, vi v1, vi v2] [] μ := seg hC [] 41 rfl ((match h with | ⟨P2, c2, f2⟩ => ⟨P2, c2, fun x2 μ2 y2 => (fun h2 => ⟨fun q1 => ⟨Or.inl (by decide), (h2.1 q1)⟩, fun q1 => (match (h2.2 q1) with | ⟨P10, c10, f10⟩ => ⟨P10, c10, fun x10 μ10 y10 => (fun h10 => ⟨fun q2 => ⟨Or.inl (by decide), (h10.1 q2)⟩, fun q2 => ⟨(h10.2 q2).1, ⟨(h10.2 q2).2.1, ⟨fun q3 => ⟨((h10.2 q2).2.2.1 q3).1, ⟨((h10.2 q2).2.2.1 q3).2.1, ⟨fun q4 => ⟨Or.inl (by decide), (((h10.2 q2).2.2.1 q3).2.2.1 q4)⟩, fun q4 => ⟨(((h10.2 q2).2.2.1 q3).2.2.2 q4).1, ⟨(((h10.2 q2).2.2.1 q3).2.2.2 q4).2.1, ⟨fun q5 => ⟨Or.inl (by decide), ((((h10.2 q2).2.2.1 q3).2.2.2 q4).2.2.1 q5)⟩, fun q5 => ⟨Or.inr (by decide), ((((h10.2 q2).2.2.1 q3).2.2.2 q4).2.2.2 q5)⟩⟩⟩⟩⟩⟩⟩, fun q3 => ⟨Or.inl (by decide), ((h10.2 q2).2.2.2 q3)⟩⟩⟩⟩⟩) (f10 x10 μ10 y10)⟩)⟩) (f2 x2 μ2 y2)⟩))
theorem ok_Te_placeBy : okB mTe_placeBy = true := by decide +kernel
theorem g_Te_placeBy_0 {lay : List Nat} {d : Nat} {P : PT} {G : KT} (hC : Clo lay d mTe_placeBy P G) {v0 : Nat} {v1 : Int64} {μ : Mem}
    (h : ((0 ≤ (lg_cmp (((μ.1 v0 5).toInt64) + (lN 1)) (lN 1)) → (¬ (((μ.1 v0 5).toInt64) + (lN 1)) = 0 ∧ P (some (vi ((v1 - v1 / (((μ.1 v0 5).toInt64) + (lN 1)) * (((μ.1 v0 5).toInt64) + (lN 1))).toInt32))) μ)) ∧ (¬ 0 ≤ (lg_cmp (((μ.1 v0 5).toInt64) + (lN 1)) (lN 1)) → P (some (vi (nI 0))) μ))) :
    G 0 [rf 13 v0, vl v1, un, un, un] [] μ := seg hC [] 18 rfl h
end
section
theorem ok_Hi_forget : okB mHi_forget = true := by decide +kernel
theorem g_Hi_forget_0 {lay : List Nat} {d : Nat} {P : PT} {G : KT} (hC : Clo lay d mHi_forget P G) {v0 : Nat} {μ : Mem}
    (h : P none (upI μ v0 2 (nI 0))) :
    G 0 [rf 10 v0] [] μ := seg hC [] 7 rfl h
theorem ok_Hi_keep : okB mHi_keep = true := by decide +kernel
theorem g_Hi_keep_0 {lay : List Nat} {d : Nat} {P : PT} {G : KT} (hC : Clo lay (d + 1) mHi_keep P G) {v0 : Nat} {v1 : Nat} {μ : Mem}
    (h : (((μ.1 v0 1) < 0 → (vp_in ((upI μ v0 1 (nI 0)).1 v0 1) 12 ∧ (∃ P31 : PT, Rn lay d mTe_copy [rf 13 (v0 + 1 + 1 + 5 * ((upI μ v0 1 (nI 0)).1 v0 1).toNatClampNeg), rf 13 v1] (upI μ v0 1 (nI 0)) P31 ∧ ∀ μ31 : Mem, P31 none μ31 → (((nI 12) ≤ ((upI μ31 v0 1 (((μ31.1 v0 1) + (nI 1)) - ((μ31.1 v0 1) + (nI 1)) / (nI 12) * (nI 12))).1 v0 2) → P none (upI μ31 v0 1 (((μ31.1 v0 1) + (nI 1)) - ((μ31.1 v0 1) + (nI 1)) / (nI 12) * (nI 12)))) ∧ (¬ (nI 12) ≤ ((upI μ31 v0 1 (((μ31.1 v0 1) + (nI 1)) - ((μ31.1 v0 1) + (nI 1)) / (nI 12) * (nI 12))).1 v0 2) → P none (upI (upI μ31 v0 1 (((μ31.1 v0 1) + (nI 1)) - ((μ31.1 v0 1) + (nI 1)) / (nI 12) * (nI 12))) v0 2 (((upI μ31 v0 1 (((μ31.1 v0 1) + (nI 1)) - ((μ31.1 v0 1) + (nI 1)) / (nI 12) * (nI 12))).1 v0 2) + (nI 1)))))))) ∧ (¬ (μ.1 v0 1) < 0 → (((μ.1 v0 1) < (nI 12) → (vp_in (μ.1 v0 1) 12 ∧ (∃ P31 : PT, Rn lay d mTe_copy [rf 13 (v0 + 1 + 1 + 5 * (μ.1 v0 1).toNatClampNeg), rf 13 v1] μ P31 ∧ ∀ μ31 : Mem, P31 none μ31 → (((nI 12) ≤ ((upI μ31 v0 1 (((μ31.1 v0 1) + (nI 1)) - ((μ31.1 v0 1) + (nI 1)) / (nI 12) * (nI 12))).1 v0 2) → P none (upI μ31 v0 1 (((μ31.1 v0 1) + (nI 1)) - ((μ31.1 v0 1) + (nI 1)) / (nI 12) * (nI 12)))) ∧ (¬ (nI 12) ≤ ((upI μ31 v0 1 (((μ31.1 v0 1) + (nI 1)) - ((μ31.1 v0 1) + (nI 1)) / (nI 12) * (nI 12))).1 v0 2) → P none (upI (upI μ31 v0 1 (((μ31.1 v0 1) + (nI 1)) - ((μ31.1 v0 1) + (nI 1)) / (nI 12) * (nI 12))) v0 2 (((upI μ31 v0 1 (((μ31.1 v0 1) + (nI 1)) - ((μ31.1 v0 1) + (nI 1)) / (nI 12) * (nI 12))).1 v0 2) + (nI 1)))))))) ∧ (¬ (μ.1 v0 1) < (nI 12) → (vp_in ((upI μ v0 1 (nI 0)).1 v0 1) 12 ∧ (∃ P31 : PT, Rn lay d mTe_copy [rf 13 (v0 + 1 + 1 + 5 * ((upI μ v0 1 (nI 0)).1 v0 1).toNatClampNeg), rf 13 v1] (upI μ v0 1 (nI 0)) P31 ∧ ∀ μ31 : Mem, P31 none μ31 → (((nI 12) ≤ ((upI μ31 v0 1 (((μ31.1 v0 1) + (nI 1)) - ((μ31.1 v0 1) + (nI 1)) / (nI 12) * (nI 12))).1 v0 2) → P none (upI μ31 v0 1 (((μ31.1 v0 1) + (nI 1)) - ((μ31.1 v0 1) + (nI 1)) / (nI 12) * (nI 12)))) ∧ (¬ (nI 12) ≤ ((upI μ31 v0 1 (((μ31.1 v0 1) + (nI 1)) - ((μ31.1 v0 1) + (nI 1)) / (nI 12) * (nI 12))).1 v0 2) → P none (upI (upI μ31 v0 1 (((μ31.1 v0 1) + (nI 1)) - ((μ31.1 v0 1) + (nI 1)) / (nI 12) * (nI 12))) v0 2 (((upI μ31 v0 1 (((μ31.1 v0 1) + (nI 1)) - ((μ31.1 v0 1) + (nI 1)) / (nI 12) * (nI 12))).1 v0 2) + (nI 1)))))))))))) :
    G 0 [rf 10 v0, rf 13 v1] [] μ := seg hC [] 39 rfl (⟨fun q1 => ⟨(h.1 q1).1, (match (h.1 q1).2 with | ⟨P31, c31, f31⟩ => ⟨P31, c31, fun μ31 y31 => (fun h31 => ⟨by decide, h31⟩) (f31 μ31 y31)⟩)⟩, fun q1 => ⟨fun q3 => ⟨((h.2 q1).1 q3).1, (match ((h.2 q1).1 q3).2 with | ⟨P31, c31, f31⟩ => ⟨P31, c31, fun μ31 y31 => (fun h31 => ⟨by decide, h31⟩) (f31 μ31 y31)⟩)⟩, fun q3 => ⟨((h.2 q1).2 q3).1, (match ((h.2 q1).2 q3).2 with | ⟨P31, c31, f31⟩ => ⟨P31, c31, fun μ31 y31 => (fun h31 => ⟨by decide, h31⟩) (f31 μ31 y31)⟩)⟩⟩⟩)
theorem ok_Hi_takeBack : okB mHi_takeBack = true := by decide +kernel
theorem g_Hi_takeBack_0 {lay : List Nat} {d : Nat} {P : PT} {G : KT} (hC : Clo lay (d + 1) mHi_takeBack P G) {v0 : Nat} {v1 : Nat} {μ : Mem}
    (h : ((0 < (μ.1 v0 2) → ((0 < (μ.1 v0 1) → ((((upI μ v0 1 ((μ.1 v0 1) - (nI 1))).1 v0 1) < (nI 12) → (vp_in ((upI μ v0 1 ((μ.1 v0 1) - (nI 1))).1 v0 1) 12 ∧ (∃ P52 : PT, Rn lay d mTe_copy [rf 13 v1, rf 13 (v0 + 1 + 1 + 5 * ((upI μ v0 1 ((μ.1 v0 1) - (nI 1))).1 v0 1).toNatClampNeg)] (upI μ v0 1 ((μ.1 v0 1) - (nI 1))) P52 ∧ ∀ μ52 : Mem, P52 none μ52 → P (some (vi (nI 1))) (upI μ52 v0 2 ((μ52.1 v0 2) - (nI 1)))))) ∧ (¬ ((upI μ v0 1 ((μ.1 v0 1) - (nI 1))).1 v0 1) < (nI 12) → P (some (vi (nI 0))) (upI μ v0 1 ((μ.1 v0 1) - (nI 1)))))) ∧ (¬ 0 < (μ.1 v0 1) → ((((upI μ v0 1 (nI 11)).1 v0 1) < (nI 12) → (vp_in ((upI μ v0 1 (nI 11)).1 v0 1) 12 ∧ (∃ P52 : PT, Rn lay d mTe_copy [rf 13 v1, rf 13 (v0 + 1 + 1 + 5 * ((upI μ v0 1 (nI 11)).1 v0 1).toNatClampNeg)] (upI μ v0 1 (nI 11)) P52 ∧ ∀ μ52 : Mem, P52 none μ52 → P (some (vi (nI 1))) (upI μ52 v0 2 ((μ52.1 v0 2) - (nI 1)))))) ∧ (¬ ((upI μ v0 1 (nI 11)).1 v0 1) < (nI 12) → P (some (vi (nI 0))) (upI μ v0 1 (nI 11))))))) ∧ (¬ 0 < (μ.1 v0 2) → P (some (vi (nI 0))) μ))) :
    G 0 [rf 10 v0, rf 13 v1] [] μ := seg hC [] 34 rfl (⟨fun q1 => ⟨fun q2 => ⟨fun q3 => ⟨(((h.1 q1).1 q2).1 q3).1, (match (((h.1 q1).1 q2).1 q3).2 with | ⟨P52, c52, f52⟩ => ⟨P52, c52, fun μ52 y52 => (fun h52 => ⟨Or.inr (by decide), h52⟩) (f52 μ52 y52)⟩)⟩, fun q3 => ⟨Or.inl (by decide), (((h.1 q1).1 q2).2 q3)⟩⟩, fun q2 => ⟨fun q4 => ⟨(((h.1 q1).2 q2).1 q4).1, (match (((h.1 q1).2 q2).1 q4).2 with | ⟨P52, c52, f52⟩ => ⟨P52, c52, fun μ52 y52 => (fun h52 => ⟨Or.inr (by decide), h52⟩) (f52 μ52 y52)⟩)⟩, fun q4 => ⟨Or.inl (by decide), (((h.1 q1).2 q2).2 q4)⟩⟩⟩, fun q1 => ⟨Or.inl (by decide), (h.2 q1)⟩⟩)
end
section
theorem ok_Se_has : okB mSe_has = true := by decide +kernel
theorem g_Se_has_0 {lay : List Nat} {d : Nat} {P : PT} {G : KT} (hC : Clo lay d mSe_has P G) {v0 : Nat} {v1 : Int32} {μ : Mem}
    (h : ((v1 < 0 → P (some (vi (nI 0))) μ) ∧ (¬ v1 < 0 → (((μ.1 v0 4) ≤ v1 → P (some (vi (nI 0))) μ) ∧ (¬ (μ.1 v0 4) ≤ v1 → (((nI 15) ≤ v1 → P (some (vi (nI 0))) μ) ∧ (¬ (nI 15) ≤ v1 → P (some (vi (nI 1))) μ))))))) :
    G 0 [rf 12 v0, vi v1] [] μ := seg hC [] 15 rfl (⟨fun q1 => ⟨Or.inl (by decide), (h.1 q1)⟩, fun q1 => ⟨fun q2 => ⟨Or.inl (by decide), ((h.2 q1).1 q2)⟩, fun q2 => ⟨fun q3 => ⟨Or.inl (by decide), (((h.2 q1).2 q2).1 q3)⟩, fun q3 => ⟨Or.inr (by decide), (((h.2 q1).2 q2).2 q3)⟩⟩⟩⟩)
theorem ok_Se_isCut : okB mSe_isCut = true := by decide +kernel
theorem g_Se_isCut_0 {lay : List Nat} {d : Nat} {P : PT} {G : KT} (hC : Clo lay d mSe_isCut P G) {v0 : Nat} {v1 : Int32} {v2 : Int32} {μ : Mem}
    (h : ((v1 < 0 → P (some (vi (nI 0))) μ) ∧ (¬ v1 < 0 → (((μ.1 v0 3) ≤ v1 → P (some (vi (nI 0))) μ) ∧ (¬ (μ.1 v0 3) ≤ v1 → (((nI 16) ≤ v1 → P (some (vi (nI 0))) μ) ∧ (¬ (nI 16) ≤ v1 → (vp_in v1 16 ∧ ((¬ (μ.1 (v0 + 1) v1.toNatClampNeg) = v2 → P (some (vi (nI 0))) μ) ∧ ((μ.1 (v0 + 1) v1.toNatClampNeg) = v2 → P (some (vi (nI 1))) μ)))))))))) :
    G 0 [rf 12 v0, vi v1, vi v2] [] μ := seg hC [] 21 rfl (⟨fun q1 => ⟨Or.inl (by decide), (h.1 q1)⟩, fun q1 => ⟨fun q2 => ⟨Or.inl (by decide), ((h.2 q1).1 q2)⟩, fun q2 => ⟨fun q3 => ⟨Or.inl (by decide), (((h.2 q1).2 q2).1 q3)⟩, fun q3 => ⟨(((h.2 q1).2 q2).2 q3).1, ⟨fun q4 => ⟨Or.inl (by decide), ((((h.2 q1).2 q2).2 q3).2.1 q4)⟩, fun q4 => ⟨Or.inr (by decide), ((((h.2 q1).2 q2).2 q3).2.2 q4)⟩⟩⟩⟩⟩⟩)
theorem ok_Se_cut : okB mSe_cut = true := by decide +kernel
theorem g_Se_cut_0 {lay : List Nat} {d : Nat} {P : PT} {G : KT} (hC : Clo lay (d + 1) mSe_cut P G) {v0 : Nat} {v1 : Nat} {v2 : Int32} {μ : Mem}
    (h : G 7 [rf 12 v0, rf 13 v1, vi v2, vi (nI 0)] [] (upI μ v0 3 (nI 0))) :
    G 0 [rf 12 v0, rf 13 v1, vi v2, un] [] μ := seg hC [(7, []), (60, [3])] 8 rfl h
theorem g_Se_cut_7 {lay : List Nat} {d : Nat} {P : PT} {G : KT} (hC : Clo lay (d + 1) mSe_cut P G) {v0 : Nat} {v1 : Nat} {v2 : Int32} {v3 : Int32} {μ : Mem}
    (h : (((μ.1 v1 4) ≤ v3 → G 60 [rf 12 v0, rf 13 v1, vi v2, un] [] μ) ∧ (¬ (μ.1 v1 4) ≤ v3 → (((nI 8) ≤ v3 → G 60 [rf 12 v0, rf 13 v1, vi v2, un] [] μ) ∧ (¬ (nI 8) ≤ v3 → ((v3 = v2 → G 7 [rf 12 v0, rf 13 v1, vi v2, vi (v3 + nI 1)] [] μ) ∧ (¬ v3 = v2 → (∃ P28 : PT, Rn lay d mTe_isEmpty [rf 13 v1, vi v3] μ P28 ∧ ∀ (x28 : Int32) (μ28 : Mem), P28 (some (vi x28)) μ28 → ((¬ x28 = 0 → G 7 [rf 12 v0, rf 13 v1, vi v2, vi (v3 + nI 1)] [] μ28) ∧ (x28 = 0 → (vp_in v3 8 ∧ (∃ P41 : PT, Rn lay d mSe_addCut [rf 12 v0, vi (μ28.1 (v1 + 2) v3.toNatClampNeg)] μ28 P41 ∧ ∀ μ41 : Mem, P41 none μ41 → (vp_in v3 8 ∧ (∃ P51 : PT, Rn lay d mSe_addCut [rf 12 v0, vi (μ41.1 (v1 + 3) v3.toNatClampNeg)] μ41 P51 ∧ ∀ μ51 : Mem, P51 none μ51 → G 7 [rf 12 v0, rf 13 v1, vi v2, vi (v3 + nI 1)] [] μ51)))))))))))))) :
    G 7 [rf 12 v0, rf 13 v1, vi v2, vi v3] [] μ := seg hC [(7, []), (60, [3])] 31 rfl h
theorem g_Se_cut_60 {lay : List Nat} {d : Nat} {P : PT} {G : KT} (hC : Clo lay (d + 1) mSe_cut P G) {v0 : Nat} {v1 : Nat} {v2 : Int32} {μ : Mem}
    (h : (∃ P77 : PT, Rn lay d mSe_cover [rf 12 v0, rf 13 v1, vi v2] (upI μ v0 4 (if nI 0 < (μ.1 v0 3) - (nI 1) then (μ.1 v0 3) - (nI 1) else nI 0)) P77 ∧ ∀ μ77 : Mem, P77 none μ77 → P none μ77)) :
    G 60 [rf 12 v0, rf 13 v1, vi v2, un] [] μ := seg hC [(7, []), (60, [3])] 16 rfl h
theorem ok_Se_addCut : okB mSe_addCut = true := by decide +kernel
theorem g_Se_addCut_0 {lay : List Nat} {d : Nat} {P : PT} {G : KT} (hC : Clo lay d mSe_addCut P G) {v0 : Nat} {v1 : Int32} {μ : Mem}
    (h : G 2 [rf 12 v0, vi v1, vi (nI 0), un] [] μ) :
    G 0 [rf 12 v0, vi v1, un, un] [] μ := seg hC [(2, [3]), (32, [3]), (80, []), (105, [3])] 5 rfl h
theorem g_Se_addCut_2 {lay : List Nat} {d : Nat} {P : PT} {G : KT} (hC : Clo lay d mSe_addCut P G) {v0 : Nat} {v1 : Int32} {v2 : Int32} {μ : Mem}
    (h : (((μ.1 v0 3) ≤ v2 → G 32 [rf 12 v0, vi v1, vi v2, un] [] μ) ∧ (¬ (μ.1 v0 3) ≤ v2 → (((nI 16) ≤ v2 → G 32 [rf 12 v0, vi v1, vi v2, un] [] μ) ∧ (¬ (nI 16) ≤ v2 → (vp_in v2 16 ∧ ((v1 ≤ (μ.1 (v0 + 1) v2.toNatClampNeg) → G 32 [rf 12 v0, vi v1, vi v2, un] [] μ) ∧ (¬ v1 ≤ (μ.1 (v0 + 1) v2.toNatClampNeg) → G 2 [rf 12 v0, vi v1, vi (v2 + nI 1), un] [] μ)))))))) :
    G 2 [rf 12 v0, vi v1, vi v2, un] [] μ := seg hC [(2, [3]), (32, [3]), (80, []), (105, [3])] 18 rfl h
theorem g_Se_addCut_32 {lay : List Nat} {d : Nat} {P : PT} {G : KT} (hC : Clo lay d mSe_addCut P G) {v0 : Nat} {v1 : Int32} {v2 : Int32} {μ : Mem}
    (h : (((μ.1 v0 3) ≤ v2 → (((μ.1 v0 3) < v2 → P none μ) ∧ (¬ (μ.1 v0 3) < v2 → (((μ.1 v0 3) < (nI 16) → G 80 [rf 12 v0, vi v1, vi v2, vi (μ.1 v0 3)] [] μ) ∧ (¬ (μ.1 v0 3) < (nI 16) → P none μ))))) ∧ (¬ (μ.1 v0 3) ≤ v2 → (((nI 16) ≤ v2 → (((μ.1 v0 3) < v2 → P none μ) ∧ (¬ (μ.1 v0 3) < v2 → (((μ.1 v0 3) < (nI 16) → G 80 [rf 12 v0, vi v1, vi v2, vi (μ.1 v0 3)] [] μ) ∧ (¬ (μ.1 v0 3) < (nI 16) → P none μ))))) ∧ (¬ (nI 16) ≤ v2 → (vp_in v2 16 ∧ ((¬ (μ.1 (v0 + 1) v2.toNatClampNeg) = v1 → (((μ.1 v0 3) < v2 → P none μ) ∧ (¬ (μ.1 v0 3) < v2 → (((μ.1 v0 3) < (nI 16) → G 80 [rf 12 v0, vi v1, vi v2, vi (μ.1 v0 3)] [] μ) ∧ (¬ (μ.1 v0 3) < (nI 16) → P none μ))))) ∧ ((μ.1 (v0 + 1) v2.toNatClampNeg) = v1 → P none μ)))))))) :
    G 32 [rf 12 v0, vi v1, vi v2, un] [] μ := seg hC [(2, [3]), (32, [3]), (80, []), (105, [3])] 27 rfl h
theorem g_Se_addCut_80 {lay : List Nat} {d : Nat} {P : PT} {G : KT} (hC : Clo lay d mSe_addCut P G) {v0 : Nat} {v1 : Int32} {v2 : Int32} {v3 : Int32} {μ : Mem}
    (h : ((v3 ≤ v2 → G 105 [rf 12 v0, vi v1, vi v2, un] [] μ) ∧ (¬ v3 ≤ v2 → (vp_in (v3 - (nI 1)) 16 ∧ (vp_in v3 16 ∧ G 80 [rf 12 v0, vi v1, vi v2, vi (v3 + mI 0)] [] (upI μ (v0 + 1) v3.toNatClampNeg (μ.1 (v0 + 1) (v3 - (nI 1)).toNatClampNeg))))))) :
    G 80 [rf 12 v0, vi v1, vi v2, vi v3] [] μ := seg hC [(2, [3]), (32, [3]), (80, []), (105, [3])] 18 rfl h
theorem g_Se_addCut_105 {lay : List Nat} {d : Nat} {P : PT} {G : KT} (hC : Clo lay d mSe_addCut P G) {v0 : Nat} {v1 : Int32} {v2 : Int32} {μ : Mem}
    (h : (vp_in v2 16 ∧ P none (upI (upI μ (v0 + 1) v2.toNatClampNeg v1) v0 3 (((upI μ (v0 + 1) v2.toNatClampNeg v1).1 v0 3) + (nI 1))))) :
    G 105 [rf 12 v0, vi v1, vi v2, un] [] μ := seg hC [(2, [3]), (32, [3]), (80, []), (105, [3])] 15 rfl h
theorem ok_Se_cover : okB mSe_cover = true := by decide +kernel
theorem g_Se_cover_0 {lay : List Nat} {d : Nat} {P : PT} {G : KT} (hC : Clo lay (d + 1) mSe_cover P G) {v0 : Nat} {v1 : Nat} {v2 : Int32} {μ : Mem}
    (h : ((0 ≤ v2 → G 17 [rf 12 v0, rf 13 v1, un, vi (((nI 1) <<< (v2 &&& 31)) ^^^ (mI 0)), vi (nI 0)] [] μ) ∧ (¬ 0 ≤ v2 → G 17 [rf 12 v0, rf 13 v1, un, vi (mI 0), vi (nI 0)] [] μ))) :
    G 0 [rf 12 v0, rf 13 v1, vi v2, un, un] [] μ := seg hC [(17, [2])] 13 rfl h
theorem g_Se_cover_17 {lay : List Nat} {d : Nat} {P : PT} {G : KT} (hC : Clo lay (d + 1) mSe_cover P G) {v0 : Nat} {v1 : Nat} {v3 : Int32} {v4 : Int32} {μ : Mem}
    (h : (((μ.1 v0 4) ≤ v4 → P none μ) ∧ (¬ (μ.1 v0 4) ≤ v4 → (((nI 15) ≤ v4 → P none μ) ∧ (¬ (nI 15) ≤ v4 → (vp_in v4 16 ∧ (∃ P47 : PT, Rn lay d mTe_coverAt [rf 13 v1, vi (μ.1 (v0 + 1) v4.toNatClampNeg)] μ P47 ∧ ∀ (x47 : Int32) (μ47 : Mem), P47 (some (vi x47)) μ47 → (vp_in v4 15 ∧ (vp_in v4 15 ∧ ((v4 ≤ 0 → G 17 [rf 12 v0, rf 13 v1, un, vi v3, vi (v4 + nI 1)] [] (upI (upI μ47 (v0 + 2) v4.toNatClampNeg (x47 &&& v3)) (v0 + 3) v4.toNatClampNeg (nI 0))) ∧ (¬ v4 ≤ 0 → (vp_in (v4 - (nI 1)) 15 ∧ (vp_in v4 15 ∧ (∃ P91 : PT, Rn lay d mInt_bitCount [vi (((upI (upI μ47 (v0 + 2) v4.toNatClampNeg (x47 &&& v3)) (v0 + 3) v4.toNatClampNeg (nI 0)).1 (v0 + 2) (v4 - (nI 1)).toNatClampNeg) &&& ((upI (upI μ47 (v0 + 2) v4.toNatClampNeg (x47 &&& v3)) (v0 + 3) v4.toNatClampNeg (nI 0)).1 (v0 + 2) v4.toNatClampNeg))] (upI (upI μ47 (v0 + 2) v4.toNatClampNeg (x47 &&& v3)) (v0 + 3) v4.toNatClampNeg (nI 0)) P91 ∧ ∀ (x91 : Int32) (μ91 : Mem), P91 (some (vi x91)) μ91 → (vp_in (v4 - (nI 1)) 15 ∧ G 17 [rf 12 v0, rf 13 v1, un, vi v3, vi (v4 + nI 1)] [] (upI μ91 (v0 + 3) (v4 - (nI 1)).toNatClampNeg x91)))))))))))))))) :
    G 17 [rf 12 v0, rf 13 v1, un, vi v3, vi v4] [] μ := seg hC [(17, [2])] 49 rfl h
end
section
theorem ok_We_weigh : okB mWe_weigh = true := by decide +kernel
theorem g_We_weigh_0 {lay : List Nat} {d : Nat} {P : PT} {G : KT} (hC : Clo lay (d + 1) mWe_weigh P G) {v0 : Nat} {v1 : Nat} {v2 : Nat} {v3 : Int32} {μ : Mem}
    (h : G 3 [rf 14 v0, rf 13 v1, rf 12 v2, vi v3, vi (nI 0), un, un] [] μ) :
    G 0 [rf 14 v0, rf 13 v1, rf 12 v2, vi v3, un, un, un] [] μ := seg hC [(3, [5, 6]), (54, [1, 3, 6]), (112, [1, 3]), (172, [1, 2, 3, 5, 6])] 5 rfl h
theorem g_We_weigh_3 {lay : List Nat} {d : Nat} {P : PT} {G : KT} (hC : Clo lay (d + 1) mWe_weigh P G) {v0 : Nat} {v1 : Nat} {v2 : Nat} {v3 : Int32} {v4 : Int32} {μ : Mem}
    (h : (((nI 8) ≤ v4 → G 54 [rf 14 v0, un, rf 12 v2, un, vi (if nI 15 < μ.1 v2 4 then nI 15 else μ.1 v2 4), vi ((if nI 15 < μ.1 v2 4 then nI 15 else μ.1 v2 4) - (nI 1)), un] [] μ) ∧ (¬ (nI 8) ≤ v4 → ((v3 = 0 → (∃ P27 : PT, Rn lay d mTe_rankOf [rf 13 v1, vi v4] μ P27 ∧ ∀ (x27 : Int32) (μ27 : Mem), P27 (some (vi x27)) μ27 → (vp_in v4 8 ∧ G 3 [rf 14 v0, rf 13 v1, rf 12 v2, vi v3, vi (v4 + nI 1), un, un] [] (upI μ27 (v0 + 37) v4.toNatClampNeg x27)))) ∧ (¬ v3 = 0 → (vp_in v4 8 ∧ G 3 [rf 14 v0, rf 13 v1, rf 12 v2, vi v3, vi (v4 + nI 1), un, un] [] (upI μ (v0 + 37) v4.toNatClampNeg (nI 0)))))))) :
    G 3 [rf 14 v0, rf 13 v1, rf 12 v2, vi v3, vi v4, un, un] [] μ := seg hC [(3, [5, 6]), (54, [1, 3, 6]), (112, [1, 3]), (172, [1, 2, 3, 5, 6])] 17 rfl h
theorem g_We_weigh_54 {lay : List Nat} {d : Nat} {P : PT} {G : KT} (hC : Clo lay (d + 1) mWe_weigh P G) {v0 : Nat} {v2 : Nat} {v4 : Int32} {v5 : Int32} {μ : Mem}
    (h : ((v5 < 0 → G 172 [rf 14 v0, un, un, un, vi v4, un, un] [] μ) ∧ (¬ v5 < 0 → (vp_in v5 15 ∧ (vp_in v5 15 ∧ (∃ P79 : PT, Rn lay d mWe_addStacks [rf 14 v0, vi v5, vi ((upI μ (v0 + 36) v5.toNatClampNeg (nI 0)).1 (v2 + 2) v5.toNatClampNeg), vi (nI 0), vi (nI 0)] (upI μ (v0 + 36) v5.toNatClampNeg (nI 0)) P79 ∧ ∀ μ79 : Mem, P79 none μ79 → (((v5 + (nI 1)) < v4 → G 112 [rf 14 v0, un, rf 12 v2, un, vi v4, vi v5, vi (nI 0)] [vi (nI 1000000), vi v5, rf 14 v0] μ79) ∧ (¬ (v5 + (nI 1)) < v4 → G 112 [rf 14 v0, un, rf 12 v2, un, vi v4, vi v5, vi (nI 1)] [vi (nI 0), vi v5, rf 14 v0] μ79)))))))) :
    G 54 [rf 14 v0, un, rf 12 v2, un, vi v4, vi v5, un] [] μ := seg hC [(3, [5, 6]), (54, [1, 3, 6]), (112, [1, 3]), (172, [1, 2, 3, 5, 6])] 33 rfl (⟨fun q1 => (h.1 q1), fun q1 => ⟨(h.2 q1).1, ⟨(h.2 q1).2.1, (match (h.2 q1).2.2 with | ⟨P79, c79, f79⟩ => ⟨P79, c79, fun μ79 y79 => (fun h79 => ⟨fun q2 => ⟨fun _ => (h79.1 q2), fun q => absurd (by decide) q⟩, fun q2 => ⟨fun q => absurd q (by decide), fun _ => (h79.2 q2)⟩⟩) (f79 μ79 y79)⟩)⟩⟩⟩)
theorem g_We_weigh_112 {lay : List Nat} {d : Nat} {P : PT} {G : KT} (hC : Clo lay (d + 1) mWe_weigh P G) {v0 : Nat} {v2 : Nat} {v4 : Int32} {v5 : Int32} {v6 : Int32} {s0 : Int32} {s1 : Int32} {s2 : Nat} {μ : Mem}
    (h : ((v6 = 0 → (∃ P122 : PT, Rn lay d mWe_setAll [rf 14 s2, vi s1, vi s0, vi (nI 0)] μ P122 ∧ ∀ μ122 : Mem, P122 none μ122 → (vp_in v5 15 ∧ ((¬ v6 = 0 → G 54 [rf 14 v0, un, rf 12 v2, un, vi v4, vi (v5 + mI 0), un] [] (upI μ122 v0 5 (μ122.1 (v2 + 3) v5.toNatClampNeg))) ∧ (v6 = 0 → (vp_in v5 15 ∧ (vp_in (v5 + (nI 1)) 15 ∧ (∃ P163 : PT, Rn lay d mWe_offerAlike [rf 14 v0, vi v5, vi (nI 0), vi (nI 0), vi ((upI μ122 v0 5 (μ122.1 (v2 + 3) v5.toNatClampNeg)).1 (v0 + 36) v5.toNatClampNeg), vi (nI 0), vi ((upI μ122 v0 5 (μ122.1 (v2 + 3) v5.toNatClampNeg)).1 (v0 + 36) (v5 + (nI 1)).toNatClampNeg)] (upI μ122 v0 5 (μ122.1 (v2 + 3) v5.toNatClampNeg)) P163 ∧ ∀ μ163 : Mem, P163 none μ163 → G 54 [rf 14 v0, un, rf 12 v2, un, vi v4, vi (v5 + mI 0), un] [] μ163)))))))) ∧ (¬ v6 = 0 → (∃ P122 : PT, Rn lay d mWe_setAll [rf 14 s2, vi s1, vi s0, vi (nI 1)] μ P122 ∧ ∀ μ122 : Mem, P122 none μ122 → (vp_in v5 15 ∧ ((¬ v6 = 0 → G 54 [rf 14 v0, un, rf 12 v2, un, vi v4, vi (v5 + mI 0), un] [] (upI μ122 v0 5 (μ122.1 (v2 + 3) v5.toNatClampNeg))) ∧ (v6 = 0 → (vp_in v5 15 ∧ (vp_in (v5 + (nI 1)) 15 ∧ (∃ P163 : PT, Rn lay d mWe_offerAlike [rf 14 v0, vi v5, vi (nI 0), vi (nI 0), vi ((upI μ122 v0 5 (μ122.1 (v2 + 3) v5.toNatClampNeg)).1 (v0 + 36) v5.toNatClampNeg), vi (nI 0), vi ((upI μ122 v0 5 (μ122.1 (v2 + 3) v5.toNatClampNeg)).1 (v0 + 36) (v5 + (nI 1)).toNatClampNeg)] (upI μ122 v0 5 (μ122.1 (v2 + 3) v5.toNatClampNeg)) P163 ∧ ∀ μ163 : Mem, P163 none μ163 → G 54 [rf 14 v0, un, rf 12 v2, un, vi v4, vi (v5 + mI 0), un] [] μ163)))))))))) :
    G 112 [rf 14 v0, un, rf 12 v2, un, vi v4, vi v5, vi v6] [vi s0, vi s1, rf 14 s2] μ := seg hC [(3, [5, 6]), (54, [1, 3, 6]), (112, [1, 3]), (172, [1, 2, 3, 5, 6])] 34 rfl h
theorem g_We_weigh_172 {lay : List Nat} {d : Nat} {P : PT} {G : KT} (hC : Clo lay (d + 1) mWe_weigh P G) {v0 : Nat} {v4 : Int32} {μ : Mem}
    (h : ((¬ v4 = 0 → (vp_in (nI 0) 15 ∧ (∃ P191 : PT, Rn lay d mWe_cheapest [rf 14 v0, vi (nI 0), vi (nI 0), vi (μ.1 (v0 + 36) (nI 0).toNatClampNeg)] μ P191 ∧ ∀ (x191 : Int32) (μ191 : Mem), P191 (some (vi x191)) μ191 → ((¬ v4 = 0 → (vp_in (nI 0) 15 ∧ (∃ P220 : PT, Rn lay d mWe_mannersOf [rf 14 v0, vi (nI 0), vi (nI 0), vi ((upI μ191 v0 6 x191).1 (v0 + 36) (nI 0).toNatClampNeg), vi ((upI μ191 v0 6 x191).1 v0 6)] (upI μ191 v0 6 x191) P220 ∧ ∀ (x220 : Int32) (μ220 : Mem), P220 (some (vi x220)) μ220 → P none (upI μ220 v0 7 x220)))) ∧ (v4 = 0 → P none (upI (upI μ191 v0 6 x191) v0 7 (nI 1))))))) ∧ (v4 = 0 → ((¬ v4 = 0 → (vp_in (nI 0) 15 ∧ (∃ P220 : PT, Rn lay d mWe_mannersOf [rf 14 v0, vi (nI 0), vi (nI 0), vi ((upI μ v0 6 (nI 0)).1 (v0 + 36) (nI 0).toNatClampNeg), vi ((upI μ v0 6 (nI 0)).1 v0 6)] (upI μ v0 6 (nI 0)) P220 ∧ ∀ (x220 : Int32) (μ220 : Mem), P220 (some (vi x220)) μ220 → P none (upI μ220 v0 7 x220)))) ∧ (v4 = 0 → P none (upI (upI μ v0 6 (nI 0)) v0 7 (nI 1))))))) :
    G 172 [rf 14 v0, un, un, un, vi v4, un, un] [] μ := seg hC [(3, [5, 6]), (54, [1, 3, 6]), (112, [1, 3]), (172, [1, 2, 3, 5, 6])] 30 rfl h
theorem ok_We_addStacks : okB mWe_addStacks = true := by decide +kernel
theorem g_We_addStacks_0 {lay : List Nat} {d : Nat} {P : PT} {G : KT} (hC : Clo lay (d + 1) mWe_addStacks P G) {v0 : Nat} {v1 : Int32} {v2 : Int32} {v3 : Int32} {v4 : Int32} {μ : Mem}
    (h : ((¬ v2 = 0 → ((v3 < (nI 5) → (∃ P20 : PT, Rn lay d mWe_outermostRank [rf 14 v0, vi v2] μ P20 ∧ ∀ (x20 : Int32) (μ20 : Mem), P20 (some (vi x20)) μ20 → G 28 [rf 14 v0, vi v1, vi v2, vi v3, vi v4, vi x20, vi (nI 0), un] [] μ20)) ∧ (¬ v3 < (nI 5) → P none μ))) ∧ (v2 = 0 → (∃ P8 : PT, Rn lay d mWe_addStack [rf 14 v0, vi v1, vi v4] μ P8 ∧ ∀ μ8 : Mem, P8 none μ8 → P none μ8)))) :
    G 0 [rf 14 v0, vi v1, vi v2, vi v3, vi v4, un, un, un] [] μ := seg hC [(28, [7])] 14 rfl h
theorem g_We_addStacks_28 {lay : List Nat} {d : Nat} {P : PT} {G : KT} (hC : Clo lay (d + 1) mWe_addStacks P G) {v0 : Nat} {v1 : Int32} {v2 : Int32} {v3 : Int32} {v4 : Int32} {v5 : Int32} {v6 : Int32} {μ : Mem}
    (h : (((nI 8) ≤ v6 → P none μ) ∧ (¬ (nI 8) ≤ v6 → (((v2 &&& ((nI 1) <<< (v6 &&& 31))) = 0 → G 28 [rf 14 v0, vi v1, vi v2, vi v3, vi v4, vi v5, vi (v6 + nI 1), un] [] μ) ∧ (¬ (v2 &&& ((nI 1) <<< (v6 &&& 31))) = 0 → (vp_in v6 8 ∧ ((¬ (μ.1 (v0 + 37) v6.toNatClampNeg) = v5 → G 28 [rf 14 v0, vi v1, vi v2, vi v3, vi v4, vi v5, vi (v6 + nI 1), un] [] μ) ∧ ((μ.1 (v0 + 37) v6.toNatClampNeg) = v5 → (∃ P76 : PT, Rn lay d mSt_with [vi v4, vi v3, vi v6] μ P76 ∧ ∀ (x76 : Int32) (μ76 : Mem), P76 (some (vi x76)) μ76 → (∃ P79 : PT, Rn lay d mWe_addStacks [rf 14 v0, vi v1, vi (v2 &&& (((nI 1) <<< (v6 &&& 31)) ^^^ (mI 0))), vi (v3 + (nI 1)), vi x76] μ76 P79 ∧ ∀ μ79 : Mem, P79 none μ79 → G 28 [rf 14 v0, vi v1, vi v2, vi v3, vi v4, vi v5, vi (v6 + nI 1), un] [] μ79)))))))))) :
    G 28 [rf 14 v0, vi v1, vi v2, vi v3, vi v4, vi v5, vi v6, un] [] μ := seg hC [(28, [7])] 37 rfl h
theorem ok_We_addStack : okB mWe_addStack = true := by decide +kernel
theorem g_We_addStack_0 {lay : List Nat} {d : Nat} {P : PT} {G : KT} (hC : Clo lay d mWe_addStack P G) {v0 : Nat} {v1 : Int32} {v2 : Int32} {μ : Mem}
    (h : (vp_in v1 15 ∧ (((μ.1 (v0 + 36) v1.toNatClampNeg) < 0 → P none μ) ∧ (¬ (μ.1 (v0 + 36) v1.toNatClampNeg) < 0 → (((μ.1 (v0 + 36) v1.toNatClampNeg) < (nI 120) → (vp_in v1 15 ∧ (vp_in (μ.1 (v0 + 36) v1.toNatClampNeg) 120 ∧ (vp_in v1 15 ∧ P none (upI (upI μ (v0 + 1 + 1 + 1 * v1.toNatClampNeg) (μ.1 (v0 + 36) v1.toNatClampNeg).toNatClampNeg v2) (v0 + 36) v1.toNatClampNeg ((μ.1 (v0 + 36) v1.toNatClampNeg) + (nI 1))))))) ∧ (¬ (μ.1 (v0 + 36) v1.toNatClampNeg) < (nI 120) → P none μ)))))) :
    G 0 [rf 14 v0, vi v1, vi v2, un] [] μ := seg hC [] 28 rfl h
theorem ok_We_outermostRank : okB mWe_outermostRank = true := by decide +kernel
theorem g_We_outermostRank_0 {lay : List Nat} {d : Nat} {P : PT} {G : KT} (hC : Clo lay d mWe_outermostRank P G) {v0 : Nat} {v1 : Int32} {μ : Mem}
    (h : G 4 [rf 14 v0, vi v1, vi (nI 4), vi (nI 0)] [] μ) :
    G 0 [rf 14 v0, vi v1, un, un] [] μ := seg hC [(4, [])] 7 rfl h
theorem g_We_outermostRank_4 {lay : List Nat} {d : Nat} {P : PT} {G : KT} (hC : Clo lay d mWe_outermostRank P G) {v0 : Nat} {v1 : Int32} {v2 : Int32} {v3 : Int32} {μ : Mem}
    (h : (((nI 8) ≤ v3 → P (some (vi v2)) μ) ∧ (¬ (nI 8) ≤ v3 → (((v1 &&& ((nI 1) <<< (v3 &&& 31))) = 0 → G 4 [rf 14 v0, vi v1, vi v2, vi (v3 + nI 1)] [] μ) ∧ (¬ (v1 &&& ((nI 1) <<< (v3 &&& 31))) = 0 → (vp_in v3 8 ∧ G 4 [rf 14 v0, vi v1, vi (if μ.1 (v0 + 37) v3.toNatClampNeg < v2 then μ.1 (v0 + 37) v3.toNatClampNeg else v2), vi (v3 + nI 1)] [] μ)))))) :
    G 4 [rf 14 v0, vi v1, vi v2, vi v3] [] μ := seg hC [(4, [])] 21 rfl h
theorem ok_We_setAll : okB mWe_setAll = true := by decide +kernel
theorem g_We_setAll_0 {lay : List Nat} {d : Nat} {P : PT} {G : KT} (hC : Clo lay d mWe_setAll P G) {v0 : Nat} {v1 : Int32} {v2 : Int32} {v3 : Int32} {μ : Mem}
    (h : G 3 [rf 14 v0, vi v1, vi v2, vi v3, vi (nI 0)] [] μ) :
    G 0 [rf 14 v0, vi v1, vi v2, vi v3, un] [] μ := seg hC [(3, [])] 5 rfl h
theorem g_We_setAll_3 {lay : List Nat} {d : Nat} {P : PT} {G : KT} (hC : Clo lay d mWe_setAll P G) {v0 : Nat} {v1 : Int32} {v2 : Int32} {v3 : Int32} {v4 : Int32} {μ : Mem}
    (h : (vp_in v1 15 ∧ (((μ.1 (v0 + 36) v1.toNatClampNeg) ≤ v4 → P none μ) ∧ (¬ (μ.1 (v0 + 36) v1.toNatClampNeg) ≤ v4 → (vp_in v1 15 ∧ (vp_in v4 120 ∧ (vp_in (v1 &&& (nI 1)) 2 ∧ (vp_in v4 120 ∧ G 3 [rf 14 v0, vi v1, vi v2, vi v3, vi (v4 + nI 1)] [] (upI (upI μ (v0 + 17 + 1 + 1 * v1.toNatClampNeg) v4.toNatClampNeg v2) (v0 + 33 + 1 + 1 * (v1 &&& (nI 1)).toNatClampNeg) v4.toNatClampNeg v3))))))))) :
    G 3 [rf 14 v0, vi v1, vi v2, vi v3, vi v4] [] μ := seg hC [(3, [])] 27 rfl h
theorem ok_We_offerAlike : okB mWe_offerAlike = true := by decide +kernel
theorem g_We_offerAlike_0 {lay : List Nat} {d : Nat} {P : PT} {G : KT} (hC : Clo lay (d + 1) mWe_offerAlike P G) {v0 : Nat} {v1 : Int32} {v2 : Int32} {v3 : Int32} {v4 : Int32} {v5 : Int32} {v6 : Int32} {μ : Mem}
    (h : (((nI 5) < v2 → P none μ) ∧ (¬ (nI 5) < v2 → ((v1 < 0 → P none μ) ∧ (¬ v1 < 0 → (((v1 + (nI 1)) < (nI 15) → (∃ P26 : PT, Rn lay d mWe_cheapest [rf 14 v0, vi (v1 + (nI 1)), vi v5, vi v6] μ P26 ∧ ∀ (x26 : Int32) (μ26 : Mem), P26 (some (vi x26)) μ26 → (∃ P41 : PT, Rn lay d mWe_mannersOf [rf 14 v0, vi (v1 + (nI 1)), vi v5, vi v6, vi x26] μ26 P41 ∧ ∀ (x41 : Int32) (μ41 : Mem), P41 (some (vi x41)) μ41 → G 49 [rf 14 v0, vi v1, vi v2, vi v3, vi v4, vi v5, vi v6, vi x26, vi x41, vi v3, un, un, un, un, un, un] [] μ41))) ∧ (¬ (v1 + (nI 1)) < (nI 15) → P none μ))))))) :
    G 0 [rf 14 v0, vi v1, vi v2, vi v3, vi v4, vi v5, vi v6, un, un, un, un, un, un, un, un, un] [] μ := seg hC [(49, [10, 11, 12, 13, 14, 15]), (90, [3, 5, 7, 8, 12, 13, 14, 15]), (199, [3, 5, 7, 8])] 32 rfl h
theorem g_We_offerAlike_49 {lay : List Nat} {d : Nat} {P : PT} {G : KT} (hC : Clo lay (d + 1) mWe_offerAlike P G) {v0 : Nat} {v1 : Int32} {v2 : Int32} {v3 : Int32} {v4 : Int32} {v5 : Int32} {v6 : Int32} {v7 : Int32} {v8 : Int32} {v9 : Int32} {μ : Mem}
    (h : ((v4 ≤ v9 → G 90 [rf 14 v0, vi v1, vi v2, un, vi v4, un, vi v6, un, un, vi v3, vi v5, vi (nI 0), un, un, un, un] [] μ) ∧ (¬ v4 ≤ v9 → (∃ P71 : PT, Rn lay d mWe_offer [rf 14 v0, vi v1, vi v9, vi ((v7 + (μ.1 v0 5)) - v2), vi v8] μ P71 ∧ ∀ μ71 : Mem, P71 none μ71 → G 49 [rf 14 v0, vi v1, vi v2, vi v3, vi v4, vi v5, vi v6, vi v7, vi v8, vi (v9 + nI 1), un, un, un, un, un, un] [] μ71)))) :
    G 49 [rf 14 v0, vi v1, vi v2, vi v3, vi v4, vi v5, vi v6, vi v7, vi v8, vi v9, un, un, un, un, un, un] [] μ := seg hC [(49, [10, 11, 12, 13, 14, 15]), (90, [3, 5, 7, 8, 12, 13, 14, 15]), (199, [3, 5, 7, 8])] 19 rfl h
theorem g_We_offerAlike_90 {lay : List Nat} {d : Nat} {P : PT} {G : KT} (hC : Clo lay (d + 1) mWe_offerAlike P G) {v0 : Nat} {v1 : Int32} {v2 : Int32} {v4 : Int32} {v6 : Int32} {v9 : Int32} {v10 : Int32} {v11 : Int32} {μ : Mem}
    (h : (((nI 240) ≤ v11 → P none μ) ∧ (¬ (nI 240) ≤ v11 → ((v4 ≤ v9 → P none μ) ∧ (¬ v4 ≤ v9 → ((v6 ≤ v10 → P none μ) ∧ (¬ v6 ≤ v10 → (vp_in v1 15 ∧ (vp_in v9 120 ∧ (∃ P122 : PT, Rn lay d mSt_at [vi (μ.1 (v0 + 1 + 1 + 1 * v1.toNatClampNeg) v9.toNatClampNeg), vi v2] μ P122 ∧ ∀ (x122 : Int32) (μ122 : Mem), P122 (some (vi x122)) μ122 → (vp_in (v1 + (nI 1)) 15 ∧ (vp_in v10 120 ∧ (∃ P139 : PT, Rn lay d mSt_at [vi (μ122.1 (v0 + 1 + 1 + 1 * (v1 + (nI 1)).toNatClampNeg) v10.toNatClampNeg), vi v2] μ122 P139 ∧ ∀ (x139 : Int32) (μ139 : Mem), P139 (some (vi x139)) μ139 → (∃ P151 : PT, Rn lay d mWe_endOfLike [rf 14 v0, vi v1, vi v9, vi v4, vi v2] μ139 P151 ∧ ∀ (x151 : Int32) (μ151 : Mem), P151 (some (vi x151)) μ151 → (∃ P165 : PT, Rn lay d mWe_endOfLike [rf 14 v0, vi (v1 + (nI 1)), vi v10, vi v6, vi v2] μ151 P165 ∧ ∀ (x165 : Int32) (μ165 : Mem), P165 (some (vi x165)) μ165 → ((¬ x122 = x139 → G 199 [rf 14 v0, vi v1, vi v2, un, vi v4, un, vi v6, un, un, vi v9, vi v10, vi v11, vi x122, vi x139, vi x151, vi x165] [] μ165) ∧ (x122 = x139 → ((x122 = (mI 0) → G 199 [rf 14 v0, vi v1, vi v2, un, vi v4, un, vi v6, un, un, vi v9, vi v10, vi v11, vi x122, vi x139, vi x151, vi x165] [] μ165) ∧ (¬ x122 = (mI 0) → (∃ P196 : PT, Rn lay d mWe_offerAlike [rf 14 v0, vi v1, vi (v2 + (nI 1)), vi v9, vi x151, vi v10, vi x165] μ165 P196 ∧ ∀ μ196 : Mem, P196 none μ196 → G 199 [rf 14 v0, vi v1, vi v2, un, vi v4, un, vi v6, un, un, vi v9, vi v10, vi v11, vi x122, vi x139, vi x151, vi x165] [] μ196)))))))))))))))))))) :
    G 90 [rf 14 v0, vi v1, vi v2, un, vi v4, un, vi v6, un, un, vi v9, vi v10, vi v11, un, un, un, un] [] μ := seg hC [(49, [10, 11, 12, 13, 14, 15]), (90, [3, 5, 7, 8, 12, 13, 14, 15]), (199, [3, 5, 7, 8])] 64 rfl h
theorem g_We_offerAlike_199 {lay : List Nat} {d : Nat} {P : PT} {G : KT} (hC : Clo lay (d + 1) mWe_offerAlike P G) {v0 : Nat} {v1 : Int32} {v2 : Int32} {v4 : Int32} {v6 : Int32} {v9 : Int32} {v10 : Int32} {v11 : Int32} {v12 : Int32} {v13 : Int32} {v14 : Int32} {v15 : Int32} {μ : Mem}
    (h : ((v13 < v12 → ((v12 < v13 → G 90 [rf 14 v0, vi v1, vi v2, un, vi v4, un, vi v6, un, un, vi v9, vi v10, vi (v11 + nI 1), un, un, un, un] [] μ) ∧ (¬ v12 < v13 → G 90 [rf 14 v0, vi v1, vi v2, un, vi v4, un, vi v6, un, un, vi v9, vi v15, vi (v11 + nI 1), un, un, un, un] [] μ))) ∧ (¬ v13 < v12 → ((v12 < v13 → G 90 [rf 14 v0, vi v1, vi v2, un, vi v4, un, vi v6, un, un, vi v14, vi v10, vi (v11 + nI 1), un, un, un, un] [] μ) ∧ (¬ v12 < v13 → G 90 [rf 14 v0, vi v1, vi v2, un, vi v4, un, vi v6, un, un, vi v14, vi v15, vi (v11 + nI 1), un, un, un, un] [] μ))))) :
    G 199 [rf 14 v0, vi v1, vi v2, un, vi v4, un, vi v6, un, un, vi v9, vi v10, vi v11, vi v12, vi v13, vi v14, vi v15] [] μ := seg hC [(49, [10, 11, 12, 13, 14, 15]), (90, [3, 5, 7, 8, 12, 13, 14, 15]), (199, [3, 5, 7, 8])] 15 rfl h
theorem ok_We_offer : okB mWe_offer = true := by decide +kernel
theorem g_We_offer_0 {lay : List Nat} {d : Nat} {P : PT} {G : KT} (hC : Clo lay d mWe_offer P G) {v0 : Nat} {v1 : Int32} {v2 : Int32} {v3 : Int32} {v4 : Int32} {μ : Mem}
    (h : (vp_in (v1 &&& (nI 1)) 2 ∧ (vp_in v1 15 ∧ (vp_in v2 120 ∧ (((μ.1 (v0 + 17 + 1 + 1 * v1.toNatClampNeg) v2.toNatClampNeg) ≤ v3 → (vp_in v1 15 ∧ (vp_in v2 120 ∧ ((¬ v3 = (μ.1 (v0 + 17 + 1 + 1 * v1.toNatClampNeg) v2.toNatClampNeg) → P none μ) ∧ (v3 = (μ.1 (v0 + 17 + 1 + 1 * v1.toNatClampNeg) v2.toNatClampNeg) → (vp_in v2 120 ∧ (vp_in v2 120 ∧ P none (upI μ (v0 + 33 + 1 + 1 * (v1 &&& (nI 1)).toNatClampNeg) v2.toNatClampNeg (if (μ.1 (v0 + 33 + 1 + 1 * (v1 &&& (nI 1)).toNatClampNeg) v2.toNatClampNeg) + v4 < nI 1000000000 then (μ.1 (v0 + 33 + 1 + 1 * (v1 &&& (nI 1)).toNatClampNeg) v2.toNatClampNeg) + v4 else nI 1000000000))))))))) ∧ (¬ (μ.1 (v0 + 17 + 1 + 1 * v1.toNatClampNeg) v2.toNatClampNeg) ≤ v3 → (vp_in v1 15 ∧ (vp_in v2 120 ∧ (vp_in v2 120 ∧ P none (upI (upI μ (v0 + 17 + 1 + 1 * v1.toNatClampNeg) v2.toNatClampNeg v3) (v0 + 33 + 1 + 1 * (v1 &&& (nI 1)).toNatClampNeg) v2.toNatClampNeg v4)))))))))) :
    G 0 [rf 14 v0, vi v1, vi v2, vi v3, vi v4, un] [] μ := seg hC [] 37 rfl h
theorem ok_We_endOfLike : okB mWe_endOfLike = true := by decide +kernel
theorem g_We_endOfLike_0 {lay : List Nat} {d : Nat} {P : PT} {G : KT} (hC : Clo lay (d + 1) mWe_endOfLike P G) {v0 : Nat} {v1 : Int32} {v2 : Int32} {v3 : Int32} {v4 : Int32} {μ : Mem}
    (h : (vp_in v1 15 ∧ (vp_in v2 120 ∧ (∃ P10 : PT, Rn lay d mSt_at [vi (μ.1 (v0 + 1 + 1 + 1 * v1.toNatClampNeg) v2.toNatClampNeg), vi v4] μ P10 ∧ ∀ (x10 : Int32) (μ10 : Mem), P10 (some (vi x10)) μ10 → G 20 [rf 14 v0, vi v1, un, vi v3, vi v4, vi x10, vi (v2 + (nI 1))] [] μ10)))) :
    G 0 [rf 14 v0, vi v1, vi v2, vi v3, vi v4, un, un] [] μ := seg hC [(20, [2])] 16 rfl h
theorem g_We_endOfLike_20 {lay : List Nat} {d : Nat} {P : PT} {G : KT} (hC : Clo lay (d + 1) mWe_endOfLike P G) {v0 : Nat} {v1 : Int32} {v3 : Int32} {v4 : Int32} {v5 : Int32} {v6 : Int32} {μ : Mem}
    (h : ((v3 ≤ v6 → P (some (vi v6)) μ) ∧ (¬ v3 ≤ v6 → (vp_in v1 15 ∧ (vp_in v6 120 ∧ (∃ P37 : PT, Rn lay d mSt_at [vi (μ.1 (v0 + 1 + 1 + 1 * v1.toNatClampNeg) v6.toNatClampNeg), vi v4] μ P37 ∧ ∀ (x37 : Int32) (μ37 : Mem), P37 (some (vi x37)) μ37 → ((¬ x37 = v5 → P (some (vi v6)) μ37) ∧ (x37 = v5 → G 20 [rf 14 v0, vi v1, un, vi v3, vi v4, vi v5, vi (v6 + nI 1)] [] μ37)))))))) :
    G 20 [rf 14 v0, vi v1, un, vi v3, vi v4, vi v5, vi v6] [] μ := seg hC [(20, [2])] 18 rfl h
theorem ok_We_cheapest : okB mWe_cheapest = true := by decide +kernel
theorem g_We_cheapest_0 {lay : List Nat} {d : Nat} {P : PT} {G : KT} (hC : Clo lay d mWe_cheapest P G) {v0 : Nat} {v1 : Int32} {v2 : Int32} {v3 : Int32} {μ : Mem}
    (h : G 7 [rf 14 v0, vi v1, un, vi v3, vi (nI 1000000), vi v2] [] μ) :
    G 0 [rf 14 v0, vi v1, vi v2, vi v3, un, un] [] μ := seg hC [(7, [2])] 7 rfl h
theorem g_We_cheapest_7 {lay : List Nat} {d : Nat} {P : PT} {G : KT} (hC : Clo lay d mWe_cheapest P G) {v0 : Nat} {v1 : Int32} {v3 : Int32} {v4 : Int32} {v5 : Int32} {μ : Mem}
    (h : ((v3 ≤ v5 → P (some (vi v4)) μ) ∧ (¬ v3 ≤ v5 → (vp_in v1 15 ∧ (vp_in v5 120 ∧ G 7 [rf 14 v0, vi v1, un, vi v3, vi (if μ.1 (v0 + 17 + 1 + 1 * v1.toNatClampNeg) v5.toNatClampNeg < v4 then μ.1 (v0 + 17 + 1 + 1 * v1.toNatClampNeg) v5.toNatClampNeg else v4), vi (v5 + nI 1)] [] μ))))) :
    G 7 [rf 14 v0, vi v1, un, vi v3, vi v4, vi v5] [] μ := seg hC [(7, [2])] 17 rfl h
theorem ok_We_mannersOf : okB mWe_mannersOf = true := by decide +kernel
theorem g_We_mannersOf_0 {lay : List Nat} {d : Nat} {P : PT} {G : KT} (hC : Clo lay d mWe_mannersOf P G) {v0 : Nat} {v1 : Int32} {v2 : Int32} {v3 : Int32} {v4 : Int32} {μ : Mem}
    (h : (vp_in (v1 &&& (nI 1)) 2 ∧ G 16 [rf 14 v0, vi v1, un, vi v3, vi v4, rf 10120 (v0 + 33 + 1 + 1 * (v1 &&& (nI 1)).toNatClampNeg), vi (nI 0), vi v2] [] μ)) :
    G 0 [rf 14 v0, vi v1, vi v2, vi v3, vi v4, un, un, un] [] μ := seg hC [(16, [2])] 14 rfl h
theorem g_We_mannersOf_16 {lay : List Nat} {d : Nat} {P : PT} {G : KT} (hC : Clo lay d mWe_mannersOf P G) {v0 : Nat} {v1 : Int32} {v3 : Int32} {v4 : Int32} {v5 : Nat} {v6 : Int32} {v7 : Int32} {μ : Mem}
    (h : ((v3 ≤ v7 → P (some (vi v6)) μ) ∧ (¬ v3 ≤ v7 → (vp_in v1 15 ∧ (vp_in v7 120 ∧ ((¬ (μ.1 (v0 + 17 + 1 + 1 * v1.toNatClampNeg) v7.toNatClampNeg) = v4 → G 16 [rf 14 v0, vi v1, un, vi v3, vi v4, rf 10120 v5, vi v6, vi (v7 + nI 1)] [] μ) ∧ ((μ.1 (v0 + 17 + 1 + 1 * v1.toNatClampNeg) v7.toNatClampNeg) = v4 → (vp_in v7 120 ∧ G 16 [rf 14 v0, vi v1, un, vi v3, vi v4, rf 10120 v5, vi (if v6 + (μ.1 v5 v7.toNatClampNeg) < nI 1000000000 then v6 + (μ.1 v5 v7.toNatClampNeg) else nI 1000000000), vi (v7 + nI 1)] [] μ)))))))) :
    G 16 [rf 14 v0, vi v1, un, vi v3, vi v4, rf 10120 v5, vi v6, vi v7] [] μ := seg hC [(16, [2])] 24 rfl h
theorem ok_We_choose : okB mWe_choose = true := by decide +kernel
theorem g_We_choose_0 {lay : List Nat} {d : Nat} {P : PT} {G : KT} (hC : Clo lay (d + 1) mWe_choose P G) {v0 : Nat} {v1 : Nat} {v2 : Nat} {μ : Mem}
    (h : G 19 [rf 14 v0, rf 12 v1, rf 10015 v2, vi (μ.1 v0 6), vi (if nI 15 < μ.1 v1 4 then nI 15 else μ.1 v1 4), vi (nI 0), un, un] [] μ) :
    G 0 [rf 14 v0, rf 12 v1, rf 10015 v2, un, un, un, un, un] [] μ := seg hC [(19, [6, 7]), (29, [7]), (79, [7])] 14 rfl h
theorem g_We_choose_19 {lay : List Nat} {d : Nat} {P : PT} {G : KT} (hC : Clo lay (d + 1) mWe_choose P G) {v0 : Nat} {v1 : Nat} {v2 : Nat} {v3 : Int32} {v4 : Int32} {v5 : Int32} {μ : Mem}
    (h : ((v4 ≤ v5 → P none μ) ∧ (¬ v4 ≤ v5 → G 29 [rf 14 v0, rf 12 v1, rf 10015 v2, vi v3, vi v4, vi v5, vi (nI 0), un] [] μ))) :
    G 19 [rf 14 v0, rf 12 v1, rf 10015 v2, vi v3, vi v4, vi v5, un, un] [] μ := seg hC [(19, [6, 7]), (29, [7]), (79, [7])] 8 rfl h
theorem g_We_choose_29 {lay : List Nat} {d : Nat} {P : PT} {G : KT} (hC : Clo lay (d + 1) mWe_choose P G) {v0 : Nat} {v1 : Nat} {v2 : Nat} {v3 : Int32} {v4 : Int32} {v5 : Int32} {v6 : Int32} {μ : Mem}
    (h : (vp_in v5 15 ∧ (((μ.1 (v0 + 36) v5.toNatClampNeg) ≤ v6 → G 19 [rf 14 v0, rf 12 v1, rf 10015 v2, vi v3, vi v4, vi (v5 + nI 1), un, un] [] μ) ∧ (¬ (μ.1 (v0 + 36) v5.toNatClampNeg) ≤ v6 → ((¬ v5 = 0 → (vp_in (v5 - (nI 1)) 15 ∧ (vp_in (v5 - (nI 1)) 15 ∧ (vp_in v5 15 ∧ (vp_in v6 120 ∧ (∃ P75 : PT, Rn lay d mSt_alike [vi (μ.1 v2 (v5 - (nI 1)).toNatClampNeg), vi (μ.1 (v0 + 1 + 1 + 1 * v5.toNatClampNeg) v6.toNatClampNeg)] μ P75 ∧ ∀ (x75 : Int32) (μ75 : Mem), P75 (some (vi x75)) μ75 → G 79 [rf 14 v0, rf 12 v1, rf 10015 v2, vi v3, vi v4, vi v5, vi v6, un] [vi ((μ.1 (v1 + 3) (v5 - (nI 1)).toNatClampNeg) - x75)] μ75)))))) ∧ (v5 = 0 → G 79 [rf 14 v0, rf 12 v1, rf 10015 v2, vi v3, vi v4, vi v5, vi v6, un] [vi (nI 0)] μ)))))) :
    G 29 [rf 14 v0, rf 12 v1, rf 10015 v2, vi v3, vi v4, vi v5, vi v6, un] [] μ := seg hC [(19, [6, 7]), (29, [7]), (79, [7])] 30 rfl h
theorem g_We_choose_79 {lay : List Nat} {d : Nat} {P : PT} {G : KT} (hC : Clo lay (d + 1) mWe_choose P G) {v0 : Nat} {v1 : Nat} {v2 : Nat} {v3 : Int32} {v4 : Int32} {v5 : Int32} {v6 : Int32} {s0 : Int32} {μ : Mem}
    (h : (vp_in v5 15 ∧ (vp_in v6 120 ∧ ((¬ (s0 + (μ.1 (v0 + 17 + 1 + 1 * v5.toNatClampNeg) v6.toNatClampNeg)) = v3 → G 29 [rf 14 v0, rf 12 v1, rf 10015 v2, vi v3, vi v4, vi v5, vi (v6 + nI 1), un] [] μ) ∧ ((s0 + (μ.1 (v0 + 17 + 1 + 1 * v5.toNatClampNeg) v6.toNatClampNeg)) = v3 → (vp_in v5 15 ∧ (vp_in v6 120 ∧ (vp_in v5 15 ∧ (vp_in v5 15 ∧ (vp_in v6 120 ∧ G 19 [rf 14 v0, rf 12 v1, rf 10015 v2, vi ((upI μ v2 v5.toNatClampNeg (μ.1 (v0 + 1 + 1 + 1 * v5.toNatClampNeg) v6.toNatClampNeg)).1 (v0 + 17 + 1 + 1 * v5.toNatClampNeg) v6.toNatClampNeg), vi v4, vi (v5 + nI 1), un, un] [] (upI μ v2 v5.toNatClampNeg (μ.1 (v0 + 1 + 1 + 1 * v5.toNatClampNeg) v6.toNatClampNeg)))))))))))) :
    G 79 [rf 14 v0, rf 12 v1, rf 10015 v2, vi v3, vi v4, vi v5, vi v6, un] [vi s0] μ := seg hC [(19, [6, 7]), (29, [7]), (79, [7])] 33 rfl h
theorem ok_We_splitsOfFirst : okB mWe_splitsOfFirst = true := by decide +kernel
theorem g_We_splitsOfFirst_0 {lay : List Nat} {d : Nat} {P : PT} {G : KT} (hC : Clo lay (d + 1) mWe_splitsOfFirst P G) {v0 : Nat} {v1 : Nat} {μ : Mem}
    (h : G 4 [rf 14 v0, rf 12 v1, vi (nI 0), vi (nI 0)] [] μ) :
    G 0 [rf 14 v0, rf 12 v1, un, un] [] μ := seg hC [(4, [])] 7 rfl h
theorem g_We_splitsOfFirst_4 {lay : List Nat} {d : Nat} {P : PT} {G : KT} (hC : Clo lay (d + 1) mWe_splitsOfFirst P G) {v0 : Nat} {v1 : Nat} {v2 : Int32} {v3 : Int32} {μ : Mem}
    (h : (((μ.1 v1 4) ≤ (v3 + (nI 1)) → P (some (vi v2)) μ) ∧ (¬ (μ.1 v1 4) ≤ (v3 + (nI 1)) → (((nI 15) ≤ (v3 + (nI 1)) → P (some (vi v2)) μ) ∧ (¬ (nI 15) ≤ (v3 + (nI 1)) → (vp_in v3 15 ∧ (vp_in v3 15 ∧ (vp_in (nI 0) 120 ∧ (vp_in (v3 + (nI 1)) 15 ∧ (vp_in (nI 0) 120 ∧ (∃ P47 : PT, Rn lay d mSt_alike [vi (μ.1 (v0 + 1 + 1 + 1 * v3.toNatClampNeg) (nI 0).toNatClampNeg), vi (μ.1 (v0 + 1 + 1 + 1 * (v3 + (nI 1)).toNatClampNeg) (nI 0).toNatClampNeg)] μ P47 ∧ ∀ (x47 : Int32) (μ47 : Mem), P47 (some (vi x47)) μ47 → G 4 [rf 14 v0, rf 12 v1, vi (v2 + ((μ.1 (v1 + 3) v3.toNatClampNeg) - x47)), vi (v3 + nI 1)] [] μ47))))))))))) :
    G 4 [rf 14 v0, rf 12 v1, vi v2, vi v3] [] μ := seg hC [(4, [])] 39 rfl h
end
section
theorem ok_Ne_layNodes : okB mNe_layNodes = true := by decide +kernel
theorem g_Ne_layNodes_0 {lay : List Nat} {d : Nat} {P : PT} {G : KT} (hC : Clo lay (d + 1) mNe_layNodes P G) {v0 : Nat} {v1 : Nat} {μ : Mem}
    (h : G 12 [rf 11 v0, rf 13 v1, vi (nI 0), vi (nI 0), vi (nI 0), un] [] (upI μ v0 8 (nI 0))) :
    G 0 [rf 11 v0, rf 13 v1, un, un, un, un] [] μ := seg hC [(12, [5])] 12 rfl h
theorem g_Ne_layNodes_12 {lay : List Nat} {d : Nat} {P : PT} {G : KT} (hC : Clo lay (d + 1) mNe_layNodes P G) {v0 : Nat} {v1 : Nat} {v2 : Int32} {v3 : Int32} {v4 : Int32} {μ : Mem}
    (h : (((μ.1 v1 5) < v4 → P none μ) ∧ (¬ (μ.1 v1 5) < v4 → (∃ P28 : PT, Rn lay d mSe_isCut [rf 12 (v0 + 1), vi v3, vi v4] μ P28 ∧ ∀ (x28 : Int32) (μ28 : Mem), P28 (some (vi x28)) μ28 → ((x28 = 0 → (∃ P49 : PT, Rn lay d mNe_addEmptyOnes [rf 11 v0, rf 13 v1, vi v4, vi v2] μ28 P49 ∧ ∀ μ49 : Mem, P49 none μ49 → ((x28 = 0 → G 12 [rf 11 v0, rf 13 v1, vi v2, vi v3, vi (v4 + nI 1), un] [] μ49) ∧ (¬ x28 = 0 → (∃ P60 : PT, Rn lay d mNe_addPieces [rf 11 v0, vi v3, vi v2] μ49 P60 ∧ ∀ (x60 : Int32) (μ60 : Mem), P60 (some (vi x60)) μ60 → G 12 [rf 11 v0, rf 13 v1, vi x60, vi (v3 + nI 1), vi (v4 + nI 1), un] [] μ60))))) ∧ (¬ x28 = 0 → (∃ P40 : PT, Rn lay d mNe_goingOnAt [rf 11 v0, vi v3] μ28 P40 ∧ ∀ (x40 : Int32) (μ40 : Mem), P40 (some (vi x40)) μ40 → (∃ P49 : PT, Rn lay d mNe_addEmptyOnes [rf 11 v0, rf 13 v1, vi v4, vi x40] μ40 P49 ∧ ∀ μ49 : Mem, P49 none μ49 → ((x28 = 0 → G 12 [rf 11 v0, rf 13 v1, vi x40, vi v3, vi (v4 + nI 1), un] [] μ49) ∧ (¬ x28 = 0 → (∃ P60 : PT, Rn lay d mNe_addPieces [rf 11 v0, vi v3, vi x40] μ49 P60 ∧ ∀ (x60 : Int32) (μ60 : Mem), P60 (some (vi x60)) μ60 → G 12 [rf 11 v0, rf 13 v1, vi x60, vi (v3 + nI 1), vi (v4 + nI 1), un] [] μ60))))))))))) :
    G 12 [rf 11 v0, rf 13 v1, vi v2, vi v3, vi v4, un] [] μ := seg hC [(12, [5])] 34 rfl h
theorem ok_Ne_goingOnAt : okB mNe_goingOnAt = true := by decide +kernel
theorem g_Ne_goingOnAt_0 {lay : List Nat} {d : Nat} {P : PT} {G : KT} (hC : Clo lay (d + 1) mNe_goingOnAt P G) {v0 : Nat} {v1 : Int32} {μ : Mem}
    (h : (∃ P7 : PT, Rn lay d mSe_has [rf 12 (v0 + 1), vi (v1 - (nI 1))] μ P7 ∧ ∀ (x7 : Int32) (μ7 : Mem), P7 (some (vi x7)) μ7 → ((x7 = 0 → P (some (vi (nI 0))) μ7) ∧ (¬ x7 = 0 → (∃ P18 : PT, Rn lay d mSe_has [rf 12 (v0 + 1), vi v1] μ7 P18 ∧ ∀ (x18 : Int32) (μ18 : Mem), P18 (some (vi x18)) μ18 → ((¬ x18 = 0 → (vp_in (v1 - (nI 1)) 15 ∧ (vp_in v1 15 ∧ (∃ P40 : PT, Rn lay d mSt_alike [vi (μ18.1 (v0 + 5) (v1 - (nI 1)).toNatClampNeg), vi (μ18.1 (v0 + 5) v1.toNatClampNeg)] μ18 P40 ∧ ∀ (x40 : Int32) (μ40 : Mem), P40 (some (vi x40)) μ40 → P (some (vi x40)) μ40)))) ∧ (x18 = 0 → P (some (vi (nI 0))) μ18))))))) :
    G 0 [rf 11 v0, vi v1] [] μ := seg hC [] 27 rfl h
theorem ok_Ne_addEmptyOnes : okB mNe_addEmptyOnes = true := by decide +kernel
theorem g_Ne_addEmptyOnes_0 {lay : List Nat} {d : Nat} {P : PT} {G : KT} (hC : Clo lay (d + 1) mNe_addEmptyOnes P G) {v0 : Nat} {v1 : Nat} {v2 : Int32} {v3 : Int32} {μ : Mem}
    (h : G 3 [rf 11 v0, rf 13 v1, vi v2, vi v3, vi (nI 0)] [] μ) :
    G 0 [rf 11 v0, rf 13 v1, vi v2, vi v3, un] [] μ := seg hC [(3, [])] 5 rfl h
theorem g_Ne_addEmptyOnes_3 {lay : List Nat} {d : Nat} {P : PT} {G : KT} (hC : Clo lay (d + 1) mNe_addEmptyOnes P G) {v0 : Nat} {v1 : Nat} {v2 : Int32} {v3 : Int32} {v4 : Int32} {μ : Mem}
    (h : (((μ.1 v1 4) ≤ v4 → P none μ) ∧ (¬ (μ.1 v1 4) ≤ v4 → (((nI 8) ≤ v4 → P none μ) ∧ (¬ (nI 8) ≤ v4 → (∃ P22 : PT, Rn lay d mTe_isEmpty [rf 13 v1, vi v4] μ P22 ∧ ∀ (x22 : Int32) (μ22 : Mem), P22 (some (vi x22)) μ22 → ((x22 = 0 → G 3 [rf 11 v0, rf 13 v1, vi v2, vi v3, vi (v4 + nI 1)] [] μ22) ∧ (¬ x22 = 0 → (vp_in v4 8 ∧ ((¬ (μ22.1 (v1 + 2) v4.toNatClampNeg) = v2 → G 3 [rf 11 v0, rf 13 v1, vi v2, vi v3, vi (v4 + nI 1)] [] μ22) ∧ ((μ22.1 (v1 + 2) v4.toNatClampNeg) = v2 → (∃ P45 : PT, Rn lay d mNe_addNode [rf 11 v0, vi v4, vi v2, vi v2, vi v3] μ22 P45 ∧ ∀ (x45 : Int32) (μ45 : Mem), P45 (some (vi x45)) μ45 → G 3 [rf 11 v0, rf 13 v1, vi v2, vi v3, vi (v4 + nI 1)] [] μ45)))))))))))) :
    G 3 [rf 11 v0, rf 13 v1, vi v2, vi v3, vi v4] [] μ := seg hC [(3, [])] 29 rfl h
theorem ok_Ne_addPieces : okB mNe_addPieces = true := by decide +kernel
theorem g_Ne_addPieces_0 {lay : List Nat} {d : Nat} {P : PT} {G : KT} (hC : Clo lay (d + 1) mNe_addPieces P G) {v0 : Nat} {v1 : Int32} {v2 : Int32} {μ : Mem}
    (h : (∃ P5 : PT, Rn lay d mSe_has [rf 12 (v0 + 1), vi v1] μ P5 ∧ ∀ (x5 : Int32) (μ5 : Mem), P5 (some (vi x5)) μ5 → ((¬ x5 = 0 → (vp_in v1 16 ∧ (vp_in (v1 + (nI 1)) 16 ∧ (vp_in v1 15 ∧ (∃ P45 : PT, Rn lay d mInt_bitCount [vi (μ5.1 (v0 + 1 + 2) v1.toNatClampNeg)] μ5 P45 ∧ ∀ (x45 : Int32) (μ45 : Mem), P45 (some (vi x45)) μ45 → G 53 [rf 11 v0, vi v1, vi v2, vi (μ5.1 (v0 + 1 + 1) v1.toNatClampNeg), vi (μ5.1 (v0 + 1 + 1) (v1 + (nI 1)).toNatClampNeg), vi x45, vi (nI 0)] [] μ45))))) ∧ (x5 = 0 → P (some (vi (nI 0))) μ5)))) :
    G 0 [rf 11 v0, vi v1, vi v2, un, un, un, un] [] μ := seg hC [(53, [])] 31 rfl h
theorem g_Ne_addPieces_53 {lay : List Nat} {d : Nat} {P : PT} {G : KT} (hC : Clo lay (d + 1) mNe_addPieces P G) {v0 : Nat} {v1 : Int32} {v2 : Int32} {v3 : Int32} {v4 : Int32} {v5 : Int32} {v6 : Int32} {μ : Mem}
    (h : ((v5 ≤ v6 → P (some (vi v5)) μ) ∧ (¬ v5 ≤ v6 → (((nI 5) ≤ v6 → P (some (vi v5)) μ) ∧ (¬ (nI 5) ≤ v6 → ((v6 < v2 → (vp_in v6 5 ∧ (∃ P109 : PT, Rn lay d mNe_stretch [rf 11 v0, vi (μ.1 (v0 + 11) v6.toNatClampNeg), vi v4] μ P109 ∧ ∀ μ109 : Mem, P109 none μ109 → G 53 [rf 11 v0, vi v1, vi v2, vi v3, vi v4, vi v5, vi (v6 + nI 1)] [] μ109))) ∧ (¬ v6 < v2 → (vp_in v1 15 ∧ (∃ P87 : PT, Rn lay d mSt_at [vi (μ.1 (v0 + 5) v1.toNatClampNeg), vi v6] μ P87 ∧ ∀ (x87 : Int32) (μ87 : Mem), P87 (some (vi x87)) μ87 → (∃ P95 : PT, Rn lay d mNe_addNode [rf 11 v0, vi x87, vi v3, vi v4, vi v6] μ87 P95 ∧ ∀ (x95 : Int32) (μ95 : Mem), P95 (some (vi x95)) μ95 → (vp_in v6 5 ∧ (vp_in v6 5 ∧ (∃ P109 : PT, Rn lay d mNe_stretch [rf 11 v0, vi ((upI μ95 (v0 + 11) v6.toNatClampNeg x95).1 (v0 + 11) v6.toNatClampNeg), vi v4] (upI μ95 (v0 + 11) v6.toNatClampNeg x95) P109 ∧ ∀ μ109 : Mem, P109 none μ109 → G 53 [rf 11 v0, vi v1, vi v2, vi v3, vi v4, vi v5, vi (v6 + nI 1)] [] μ109))))))))))))) :
    G 53 [rf 11 v0, vi v1, vi v2, vi v3, vi v4, vi v5, vi v6] [] μ := seg hC [(53, [])] 36 rfl h
theorem ok_Ne_stretch : okB mNe_stretch = true := by decide +kernel
theorem g_Ne_stretch_0 {lay : List Nat} {d : Nat} {P : PT} {G : KT} (hC : Clo lay d mNe_stretch P G) {v0 : Nat} {v1 : Int32} {v2 : Int32} {μ : Mem}
    (h : ((v1 < 0 → P none μ) ∧ (¬ v1 < 0 → (((μ.1 v0 8) ≤ v1 → P none μ) ∧ (¬ (μ.1 v0 8) ≤ v1 → (vp_in v1 83 ∧ P none (upI μ (v0 + 8) v1.toNatClampNeg v2))))))) :
    G 0 [rf 11 v0, vi v1, vi v2] [] μ := seg hC [] 15 rfl h
theorem ok_Ne_addNode : okB mNe_addNode = true := by decide +kernel
theorem g_Ne_addNode_0 {lay : List Nat} {d : Nat} {P : PT} {G : KT} (hC : Clo lay d mNe_addNode P G) {v0 : Nat} {v1 : Int32} {v2 : Int32} {v3 : Int32} {v4 : Int32} {μ : Mem}
    (h : (((μ.1 v0 8) < 0 → P (some (vi (mI 0))) μ) ∧ (¬ (μ.1 v0 8) < 0 → (((μ.1 v0 8) < (nI 83) → (vp_in (μ.1 v0 8) 83 ∧ G 28 [rf 11 v0, un, vi v2, vi v3, vi v4] [] (upI μ (v0 + 6) (μ.1 v0 8).toNatClampNeg v1))) ∧ (¬ (μ.1 v0 8) < (nI 83) → P (some (vi (mI 0))) μ))))) :
    G 0 [rf 11 v0, vi v1, vi v2, vi v3, vi v4] [] μ := seg hC [(28, [1]), (38, [1, 2]), (48, [1, 2, 3]), (59, [1, 2, 3]), (92, [1, 2, 3, 4])] 16 rfl h
theorem g_Ne_addNode_28 {lay : List Nat} {d : Nat} {P : PT} {G : KT} (hC : Clo lay d mNe_addNode P G) {v0 : Nat} {v2 : Int32} {v3 : Int32} {v4 : Int32} {μ : Mem}
    (h : (vp_in (μ.1 v0 8) 83 ∧ G 38 [rf 11 v0, un, un, vi v3, vi v4] [] (upI μ (v0 + 7) (μ.1 v0 8).toNatClampNeg v2))) :
    G 28 [rf 11 v0, un, vi v2, vi v3, vi v4] [] μ := seg hC [(28, [1]), (38, [1, 2]), (48, [1, 2, 3]), (59, [1, 2, 3]), (92, [1, 2, 3, 4])] 9 rfl h
theorem g_Ne_addNode_38 {lay : List Nat} {d : Nat} {P : PT} {G : KT} (hC : Clo lay d mNe_addNode P G) {v0 : Nat} {v3 : Int32} {v4 : Int32} {μ : Mem}
    (h : (vp_in (μ.1 v0 8) 83 ∧ G 48 [rf 11 v0, un, un, un, vi v4] [] (upI μ (v0 + 8) (μ.1 v0 8).toNatClampNeg v3))) :
    G 38 [rf 11 v0, un, un, vi v3, vi v4] [] μ := seg hC [(28, [1]), (38, [1, 2]), (48, [1, 2, 3]), (59, [1, 2, 3]), (92, [1, 2, 3, 4])] 9 rfl h
theorem g_Ne_addNode_48 {lay : List Nat} {d : Nat} {P : PT} {G : KT} (hC : Clo lay d mNe_addNode P G) {v0 : Nat} {v4 : Int32} {μ : Mem}
    (h : (vp_in (μ.1 v0 8) 83 ∧ G 59 [rf 11 v0, un, un, un, vi v4] [] (upI μ (v0 + 9) (μ.1 v0 8).toNatClampNeg v4))) :
    G 48 [rf 11 v0, un, un, un, vi v4] [] μ := seg hC [(28, [1]), (38, [1, 2]), (48, [1, 2, 3]), (59, [1, 2, 3]), (92, [1, 2, 3, 4])] 9 rfl h
theorem g_Ne_addNode_59 {lay : List Nat} {d : Nat} {P : PT} {G : KT} (hC : Clo lay d mNe_addNode P G) {v0 : Nat} {v4 : Int32} {μ : Mem}
    (h : ((v4 ≤ 0 → (vp_in (μ.1 v0 8) 83 ∧ G 92 [rf 11 v0, un, un, un, un] [] (upI μ (v0 + 10) (μ.1 v0 8).toNatClampNeg (mI 0)))) ∧ (¬ v4 ≤ 0 → (((nI 5) < v4 → (vp_in (μ.1 v0 8) 83 ∧ G 92 [rf 11 v0, un, un, un, un] [] (upI μ (v0 + 10) (μ.1 v0 8).toNatClampNeg (mI 0)))) ∧ (¬ (nI 5) < v4 → (vp_in (v4 - (nI 1)) 5 ∧ (vp_in (μ.1 v0 8) 83 ∧ G 92 [rf 11 v0, un, un, un, un] [] (upI μ (v0 + 10) (μ.1 v0 8).toNatClampNeg (μ.1 (v0 + 11) (v4 - (nI 1)).toNatClampNeg))))))))) :
    G 59 [rf 11 v0, un, un, un, vi v4] [] μ := seg hC [(28, [1]), (38, [1, 2]), (48, [1, 2, 3]), (59, [1, 2, 3]), (92, [1, 2, 3, 4])] 20 rfl h
theorem g_Ne_addNode_92 {lay : List Nat} {d : Nat} {P : PT} {G : KT} (hC : Clo lay d mNe_addNode P G) {v0 : Nat} {μ : Mem}
    (h : P (some (vi (((upI μ v0 8 ((μ.1 v0 8) + (nI 1))).1 v0 8) - (nI 1)))) (upI μ v0 8 ((μ.1 v0 8) + (nI 1)))) :
    G 92 [rf 11 v0, un, un, un, un] [] μ := seg hC [(28, [1]), (38, [1, 2]), (48, [1, 2, 3]), (59, [1, 2, 3]), (92, [1, 2, 3, 4])] 14 rfl h
theorem ok_Ne_isPiece : okB mNe_isPiece = true := by decide +kernel
theorem g_Ne_isPiece_0 {lay : List Nat} {d : Nat} {P : PT} {G : KT} (hC : Clo lay d mNe_isPiece P G) {v0 : Nat} {v1 : Int32} {μ : Mem}
    (h : (vp_in v1 83 ∧ (vp_in v1 83 ∧ (((μ.1 (v0 + 8) v1.toNatClampNeg) ≤ (μ.1 (v0 + 7) v1.toNatClampNeg) → P (some (vi (nI 0))) μ) ∧ (¬ (μ.1 (v0 + 8) v1.toNatClampNeg) ≤ (μ.1 (v0 + 7) v1.toNatClampNeg) → P (some (vi (nI 1))) μ))))) :
    G 0 [rf 11 v0, vi v1] [] μ := seg hC [] 15 rfl (⟨h.1, ⟨h.2.1, ⟨fun q1 => ⟨Or.inl (by decide), (h.2.2.1 q1)⟩, fun q1 => ⟨Or.inr (by decide), (h.2.2.2 q1)⟩⟩⟩⟩)
theorem ok_Ne_piecesOf : okB mNe_piecesOf = true := by decide +kernel
theorem g_Ne_piecesOf_0 {lay : List Nat} {d : Nat} {P : PT} {G : KT} (hC : Clo lay (d + 1) mNe_piecesOf P G) {v0 : Nat} {v1 : Int32} {μ : Mem}
    (h : G 4 [rf 11 v0, vi v1, vi (nI 0), vi (nI 0)] [] μ) :
    G 0 [rf 11 v0, vi v1, un, un] [] μ := seg hC [(4, [])] 7 rfl h
theorem g_Ne_piecesOf_4 {lay : List Nat} {d : Nat} {P : PT} {G : KT} (hC : Clo lay (d + 1) mNe_piecesOf P G) {v0 : Nat} {v1 : Int32} {v2 : Int32} {v3 : Int32} {μ : Mem}
    (h : (((μ.1 v0 8) ≤ v3 → P (some (vi v2)) μ) ∧ (¬ (μ.1 v0 8) ≤ v3 → (vp_in v3 83 ∧ ((¬ (μ.1 (v0 + 6) v3.toNatClampNeg) = v1 → G 4 [rf 11 v0, vi v1, vi v2, vi (v3 + nI 1)] [] μ) ∧ ((μ.1 (v0 + 6) v3.toNatClampNeg) = v1 → (∃ P24 : PT, Rn lay d mNe_isPiece [rf 11 v0, vi v3] μ P24 ∧ ∀ (x24 : Int32) (μ24 : Mem), P24 (some (vi x24)) μ24 → ((x24 = 0 → G 4 [rf 11 v0, vi v1, vi v2, vi (v3 + nI 1)] [] μ24) ∧ (¬ x24 = 0 → G 4 [rf 11 v0, vi v1, vi (v2 + nI 1), vi (v3 + nI 1)] [] μ24))))))))) :
    G 4 [rf 11 v0, vi v1, vi v2, vi v3] [] μ := seg hC [(4, [])] 20 rfl h
theorem ok_Ne_breakUp : okB mNe_breakUp = true := by decide +kernel
theorem g_Ne_breakUp_0 {lay : List Nat} {d : Nat} {P : PT} {G : KT} (hC : Clo lay (d + 1) mNe_breakUp P G) {v0 : Nat} {v1 : Int32} {v2 : Nat} {μ : Mem}
    (h : (∃ P2 : PT, Rn lay d mTe_has [rf 13 v2, vi v1] μ P2 ∧ ∀ (x2 : Int32) (μ2 : Mem), P2 (some (vi x2)) μ2 → ((¬ x2 = 0 → G 14 [rf 11 v0, vi v1, rf 13 v2, vi (nI 1), vi (nI 0)] [] μ2) ∧ (x2 = 0 → P none μ2)))) :
    G 0 [rf 11 v0, vi v1, rf 13 v2, un, un] [] μ := seg hC [(14, [])] 11 rfl h
theorem g_Ne_breakUp_14 {lay : List Nat} {d : Nat} {P : PT} {G : KT} (hC : Clo lay (d + 1) mNe_breakUp P G) {v0 : Nat} {v1 : Int32} {v2 : Nat} {v3 : Int32} {v4 : Int32} {μ : Mem}
    (h : (((μ.1 v0 8) ≤ v4 → P none μ) ∧ (¬ (μ.1 v0 8) ≤ v4 → (vp_in v4 83 ∧ ((¬ (μ.1 (v0 + 6) v4.toNatClampNeg) = v1 → G 14 [rf 11 v0, vi v1, rf 13 v2, vi v3, vi (v4 + nI 1)] [] μ) ∧ ((μ.1 (v0 + 6) v4.toNatClampNeg) = v1 → (∃ P37 : PT, Rn lay d mNe_isPiece [rf 11 v0, vi v4] μ P37 ∧ ∀ (x37 : Int32) (μ37 : Mem), P37 (some (vi x37)) μ37 → ((¬ x37 = 0 → ((v3 = 0 → (vp_in v1 8 ∧ (vp_in v4 83 ∧ (vp_in v4 83 ∧ (∃ P93 : PT, Rn lay d mTe_append [rf 13 v2, vi (μ37.1 (v2 + 1) v1.toNatClampNeg), vi (μ37.1 (v0 + 7) v4.toNatClampNeg), vi (μ37.1 (v0 + 8) v4.toNatClampNeg)] μ37 P93 ∧ ∀ (x93 : Int32) (μ93 : Mem), P93 (some (vi x93)) μ93 → G 14 [rf 11 v0, vi v1, rf 13 v2, vi (nI 0), vi (v4 + nI 1)] [] μ93))))) ∧ (¬ v3 = 0 → (vp_in v4 83 ∧ (vp_in v4 83 ∧ (∃ P66 : PT, Rn lay d mTe_lay [rf 13 v2, vi v1, vi (μ37.1 (v0 + 7) v4.toNatClampNeg), vi (μ37.1 (v0 + 8) v4.toNatClampNeg)] μ37 P66 ∧ ∀ μ66 : Mem, P66 none μ66 → G 14 [rf 11 v0, vi v1, rf 13 v2, vi (nI 0), vi (v4 + nI 1)] [] μ66)))))) ∧ (x37 = 0 → G 14 [rf 11 v0, vi v1, rf 13 v2, vi v3, vi (v4 + nI 1)] [] μ37))))))))) :
    G 14 [rf 11 v0, vi v1, rf 13 v2, vi v3, vi v4] [] μ := seg hC [(14, [])] 38 rfl h
theorem ok_Ne_greatestDepth : okB mNe_greatestDepth = true := by decide +kernel
theorem g_Ne_greatestDepth_0 {lay : List Nat} {d : Nat} {P : PT} {G : KT} (hC : Clo lay d mNe_greatestDepth P G) {v0 : Nat} {μ : Mem}
    (h : G 4 [rf 11 v0, vi (nI 0), vi (nI 0)] [] μ) :
    G 0 [rf 11 v0, un, un] [] μ := seg hC [(4, [])] 7 rfl h
theorem g_Ne_greatestDepth_4 {lay : List Nat} {d : Nat} {P : PT} {G : KT} (hC : Clo lay d mNe_greatestDepth P G) {v0 : Nat} {v1 : Int32} {v2 : Int32} {μ : Mem}
    (h : (((μ.1 v0 8) ≤ v2 → P (some (vi v1)) μ) ∧ (¬ (μ.1 v0 8) ≤ v2 → (vp_in v2 83 ∧ G 4 [rf 11 v0, vi (if v1 < μ.1 (v0 + 9) v2.toNatClampNeg then μ.1 (v0 + 9) v2.toNatClampNeg else v1), vi (v2 + nI 1)] [] μ)))) :
    G 4 [rf 11 v0, vi v1, vi v2] [] μ := seg hC [(4, [])] 16 rfl h
theorem ok_Ne_depthsTogether : okB mNe_depthsTogether = true := by decide +kernel
theorem g_Ne_depthsTogether_0 {lay : List Nat} {d : Nat} {P : PT} {G : KT} (hC : Clo lay d mNe_depthsTogether P G) {v0 : Nat} {μ : Mem}
    (h : G 4 [rf 11 v0, vi (nI 0), vi (nI 0)] [] μ) :
    G 0 [rf 11 v0, un, un] [] μ := seg hC [(4, [])] 7 rfl h
theorem g_Ne_depthsTogether_4 {lay : List Nat} {d : Nat} {P : PT} {G : KT} (hC : Clo lay d mNe_depthsTogether P G) {v0 : Nat} {v1 : Int32} {v2 : Int32} {μ : Mem}
    (h : (((μ.1 v0 8) ≤ v2 → P (some (vi v1)) μ) ∧ (¬ (μ.1 v0 8) ≤ v2 → (vp_in v2 83 ∧ G 4 [rf 11 v0, vi (v1 + (μ.1 (v0 + 9) v2.toNatClampNeg)), vi (v2 + nI 1)] [] μ)))) :
    G 4 [rf 11 v0, vi v1, vi v2] [] μ := seg hC [(4, [])] 16 rfl h
theorem ok_Ne_howManyEmpty : okB mNe_howManyEmpty = true := by decide +kernel
theorem g_Ne_howManyEmpty_0 {lay : List Nat} {d : Nat} {P : PT} {G : KT} (hC : Clo lay (d + 1) mNe_howManyEmpty P G) {v0 : Nat} {μ : Mem}
    (h : G 4 [rf 11 v0, vi (nI 0), vi (nI 0)] [] μ) :
    G 0 [rf 11 v0, un, un] [] μ := seg hC [(4, [])] 7 rfl h
theorem g_Ne_howManyEmpty_4 {lay : List Nat} {d : Nat} {P : PT} {G : KT} (hC : Clo lay (d + 1) mNe_howManyEmpty P G) {v0 : Nat} {v1 : Int32} {v2 : Int32} {μ : Mem}
    (h : (((μ.1 v0 8) ≤ v2 → P (some (vi v1)) μ) ∧ (¬ (μ.1 v0 8) ≤ v2 → (∃ P14 : PT, Rn lay d mNe_isPiece [rf 11 v0, vi v2] μ P14 ∧ ∀ (x14 : Int32) (μ14 : Mem), P14 (some (vi x14)) μ14 → ((¬ x14 = 0 → G 4 [rf 11 v0, vi v1, vi (v2 + nI 1)] [] μ14) ∧ (x14 = 0 → G 4 [rf 11 v0, vi (v1 + nI 1), vi (v2 + nI 1)] [] μ14)))))) :
    G 4 [rf 11 v0, vi v1, vi v2] [] μ := seg hC [(4, [])] 14 rfl h
theorem ok_Ne_longest : okB mNe_longest = true := by decide +kernel
theorem g_Ne_longest_0 {lay : List Nat} {d : Nat} {P : PT} {G : KT} (hC : Clo lay d mNe_longest P G) {v0 : Nat} {μ : Mem}
    (h : G 4 [rf 11 v0, vi (nI 0), vi (nI 0)] [] μ) :
    G 0 [rf 11 v0, un, un] [] μ := seg hC [(4, [])] 7 rfl h
theorem g_Ne_longest_4 {lay : List Nat} {d : Nat} {P : PT} {G : KT} (hC : Clo lay d mNe_longest P G) {v0 : Nat} {v1 : Int32} {v2 : Int32} {μ : Mem}
    (h : (((μ.1 v0 8) ≤ v2 → P (some (vi v1)) μ) ∧ (¬ (μ.1 v0 8) ≤ v2 → (vp_in v2 83 ∧ (vp_in v2 83 ∧ G 4 [rf 11 v0, vi (if v1 < (μ.1 (v0 + 8) v2.toNatClampNeg) - (μ.1 (v0 + 7) v2.toNatClampNeg) then (μ.1 (v0 + 8) v2.toNatClampNeg) - (μ.1 (v0 + 7) v2.toNatClampNeg) else v1), vi (v2 + nI 1)] [] μ))))) :
    G 4 [rf 11 v0, vi v1, vi v2] [] μ := seg hC [(4, [])] 21 rfl h
theorem ok_Ne_howManyInNone : okB mNe_howManyInNone = true := by decide +kernel
theorem g_Ne_howManyInNone_0 {lay : List Nat} {d : Nat} {P : PT} {G : KT} (hC : Clo lay d mNe_howManyInNone P G) {v0 : Nat} {μ : Mem}
    (h : G 4 [rf 11 v0, vi (nI 0), vi (nI 0)] [] μ) :
    G 0 [rf 11 v0, un, un] [] μ := seg hC [(4, [])] 7 rfl h
theorem g_Ne_howManyInNone_4 {lay : List Nat} {d : Nat} {P : PT} {G : KT} (hC : Clo lay d mNe_howManyInNone P G) {v0 : Nat} {v1 : Int32} {v2 : Int32} {μ : Mem}
    (h : (((μ.1 v0 8) ≤ v2 → P (some (vi v1)) μ) ∧ (¬ (μ.1 v0 8) ≤ v2 → (vp_in v2 83 ∧ ((¬ (μ.1 (v0 + 9) v2.toNatClampNeg) = 0 → G 4 [rf 11 v0, vi v1, vi (v2 + nI 1)] [] μ) ∧ ((μ.1 (v0 + 9) v2.toNatClampNeg) = 0 → G 4 [rf 11 v0, vi (v1 + nI 1), vi (v2 + nI 1)] [] μ)))))) :
    G 4 [rf 11 v0, vi v1, vi v2] [] μ := seg hC [(4, [])] 15 rfl h
end
section
theorem ok_X_anew : okB mX_anew = true := by decide +kernel
theorem g_X_anew_0 {lay : List Nat} {d : Nat} {P : PT} {G : KT} (hC : Clo lay (d + 1) mX_anew P G) {v0 : Nat} {v1 : Int32} {μ : Mem}
    (h : ((v1 < 0 → (∃ P11 : PT, Rn lay d mX_refuseBad [rf 15 v0] μ P11 ∧ ∀ (x11 : Int32) (μ11 : Mem), P11 (some (vi x11)) μ11 → P (some (vi x11)) μ11)) ∧ (¬ v1 < 0 → ((v1 ≤ (nI 90) → (∃ P28 : PT, Rn lay d mTe_clear [rf 13 (v0 + 1), vi v1] μ P28 ∧ ∀ μ28 : Mem, P28 none μ28 → (∃ P35 : PT, Rn lay d mHi_forget [rf 10 (v0 + 11)] μ28 P35 ∧ ∀ μ35 : Mem, P35 none μ35 → P (some (vi (μ.1 (v0 + 1) 4))) (upI μ35 v0 6 (nI 0))))) ∧ (¬ v1 ≤ (nI 90) → (∃ P11 : PT, Rn lay d mX_refuseBad [rf 15 v0] μ P11 ∧ ∀ (x11 : Int32) (μ11 : Mem), P11 (some (vi x11)) μ11 → P (some (vi x11)) μ11)))))) :
    G 0 [rf 15 v0, vi v1, un] [] μ := seg hC [] 24 rfl (⟨fun q1 => (h.1 q1), fun q1 => ⟨fun q2 => (match ((h.2 q1).1 q2) with | ⟨P28, c28, f28⟩ => ⟨P28, c28, fun μ28 y28 => (fun h28 => (match h28 with | ⟨P35, c35, f35⟩ => ⟨P35, c35, fun μ35 y35 => (fun h35 => ⟨Or.inl (by decide), h35⟩) (f35 μ35 y35)⟩)) (f28 μ28 y28)⟩), fun q2 => ((h.2 q1).2 q2)⟩⟩)
theorem ok_X_range : okB mX_range = true := by decide +kernel
theorem g_X_range_0 {lay : List Nat} {d : Nat} {P : PT} {G : KT} (hC : Clo lay (d + 1) mX_range P G) {v0 : Nat} {v1 : Int32} {v2 : Int32} {v3 : Int32} {μ : Mem}
    (h : (∃ P1 : PT, Rn lay d mTe_isKindNumber [vi v1] μ P1 ∧ ∀ (x1 : Int32) (μ1 : Mem), P1 (some (vi x1)) μ1 → ((x1 = 0 → (∃ P20 : PT, Rn lay d mX_refuseBad [rf 15 v0] μ1 P20 ∧ ∀ (x20 : Int32) (μ20 : Mem), P20 (some (vi x20)) μ20 → P (some (vi x20)) μ20)) ∧ (¬ x1 = 0 → (∃ P13 : PT, Rn lay d mTe_holds [rf 13 (v0 + 1), vi v2, vi v3] μ1 P13 ∧ ∀ (x13 : Int32) (μ13 : Mem), P13 (some (vi x13)) μ13 → ((¬ x13 = 0 → (∃ P32 : PT, Rn lay d mTe_copy [rf 13 (v0 + 6), rf 13 (v0 + 1)] μ13 P32 ∧ ∀ μ32 : Mem, P32 none μ32 → (∃ P42 : PT, Rn lay d mTe_append [rf 13 (v0 + 6), vi v1, vi v2, vi v3] μ32 P42 ∧ ∀ (x42 : Int32) (μ42 : Mem), P42 (some (vi x42)) μ42 → ((x42 = 0 → (∃ P59 : PT, Rn lay d mX_refuseFull [rf 15 v0] μ42 P59 ∧ ∀ (x59 : Int32) (μ59 : Mem), P59 (some (vi x59)) μ59 → P (some (vi x59)) μ59)) ∧ (¬ x42 = 0 → (∃ P52 : PT, Rn lay d mTe_isCrowded [rf 13 (v0 + 6)] μ42 P52 ∧ ∀ (x52 : Int32) (μ52 : Mem), P52 (some (vi x52)) μ52 → ((x52 = 0 → (∃ P64 : PT, Rn lay d mX_settle [rf 15 v0] μ52 P64 ∧ ∀ μ64 : Mem, P64 none μ64 → P (some (vi ((μ64.1 (v0 + 1) 4) - (nI 1)))) μ64)) ∧ (¬ x52 = 0 → (∃ P59 : PT, Rn lay d mX_refuseFull [rf 15 v0] μ52 P59 ∧ ∀ (x59 : Int32) (μ59 : Mem), P59 (some (vi x59)) μ59 → P (some (vi x59)) μ59))))))))) ∧ (x13 = 0 → (∃ P20 : PT, Rn lay d mX_refuseBad [rf 15 v0] μ13 P20 ∧ ∀ (x20 : Int32) (μ20 : Mem), P20 (some (vi x20)) μ20 → P (some (vi x20)) μ20)))))))) :
    G 0 [rf 15 v0, vi v1, vi v2, vi v3] [] μ := seg hC [] 36 rfl h
theorem ok_X_drop : okB mX_drop = true := by decide +kernel
theorem g_X_drop_0 {lay : List Nat} {d : Nat} {P : PT} {G : KT} (hC : Clo lay (d + 1) mX_drop P G) {v0 : Nat} {v1 : Int32} {μ : Mem}
    (h : (∃ P5 : PT, Rn lay d mTe_has [rf 13 (v0 + 1), vi v1] μ P5 ∧ ∀ (x5 : Int32) (μ5 : Mem), P5 (some (vi x5)) μ5 → ((¬ x5 = 0 → (∃ P24 : PT, Rn lay d mTe_copy [rf 13 (v0 + 6), rf 13 (v0 + 1)] μ5 P24 ∧ ∀ μ24 : Mem, P24 none μ24 → (∃ P32 : PT, Rn lay d mTe_remove [rf 13 (v0 + 6), vi v1] μ24 P32 ∧ ∀ μ32 : Mem, P32 none μ32 → (∃ P36 : PT, Rn lay d mX_settle [rf 15 v0] μ32 P36 ∧ ∀ μ36 : Mem, P36 none μ36 → P (some (vi (μ36.1 (v0 + 1) 4))) μ36)))) ∧ (x5 = 0 → (∃ P12 : PT, Rn lay d mX_refuseBad [rf 15 v0] μ5 P12 ∧ ∀ (x12 : Int32) (μ12 : Mem), P12 (some (vi x12)) μ12 → P (some (vi x12)) μ12))))) :
    G 0 [rf 15 v0, vi v1] [] μ := seg hC [] 23 rfl h
theorem ok_X_moves : okB mX_moves = true := by decide +kernel
theorem g_X_moves_0 {lay : List Nat} {d : Nat} {P : PT} {G : KT} (hC : Clo lay (d + 1) mX_moves P G) {v0 : Nat} {v1 : Int32} {v2 : Int32} {v3 : Int32} {μ : Mem}
    (h : (∃ P5 : PT, Rn lay d mTe_has [rf 13 (v0 + 1), vi v1] μ P5 ∧ ∀ (x5 : Int32) (μ5 : Mem), P5 (some (vi x5)) μ5 → ((x5 = 0 → (∃ P24 : PT, Rn lay d mX_refuseBad [rf 15 v0] μ5 P24 ∧ ∀ (x24 : Int32) (μ24 : Mem), P24 (some (vi x24)) μ24 → P (some (vi x24)) μ24)) ∧ (¬ x5 = 0 → (∃ P17 : PT, Rn lay d mTe_holds [rf 13 (v0 + 1), vi v2, vi v3] μ5 P17 ∧ ∀ (x17 : Int32) (μ17 : Mem), P17 (some (vi x17)) μ17 → ((¬ x17 = 0 → (∃ P36 : PT, Rn lay d mTe_copy [rf 13 (v0 + 6), rf 13 (v0 + 1)] μ17 P36 ∧ ∀ μ36 : Mem, P36 none μ36 → (∃ P46 : PT, Rn lay d mTe_lay [rf 13 (v0 + 6), vi v1, vi v2, vi v3] μ36 P46 ∧ ∀ μ46 : Mem, P46 none μ46 → (∃ P53 : PT, Rn lay d mTe_isCrowded [rf 13 (v0 + 6)] μ46 P53 ∧ ∀ (x53 : Int32) (μ53 : Mem), P53 (some (vi x53)) μ53 → ((x53 = 0 → (vp_in v1 8 ∧ (vp_in v1 8 ∧ (∃ P86 : PT, Rn lay d mX_settle [rf 15 v0] μ53 P86 ∧ ∀ μ86 : Mem, P86 none μ86 → P (some (vi ((v3 - v2) - ((μ53.1 (v0 + 1 + 3) v1.toNatClampNeg) - (μ53.1 (v0 + 1 + 2) v1.toNatClampNeg))))) μ86)))) ∧ (¬ x53 = 0 → (∃ P60 : PT, Rn lay d mX_refuseFull [rf 15 v0] μ53 P60 ∧ ∀ (x60 : Int32) (μ60 : Mem), P60 (some (vi x60)) μ60 → P (some (vi x60)) μ60))))))) ∧ (x17 = 0 → (∃ P24 : PT, Rn lay d mX_refuseBad [rf 15 v0] μ17 P24 ∧ ∀ (x24 : Int32) (μ24 : Mem), P24 (some (vi x24)) μ24 → P (some (vi x24)) μ24)))))))) :
    G 0 [rf 15 v0, vi v1, vi v2, vi v3, un] [] μ := seg hC [] 49 rfl h
theorem ok_X_kind : okB mX_kind = true := by decide +kernel
theorem g_X_kind_0 {lay : List Nat} {d : Nat} {P : PT} {G : KT} (hC : Clo lay (d + 1) mX_kind P G) {v0 : Nat} {v1 : Int32} {v2 : Int32} {μ : Mem}
    (h : (∃ P5 : PT, Rn lay d mTe_has [rf 13 (v0 + 1), vi v1] μ P5 ∧ ∀ (x5 : Int32) (μ5 : Mem), P5 (some (vi x5)) μ5 → ((x5 = 0 → (∃ P19 : PT, Rn lay d mX_refuseBad [rf 15 v0] μ5 P19 ∧ ∀ (x19 : Int32) (μ19 : Mem), P19 (some (vi x19)) μ19 → P (some (vi x19)) μ19)) ∧ (¬ x5 = 0 → (∃ P12 : PT, Rn lay d mTe_isKindNumber [vi v2] μ5 P12 ∧ ∀ (x12 : Int32) (μ12 : Mem), P12 (some (vi x12)) μ12 → ((¬ x12 = 0 → (vp_in v1 8 ∧ (∃ P41 : PT, Rn lay d mTe_copy [rf 13 (v0 + 6), rf 13 (v0 + 1)] μ12 P41 ∧ ∀ μ41 : Mem, P41 none μ41 → (vp_in v1 8 ∧ (∃ P55 : PT, Rn lay d mX_settle [rf 15 v0] (upI μ41 (v0 + 6 + 1) v1.toNatClampNeg v2) P55 ∧ ∀ μ55 : Mem, P55 none μ55 → P (some (vi (μ12.1 (v0 + 1 + 1) v1.toNatClampNeg))) μ55))))) ∧ (x12 = 0 → (∃ P19 : PT, Rn lay d mX_refuseBad [rf 15 v0] μ12 P19 ∧ ∀ (x19 : Int32) (μ19 : Mem), P19 (some (vi x19)) μ19 → P (some (vi x19)) μ19)))))))) :
    G 0 [rf 15 v0, vi v1, vi v2, un] [] μ := seg hC [] 32 rfl h
theorem ok_X_rank : okB mX_rank = true := by decide +kernel
theorem g_X_rank_0 {lay : List Nat} {d : Nat} {P : PT} {G : KT} (hC : Clo lay (d + 1) mX_rank P G) {v0 : Nat} {v1 : Int32} {v2 : Int32} {μ : Mem}
    (h : (∃ P1 : PT, Rn lay d mTe_isKindNumber [vi v1] μ P1 ∧ ∀ (x1 : Int32) (μ1 : Mem), P1 (some (vi x1)) μ1 → ((x1 = 0 → (∃ P17 : PT, Rn lay d mX_refuseBad [rf 15 v0] μ1 P17 ∧ ∀ (x17 : Int32) (μ17 : Mem), P17 (some (vi x17)) μ17 → P (some (vi x17)) μ17)) ∧ (¬ x1 = 0 → ((v2 < 0 → (∃ P17 : PT, Rn lay d mX_refuseBad [rf 15 v0] μ1 P17 ∧ ∀ (x17 : Int32) (μ17 : Mem), P17 (some (vi x17)) μ17 → P (some (vi x17)) μ17)) ∧ (¬ v2 < 0 → ((v2 < (nI 4) → (vp_in v1 4 ∧ (∃ P39 : PT, Rn lay d mTe_copy [rf 13 (v0 + 6), rf 13 (v0 + 1)] μ1 P39 ∧ ∀ μ39 : Mem, P39 none μ39 → (vp_in v1 4 ∧ (∃ P53 : PT, Rn lay d mX_settle [rf 15 v0] (upI μ39 (v0 + 6 + 4) v1.toNatClampNeg v2) P53 ∧ ∀ μ53 : Mem, P53 none μ53 → P (some (vi (μ1.1 (v0 + 1 + 4) v1.toNatClampNeg))) μ53))))) ∧ (¬ v2 < (nI 4) → (∃ P17 : PT, Rn lay d mX_refuseBad [rf 15 v0] μ1 P17 ∧ ∀ (x17 : Int32) (μ17 : Mem), P17 (some (vi x17)) μ17 → P (some (vi x17)) μ17))))))))) :
    G 0 [rf 15 v0, vi v1, vi v2, un] [] μ := seg hC [] 32 rfl h
theorem ok_X_puts : okB mX_puts = true := by decide +kernel
theorem g_X_puts_0 {lay : List Nat} {d : Nat} {P : PT} {G : KT} (hC : Clo lay (d + 1) mX_puts P G) {v0 : Nat} {v1 : Int32} {v2 : Int32} {μ : Mem}
    (h : ((v1 < 0 → (∃ P27 : PT, Rn lay d mX_refuseBad [rf 15 v0] μ P27 ∧ ∀ (x27 : Int32) (μ27 : Mem), P27 (some (vi x27)) μ27 → P (some (vi x27)) μ27)) ∧ (¬ v1 < 0 → (((μ.1 (v0 + 1) 5) < v1 → (∃ P27 : PT, Rn lay d mX_refuseBad [rf 15 v0] μ P27 ∧ ∀ (x27 : Int32) (μ27 : Mem), P27 (some (vi x27)) μ27 → P (some (vi x27)) μ27)) ∧ (¬ (μ.1 (v0 + 1) 5) < v1 → ((v2 < (nI 1) → (∃ P27 : PT, Rn lay d mX_refuseBad [rf 15 v0] μ P27 ∧ ∀ (x27 : Int32) (μ27 : Mem), P27 (some (vi x27)) μ27 → P (some (vi x27)) μ27)) ∧ (¬ v2 < (nI 1) → ((v2 ≤ (nI 90) → ((((μ.1 (v0 + 1) 5) + v2) ≤ (nI 90) → (∃ P58 : PT, Rn lay d mTe_copy [rf 13 (v0 + 6), rf 13 (v0 + 1)] μ P58 ∧ ∀ μ58 : Mem, P58 none μ58 → (∃ P67 : PT, Rn lay d mTe_putIn [rf 13 (v0 + 6), vi v1, vi v2] μ58 P67 ∧ ∀ μ67 : Mem, P67 none μ67 → (∃ P71 : PT, Rn lay d mX_settle [rf 15 v0] μ67 P71 ∧ ∀ μ71 : Mem, P71 none μ71 → P (some (vi (μ71.1 (v0 + 1) 5))) μ71)))) ∧ (¬ ((μ.1 (v0 + 1) 5) + v2) ≤ (nI 90) → (∃ P46 : PT, Rn lay d mX_refuseFull [rf 15 v0] μ P46 ∧ ∀ (x46 : Int32) (μ46 : Mem), P46 (some (vi x46)) μ46 → P (some (vi x46)) μ46)))) ∧ (¬ v2 ≤ (nI 90) → (∃ P27 : PT, Rn lay d mX_refuseBad [rf 15 v0] μ P27 ∧ ∀ (x27 : Int32) (μ27 : Mem), P27 (some (vi x27)) μ27 → P (some (vi x27)) μ27)))))))))) :
    G 0 [rf 15 v0, vi v1, vi v2] [] μ := seg hC [] 39 rfl h
theorem ok_X_takes : okB mX_takes = true := by decide +kernel
theorem g_X_takes_0 {lay : List Nat} {d : Nat} {P : PT} {G : KT} (hC : Clo lay (d + 1) mX_takes P G) {v0 : Nat} {v1 : Int32} {v2 : Int32} {μ : Mem}
    (h : ((v1 < 0 → (∃ P21 : PT, Rn lay d mX_refuseBad [rf 15 v0] μ P21 ∧ ∀ (x21 : Int32) (μ21 : Mem), P21 (some (vi x21)) μ21 → P (some (vi x21)) μ21)) ∧ (¬ v1 < 0 → ((v2 ≤ v1 → (∃ P21 : PT, Rn lay d mX_refuseBad [rf 15 v0] μ P21 ∧ ∀ (x21 : Int32) (μ21 : Mem), P21 (some (vi x21)) μ21 → P (some (vi x21)) μ21)) ∧ (¬ v2 ≤ v1 → ((v2 ≤ (μ.1 (v0 + 1) 5) → (∃ P33 : PT, Rn lay d mTe_copy [rf 13 (v0 + 6), rf 13 (v0 + 1)] μ P33 ∧ ∀ μ33 : Mem, P33 none μ33 → (∃ P42 : PT, Rn lay d mTe_takeOut [rf 13 (v0 + 6), vi v1, vi v2] μ33 P42 ∧ ∀ μ42 : Mem, P42 none μ42 → (∃ P46 : PT, Rn lay d mX_settle [rf 15 v0] μ42 P46 ∧ ∀ μ46 : Mem, P46 none μ46 → P (some (vi (μ46.1 (v0 + 1) 5))) μ46)))) ∧ (¬ v2 ≤ (μ.1 (v0 + 1) 5) → (∃ P21 : PT, Rn lay d mX_refuseBad [rf 15 v0] μ P21 ∧ ∀ (x21 : Int32) (μ21 : Mem), P21 (some (vi x21)) μ21 → P (some (vi x21)) μ21)))))))) :
    G 0 [rf 15 v0, vi v1, vi v2] [] μ := seg hC [] 29 rfl h
theorem ok_X_joins : okB mX_joins = true := by decide +kernel
theorem g_X_joins_0 {lay : List Nat} {d : Nat} {P : PT} {G : KT} (hC : Clo lay (d + 1) mX_joins P G) {v0 : Nat} {v1 : Int32} {μ : Mem}
    (h : (∃ P1 : PT, Rn lay d mTe_isKindNumber [vi v1] μ P1 ∧ ∀ (x1 : Int32) (μ1 : Mem), P1 (some (vi x1)) μ1 → ((¬ x1 = 0 → (∃ P20 : PT, Rn lay d mTe_copy [rf 13 (v0 + 6), rf 13 (v0 + 1)] μ1 P20 ∧ ∀ μ20 : Mem, P20 none μ20 → G 25 [rf 15 v0, vi v1, vi (nI 0)] [] μ20)) ∧ (x1 = 0 → (∃ P8 : PT, Rn lay d mX_refuseBad [rf 15 v0] μ1 P8 ∧ ∀ (x8 : Int32) (μ8 : Mem), P8 (some (vi x8)) μ8 → P (some (vi x8)) μ8))))) :
    G 0 [rf 15 v0, vi v1, un] [] μ := seg hC [(25, []), (69, [1, 2])] 13 rfl h
theorem g_X_joins_25 {lay : List Nat} {d : Nat} {P : PT} {G : KT} (hC : Clo lay (d + 1) mX_joins P G) {v0 : Nat} {v1 : Int32} {v2 : Int32} {μ : Mem}
    (h : (((μ.1 (v0 + 6) 4) ≤ v2 → G 69 [rf 15 v0, un, un] [] μ) ∧ (¬ (μ.1 (v0 + 6) 4) ≤ v2 → (((nI 8) ≤ v2 → G 69 [rf 15 v0, un, un] [] μ) ∧ (¬ (nI 8) ≤ v2 → (vp_in v2 8 ∧ ((¬ (μ.1 (v0 + 6 + 1) v2.toNatClampNeg) = v1 → G 25 [rf 15 v0, vi v1, vi (v2 + nI 1)] [] μ) ∧ ((μ.1 (v0 + 6 + 1) v2.toNatClampNeg) = v1 → (∃ P60 : PT, Rn lay d mTe_gatherInto [rf 13 (v0 + 6), vi v2] μ P60 ∧ ∀ μ60 : Mem, P60 none μ60 → G 25 [rf 15 v0, vi v1, vi (v2 + nI 1)] [] μ60))))))))) :
    G 25 [rf 15 v0, vi v1, vi v2] [] μ := seg hC [(25, []), (69, [1, 2])] 24 rfl h
theorem g_X_joins_69 {lay : List Nat} {d : Nat} {P : PT} {G : KT} (hC : Clo lay (d + 1) mX_joins P G) {v0 : Nat} {μ : Mem}
    (h : (∃ P86 : PT, Rn lay d mX_settle [rf 15 v0] μ P86 ∧ ∀ μ86 : Mem, P86 none μ86 → P (some (vi ((μ.1 (v0 + 1) 4) - (μ.1 (v0 + 6) 4)))) μ86)) :
    G 69 [rf 15 v0, un, un] [] μ := seg hC [(25, []), (69, [1, 2])] 15 rfl h
theorem ok_X_splits : okB mX_splits = true := by decide +kernel
theorem g_X_splits_0 {lay : List Nat} {d : Nat} {P : PT} {G : KT} (hC : Clo lay (d + 1) mX_splits P G) {v0 : Nat} {v1 : Int32} {μ : Mem}
    (h : (∃ P1 : PT, Rn lay d mTe_isKindNumber [vi v1] μ P1 ∧ ∀ (x1 : Int32) (μ1 : Mem), P1 (some (vi x1)) μ1 → ((¬ x1 = 0 → (∃ P13 : PT, Rn lay d mX_makeNest [rf 15 v0] μ1 P13 ∧ ∀ μ13 : Mem, P13 none μ13 → G 20 [rf 15 v0, vi v1, vi (nI 0), vi (nI 0)] [] μ13)) ∧ (x1 = 0 → (∃ P8 : PT, Rn lay d mX_refuseBad [rf 15 v0] μ1 P8 ∧ ∀ (x8 : Int32) (μ8 : Mem), P8 (some (vi x8)) μ8 → P (some (vi x8)) μ8))))) :
    G 0 [rf 15 v0, vi v1, un, un] [] μ := seg hC [(20, []), (73, [3]), (105, []), (153, [1, 3])] 12 rfl h
theorem g_X_splits_20 {lay : List Nat} {d : Nat} {P : PT} {G : KT} (hC : Clo lay (d + 1) mX_splits P G) {v0 : Nat} {v1 : Int32} {v2 : Int32} {v3 : Int32} {μ : Mem}
    (h : (((μ.1 (v0 + 1) 4) ≤ v3 → G 73 [rf 15 v0, vi v1, vi v2, un] [] μ) ∧ (¬ (μ.1 (v0 + 1) 4) ≤ v3 → (((nI 8) ≤ v3 → G 73 [rf 15 v0, vi v1, vi v2, un] [] μ) ∧ (¬ (nI 8) ≤ v3 → (vp_in v3 8 ∧ ((¬ (μ.1 (v0 + 1 + 1) v3.toNatClampNeg) = v1 → G 20 [rf 15 v0, vi v1, vi v2, vi (v3 + nI 1)] [] μ) ∧ ((μ.1 (v0 + 1 + 1) v3.toNatClampNeg) = v1 → (∃ P57 : PT, Rn lay d mNe_piecesOf [rf 11 (v0 + 115), vi v3] μ P57 ∧ ∀ (x57 : Int32) (μ57 : Mem), P57 (some (vi x57)) μ57 → G 20 [rf 15 v0, vi v1, vi (v2 + (if nI 0 < x57 - (nI 1) then x57 - (nI 1) else nI 0)), vi (v3 + nI 1)] [] μ57))))))))) :
    G 20 [rf 15 v0, vi v1, vi v2, vi v3] [] μ := seg hC [(20, []), (73, [3]), (105, []), (153, [1, 3])] 31 rfl h
theorem g_X_splits_73 {lay : List Nat} {d : Nat} {P : PT} {G : KT} (hC : Clo lay (d + 1) mX_splits P G) {v0 : Nat} {v1 : Int32} {v2 : Int32} {μ : Mem}
    (h : ((((μ.1 (v0 + 1) 4) + v2) ≤ (nI 8) → (∃ P100 : PT, Rn lay d mTe_copy [rf 13 (v0 + 6), rf 13 (v0 + 1)] μ P100 ∧ ∀ μ100 : Mem, P100 none μ100 → G 105 [rf 15 v0, vi v1, vi v2, vi (nI 0)] [] μ100)) ∧ (¬ ((μ.1 (v0 + 1) 4) + v2) ≤ (nI 8) → (∃ P88 : PT, Rn lay d mX_refuseFull [rf 15 v0] μ P88 ∧ ∀ (x88 : Int32) (μ88 : Mem), P88 (some (vi x88)) μ88 → P (some (vi x88)) μ88)))) :
    G 73 [rf 15 v0, vi v1, vi v2, un] [] μ := seg hC [(20, []), (73, [3]), (105, []), (153, [1, 3])] 17 rfl h
theorem g_X_splits_105 {lay : List Nat} {d : Nat} {P : PT} {G : KT} (hC : Clo lay (d + 1) mX_splits P G) {v0 : Nat} {v1 : Int32} {v2 : Int32} {v3 : Int32} {μ : Mem}
    (h : (((μ.1 (v0 + 1) 4) ≤ v3 → G 153 [rf 15 v0, un, vi v2, un] [] μ) ∧ (¬ (μ.1 (v0 + 1) 4) ≤ v3 → (((nI 8) ≤ v3 → G 153 [rf 15 v0, un, vi v2, un] [] μ) ∧ (¬ (nI 8) ≤ v3 → (vp_in v3 8 ∧ ((¬ (μ.1 (v0 + 1 + 1) v3.toNatClampNeg) = v1 → G 105 [rf 15 v0, vi v1, vi v2, vi (v3 + nI 1)] [] μ) ∧ ((μ.1 (v0 + 1 + 1) v3.toNatClampNeg) = v1 → (∃ P144 : PT, Rn lay d mNe_breakUp [rf 11 (v0 + 115), vi v3, rf 13 (v0 + 6)] μ P144 ∧ ∀ μ144 : Mem, P144 none μ144 → G 105 [rf 15 v0, vi v1, vi v2, vi (v3 + nI 1)] [] μ144))))))))) :
    G 105 [rf 15 v0, vi v1, vi v2, vi v3] [] μ := seg hC [(20, []), (73, [3]), (105, []), (153, [1, 3])] 26 rfl h
theorem g_X_splits_153 {lay : List Nat} {d : Nat} {P : PT} {G : KT} (hC : Clo lay (d + 1) mX_splits P G) {v0 : Nat} {v2 : Int32} {μ : Mem}
    (h : (∃ P154 : PT, Rn lay d mX_settle [rf 15 v0] μ P154 ∧ ∀ μ154 : Mem, P154 none μ154 → P (some (vi v2)) μ154)) :
    G 153 [rf 15 v0, un, vi v2, un] [] μ := seg hC [(20, []), (73, [3]), (105, []), (153, [1, 3])] 7 rfl h
theorem ok_X_undo : okB mX_undo = true := by decide +kernel
theorem g_X_undo_0 {lay : List Nat} {d : Nat} {P : PT} {G : KT} (hC : Clo lay (d + 1) mX_undo P G) {v0 : Nat} {μ : Mem}
    (h : (∃ P8 : PT, Rn lay d mHi_takeBack [rf 10 (v0 + 11), rf 13 (v0 + 1)] μ P8 ∧ ∀ (x8 : Int32) (μ8 : Mem), P8 (some (vi x8)) μ8 → ((¬ x8 = 0 → P (some (vi ((upI μ8 v0 6 (nI 0)).1 (v0 + 11) 2))) (upI μ8 v0 6 (nI 0))) ∧ (x8 = 0 → P (some (vi (mI 2))) (upI μ8 v0 8 ((μ8.1 v0 8) + (nI 1))))))) :
    G 0 [rf 15 v0] [] μ := seg hC [] 17 rfl ((match h with | ⟨P8, c8, f8⟩ => ⟨P8, c8, fun x8 μ8 y8 => (fun h8 => ⟨fun q1 => ⟨Or.inl (by decide), (h8.1 q1)⟩, fun q1 => (h8.2 q1)⟩) (f8 x8 μ8 y8)⟩))
theorem ok_X_of : okB mX_of = true := by decide +kernel
theorem g_X_of_0 {lay : List Nat} {d : Nat} {P : PT} {G : KT} (hC : Clo lay (d + 1) mX_of P G) {v0 : Nat} {v1 : Int32} {v2 : Int32} {μ : Mem}
    (h : (∃ P5 : PT, Rn lay d mTe_has [rf 13 (v0 + 1), vi v1] μ P5 ∧ ∀ (x5 : Int32) (μ5 : Mem), P5 (some (vi x5)) μ5 → ((¬ x5 = 0 → ((v2 = nI 0 → (vp_in v1 8 ∧ P (some (vi (μ5.1 (v0 + 1 + 1) v1.toNatClampNeg))) μ5)) ∧ (¬ v2 = nI 0 → ((v2 = nI 1 → (vp_in v1 8 ∧ P (some (vi (μ5.1 (v0 + 1 + 2) v1.toNatClampNeg))) μ5)) ∧ (¬ v2 = nI 1 → ((v2 = nI 2 → (vp_in v1 8 ∧ P (some (vi (μ5.1 (v0 + 1 + 3) v1.toNatClampNeg))) μ5)) ∧ (¬ v2 = nI 2 → ((v2 = nI 3 → (∃ P83 : PT, Rn lay d mX_makeNest [rf 15 v0] μ5 P83 ∧ ∀ μ83 : Mem, P83 none μ83 → (∃ P91 : PT, Rn lay d mNe_piecesOf [rf 11 (v0 + 115), vi v1] μ83 P91 ∧ ∀ (x91 : Int32) (μ91 : Mem), P91 (some (vi x91)) μ91 → P (some (vi x91)) μ91))) ∧ (¬ v2 = nI 3 → ((v2 = nI 4 → (∃ P100 : PT, Rn lay d mTe_howManyAcross [rf 13 (v0 + 1), vi v1] μ5 P100 ∧ ∀ (x100 : Int32) (μ100 : Mem), P100 (some (vi x100)) μ100 → P (some (vi x100)) μ100)) ∧ (¬ v2 = nI 4 → (∃ P105 : PT, Rn lay d mX_refuseBad [rf 15 v0] μ5 P105 ∧ ∀ (x105 : Int32) (μ105 : Mem), P105 (some (vi x105)) μ105 → P (some (vi x105)) μ105)))))))))))) ∧ (x5 = 0 → (∃ P12 : PT, Rn lay d mX_refuseBad [rf 15 v0] μ5 P12 ∧ ∀ (x12 : Int32) (μ12 : Mem), P12 (some (vi x12)) μ12 → P (some (vi x12)) μ12))))) :
    G 0 [rf 15 v0, vi v1, vi v2] [] μ := seg hC [] 17 rfl h
theorem ok_X_over : okB mX_over = true := by decide +kernel
theorem g_X_over_0 {lay : List Nat} {d : Nat} {P : PT} {G : KT} (hC : Clo lay (d + 1) mX_over P G) {v0 : Nat} {v1 : Int32} {μ : Mem}
    (h : ((v1 < 0 → (∃ P16 : PT, Rn lay d mX_refuseBad [rf 15 v0] μ P16 ∧ ∀ (x16 : Int32) (μ16 : Mem), P16 (some (vi x16)) μ16 → P (some (vi x16)) μ16)) ∧ (¬ v1 < 0 → ((v1 < (μ.1 (v0 + 1) 5) → (∃ P25 : PT, Rn lay d mTe_coverAt [rf 13 (v0 + 1), vi v1] μ P25 ∧ ∀ (x25 : Int32) (μ25 : Mem), P25 (some (vi x25)) μ25 → P (some (vi x25)) μ25)) ∧ (¬ v1 < (μ.1 (v0 + 1) 5) → (∃ P16 : PT, Rn lay d mX_refuseBad [rf 15 v0] μ P16 ∧ ∀ (x16 : Int32) (μ16 : Mem), P16 (some (vi x16)) μ16 → P (some (vi x16)) μ16)))))) :
    G 0 [rf 15 v0, vi v1] [] μ := seg hC [] 15 rfl h
theorem ok_X_section : okB mX_section = true := by decide +kernel
theorem g_X_section_0 {lay : List Nat} {d : Nat} {P : PT} {G : KT} (hC : Clo lay (d + 1) mX_section P G) {v0 : Nat} {v1 : Int32} {v2 : Int32} {μ : Mem}
    (h : (∃ P1 : PT, Rn lay d mX_makeNest [rf 15 v0] μ P1 ∧ ∀ μ1 : Mem, P1 none μ1 → (∃ P12 : PT, Rn lay d mSe_has [rf 12 (v0 + 115 + 1), vi v1] μ1 P12 ∧ ∀ (x12 : Int32) (μ12 : Mem), P12 (some (vi x12)) μ12 → ((¬ x12 = 0 → ((v2 = nI 0 → (vp_in v1 16 ∧ P (some (vi (μ12.1 (v0 + 115 + 1 + 1) v1.toNatClampNeg))) μ12)) ∧ (¬ v2 = nI 0 → ((v2 = nI 1 → (vp_in (v1 + (nI 1)) 16 ∧ P (some (vi (μ12.1 (v0 + 115 + 1 + 1) (v1 + (nI 1)).toNatClampNeg))) μ12)) ∧ (¬ v2 = nI 1 → ((v2 = nI 2 → (vp_in v1 15 ∧ (∃ P92 : PT, Rn lay d mInt_bitCount [vi (μ12.1 (v0 + 115 + 1 + 2) v1.toNatClampNeg)] μ12 P92 ∧ ∀ (x92 : Int32) (μ92 : Mem), P92 (some (vi x92)) μ92 → P (some (vi x92)) μ92))) ∧ (¬ v2 = nI 2 → (∃ P97 : PT, Rn lay d mX_refuseBad [rf 15 v0] μ12 P97 ∧ ∀ (x97 : Int32) (μ97 : Mem), P97 (some (vi x97)) μ97 → P (some (vi x97)) μ97)))))))) ∧ (x12 = 0 → (∃ P19 : PT, Rn lay d mX_refuseBad [rf 15 v0] μ12 P19 ∧ ∀ (x19 : Int32) (μ19 : Mem), P19 (some (vi x19)) μ19 → P (some (vi x19)) μ19)))))) :
    G 0 [rf 15 v0, vi v1, vi v2] [] μ := seg hC [] 22 rfl h
theorem ok_X_stack : okB mX_stack = true := by decide +kernel
theorem g_X_stack_0 {lay : List Nat} {d : Nat} {P : PT} {G : KT} (hC : Clo lay (d + 1) mX_stack P G) {v0 : Nat} {v1 : Int32} {v2 : Int32} {μ : Mem}
    (h : (∃ P1 : PT, Rn lay d mX_makeNest [rf 15 v0] μ P1 ∧ ∀ μ1 : Mem, P1 none μ1 → (∃ P12 : PT, Rn lay d mSe_has [rf 12 (v0 + 115 + 1), vi v1] μ1 P12 ∧ ∀ (x12 : Int32) (μ12 : Mem), P12 (some (vi x12)) μ12 → ((x12 = 0 → (∃ P23 : PT, Rn lay d mX_refuseBad [rf 15 v0] μ12 P23 ∧ ∀ (x23 : Int32) (μ23 : Mem), P23 (some (vi x23)) μ23 → P (some (vi x23)) μ23)) ∧ (¬ x12 = 0 → ((0 ≤ v2 → (vp_in v1 15 ∧ (∃ P37 : PT, Rn lay d mSt_at [vi (μ12.1 (v0 + 115 + 5) v1.toNatClampNeg), vi v2] μ12 P37 ∧ ∀ (x37 : Int32) (μ37 : Mem), P37 (some (vi x37)) μ37 → P (some (vi x37)) μ37))) ∧ (¬ 0 ≤ v2 → (∃ P23 : PT, Rn lay d mX_refuseBad [rf 15 v0] μ12 P23 ∧ ∀ (x23 : Int32) (μ23 : Mem), P23 (some (vi x23)) μ23 → P (some (vi x23)) μ23)))))))) :
    G 0 [rf 15 v0, vi v1, vi v2] [] μ := seg hC [] 21 rfl h
theorem ok_X_least : okB mX_least = true := by decide +kernel
theorem g_X_least_0 {lay : List Nat} {d : Nat} {P : PT} {G : KT} (hC : Clo lay (d + 1) mX_least P G) {v0 : Nat} {μ : Mem}
    (h : (∃ P1 : PT, Rn lay d mX_makeNest [rf 15 v0] μ P1 ∧ ∀ μ1 : Mem, P1 none μ1 → P (some (vi (μ1.1 (v0 + 115) 9))) μ1)) :
    G 0 [rf 15 v0] [] μ := seg hC [] 9 rfl h
theorem ok_X_ways : okB mX_ways = true := by decide +kernel
theorem g_X_ways_0 {lay : List Nat} {d : Nat} {P : PT} {G : KT} (hC : Clo lay (d + 1) mX_ways P G) {v0 : Nat} {μ : Mem}
    (h : (∃ P1 : PT, Rn lay d mX_makeNest [rf 15 v0] μ P1 ∧ ∀ μ1 : Mem, P1 none μ1 → P (some (vi (μ1.1 (v0 + 115) 10))) μ1)) :
    G 0 [rf 15 v0] [] μ := seg hC [] 9 rfl h
theorem ok_X_plain : okB mX_plain = true := by decide +kernel
theorem g_X_plain_0 {lay : List Nat} {d : Nat} {P : PT} {G : KT} (hC : Clo lay (d + 1) mX_plain P G) {v0 : Nat} {μ : Mem}
    (h : (∃ P1 : PT, Rn lay d mX_makeNest [rf 15 v0] μ P1 ∧ ∀ μ1 : Mem, P1 none μ1 → P (some (vi (μ1.1 (v0 + 115) 11))) μ1)) :
    G 0 [rf 15 v0] [] μ := seg hC [] 9 rfl h
theorem ok_X_free : okB mX_free = true := by decide +kernel
theorem g_X_free_0 {lay : List Nat} {d : Nat} {P : PT} {G : KT} (hC : Clo lay (d + 1) mX_free P G) {v0 : Nat} {μ : Mem}
    (h : (∃ P3 : PT, Rn lay d mX_fewestWithout [rf 15 v0, vi (mI 0), vi (nI 1)] μ P3 ∧ ∀ (x3 : Int32) (μ3 : Mem), P3 (some (vi x3)) μ3 → P (some (vi x3)) μ3)) :
    G 0 [rf 15 v0] [] μ := seg hC [] 8 rfl h
theorem ok_X_without : okB mX_without = true := by decide +kernel
theorem g_X_without_0 {lay : List Nat} {d : Nat} {P : PT} {G : KT} (hC : Clo lay (d + 1) mX_without P G) {v0 : Nat} {v1 : Int32} {μ : Mem}
    (h : ((v1 < 0 → (∃ P10 : PT, Rn lay d mX_refuseBad [rf 15 v0] μ P10 ∧ ∀ (x10 : Int32) (μ10 : Mem), P10 (some (vi x10)) μ10 → P (some (vi x10)) μ10)) ∧ (¬ v1 < 0 → ((v1 ≤ (nI 1) → G 21 [rf 15 v0, vi v1, vi (mI 0), vi (mI 0), vi (nI 0), un] [] μ) ∧ (¬ v1 ≤ (nI 1) → (∃ P10 : PT, Rn lay d mX_refuseBad [rf 15 v0] μ P10 ∧ ∀ (x10 : Int32) (μ10 : Mem), P10 (some (vi x10)) μ10 → P (some (vi x10)) μ10)))))) :
    G 0 [rf 15 v0, vi v1, un, un, un, un] [] μ := seg hC [(21, [5]), (72, [0, 4, 5])] 14 rfl h
theorem g_X_without_21 {lay : List Nat} {d : Nat} {P : PT} {G : KT} (hC : Clo lay (d + 1) mX_without P G) {v0 : Nat} {v1 : Int32} {v2 : Int32} {v3 : Int32} {v4 : Int32} {μ : Mem}
    (h : (((μ.1 (v0 + 1) 4) ≤ v4 → G 72 [un, vi v1, vi v2, vi v3, un, un] [] μ) ∧ (¬ (μ.1 (v0 + 1) 4) ≤ v4 → (((nI 8) ≤ v4 → G 72 [un, vi v1, vi v2, vi v3, un, un] [] μ) ∧ (¬ (nI 8) ≤ v4 → (∃ P44 : PT, Rn lay d mX_fewestWithout [rf 15 v0, vi v4, vi (nI 0)] μ P44 ∧ ∀ (x44 : Int32) (μ44 : Mem), P44 (some (vi x44)) μ44 → ((v2 = (mI 0) → G 21 [rf 15 v0, vi v1, vi v4, vi x44, vi (v4 + nI 1), un] [] μ44) ∧ (¬ v2 = (mI 0) → ((v3 ≤ x44 → G 21 [rf 15 v0, vi v1, vi v2, vi v3, vi (v4 + nI 1), un] [] μ44) ∧ (¬ v3 ≤ x44 → G 21 [rf 15 v0, vi v1, vi v4, vi x44, vi (v4 + nI 1), un] [] μ44)))))))))) :
    G 21 [rf 15 v0, vi v1, vi v2, vi v3, vi v4, un] [] μ := seg hC [(21, [5]), (72, [0, 4, 5])] 28 rfl h
theorem g_X_without_72 {lay : List Nat} {d : Nat} {P : PT} {G : KT} (hC : Clo lay (d + 1) mX_without P G) {v1 : Int32} {v2 : Int32} {v3 : Int32} {μ : Mem}
    (h : ((¬ v1 = 0 → P (some (vi v3)) μ) ∧ (v1 = 0 → P (some (vi v2)) μ))) :
    G 72 [un, vi v1, vi v2, vi v3, un, un] [] μ := seg hC [(21, [5]), (72, [0, 4, 5])] 8 rfl h
theorem ok_X_nodes : okB mX_nodes = true := by decide +kernel
theorem g_X_nodes_0 {lay : List Nat} {d : Nat} {P : PT} {G : KT} (hC : Clo lay (d + 1) mX_nodes P G) {v0 : Nat} {μ : Mem}
    (h : (∃ P1 : PT, Rn lay d mX_makeNest [rf 15 v0] μ P1 ∧ ∀ μ1 : Mem, P1 none μ1 → P (some (vi (μ1.1 (v0 + 115) 8))) μ1)) :
    G 0 [rf 15 v0] [] μ := seg hC [] 9 rfl h
theorem ok_X_node : okB mX_node = true := by decide +kernel
theorem g_X_node_0 {lay : List Nat} {d : Nat} {P : PT} {G : KT} (hC : Clo lay (d + 1) mX_node P G) {v0 : Nat} {v1 : Int32} {v2 : Int32} {μ : Mem}
    (h : ((v1 < 0 → (∃ P14 : PT, Rn lay d mX_refuseBad [rf 15 v0] μ P14 ∧ ∀ (x14 : Int32) (μ14 : Mem), P14 (some (vi x14)) μ14 → P (some (vi x14)) μ14)) ∧ (¬ v1 < 0 → ((v2 < 0 → (∃ P14 : PT, Rn lay d mX_refuseBad [rf 15 v0] μ P14 ∧ ∀ (x14 : Int32) (μ14 : Mem), P14 (some (vi x14)) μ14 → P (some (vi x14)) μ14)) ∧ (¬ v2 < 0 → ((v2 ≤ (nI 4) → (∃ P19 : PT, Rn lay d mX_makeNest [rf 15 v0] μ P19 ∧ ∀ μ19 : Mem, P19 none μ19 → ((v1 < (μ19.1 (v0 + 115) 8) → ((v2 = nI 0 → (vp_in v1 83 ∧ P (some (vi (μ19.1 (v0 + 115 + 6) v1.toNatClampNeg))) μ19)) ∧ (¬ v2 = nI 0 → ((v2 = nI 1 → (vp_in v1 83 ∧ P (some (vi (μ19.1 (v0 + 115 + 7) v1.toNatClampNeg))) μ19)) ∧ (¬ v2 = nI 1 → ((v2 = nI 2 → (vp_in v1 83 ∧ P (some (vi (μ19.1 (v0 + 115 + 8) v1.toNatClampNeg))) μ19)) ∧ (¬ v2 = nI 2 → ((v2 = nI 3 → (vp_in v1 83 ∧ P (some (vi (μ19.1 (v0 + 115 + 9) v1.toNatClampNeg))) μ19)) ∧ (¬ v2 = nI 3 → (vp_in v1 83 ∧ P (some (vi (μ19.1 (v0 + 115 + 10) v1.toNatClampNeg))) μ19)))))))))) ∧ (¬ v1 < (μ19.1 (v0 + 115) 8) → P (some (vi (mI 0))) μ19)))) ∧ (¬ v2 ≤ (nI 4) → (∃ P14 : PT, Rn lay d mX_refuseBad [rf 15 v0] μ P14 ∧ ∀ (x14 : Int32) (μ14 : Mem), P14 (some (vi x14)) μ14 → P (some (vi x14)) μ14)))))))) :
    G 0 [rf 15 v0, vi v1, vi v2] [] μ := seg hC [] 25 rfl h
theorem ok_X_all : okB mX_all = true := by decide +kernel
theorem g_X_all_0 {lay : List Nat} {d : Nat} {P : PT} {G : KT} (hC : Clo lay (d + 1) mX_all P G) {v0 : Nat} {v1 : Int32} {μ : Mem}
    (h : ((v1 < 0 → (∃ P10 : PT, Rn lay d mX_refuseBad [rf 15 v0] μ P10 ∧ ∀ (x10 : Int32) (μ10 : Mem), P10 (some (vi x10)) μ10 → P (some (vi x10)) μ10)) ∧ (¬ v1 < 0 → ((v1 ≤ (nI 4) → (∃ P15 : PT, Rn lay d mX_makeNest [rf 15 v0] μ P15 ∧ ∀ μ15 : Mem, P15 none μ15 → ((v1 = nI 0 → (∃ P52 : PT, Rn lay d mNe_greatestDepth [rf 11 (v0 + 115)] μ15 P52 ∧ ∀ (x52 : Int32) (μ52 : Mem), P52 (some (vi x52)) μ52 → P (some (vi x52)) μ52)) ∧ (¬ v1 = nI 0 → ((v1 = nI 1 → (∃ P60 : PT, Rn lay d mNe_depthsTogether [rf 11 (v0 + 115)] μ15 P60 ∧ ∀ (x60 : Int32) (μ60 : Mem), P60 (some (vi x60)) μ60 → P (some (vi x60)) μ60)) ∧ (¬ v1 = nI 1 → ((v1 = nI 2 → (∃ P68 : PT, Rn lay d mNe_howManyEmpty [rf 11 (v0 + 115)] μ15 P68 ∧ ∀ (x68 : Int32) (μ68 : Mem), P68 (some (vi x68)) μ68 → P (some (vi x68)) μ68)) ∧ (¬ v1 = nI 2 → ((v1 = nI 3 → (∃ P76 : PT, Rn lay d mNe_longest [rf 11 (v0 + 115)] μ15 P76 ∧ ∀ (x76 : Int32) (μ76 : Mem), P76 (some (vi x76)) μ76 → P (some (vi x76)) μ76)) ∧ (¬ v1 = nI 3 → (∃ P84 : PT, Rn lay d mNe_howManyInNone [rf 11 (v0 + 115)] μ15 P84 ∧ ∀ (x84 : Int32) (μ84 : Mem), P84 (some (vi x84)) μ84 → P (some (vi x84)) μ84))))))))))) ∧ (¬ v1 ≤ (nI 4) → (∃ P10 : PT, Rn lay d mX_refuseBad [rf 15 v0] μ P10 ∧ ∀ (x10 : Int32) (μ10 : Mem), P10 (some (vi x10)) μ10 → P (some (vi x10)) μ10)))))) :
    G 0 [rf 15 v0, vi v1] [] μ := seg hC [] 16 rfl h
theorem ok_X_draw : okB mX_draw = true := by decide +kernel
theorem g_X_draw_0 {lay : List Nat} {d : Nat} {P : PT} {G : KT} (hC : Clo lay (d + 1) mX_draw P G) {v0 : Nat} {v1 : Int32} {v2 : Int32} {μ : Mem}
    (h : ((v1 < 0 → (∃ P21 : PT, Rn lay d mX_refuseBad [rf 15 v0] μ P21 ∧ ∀ (x21 : Int32) (μ21 : Mem), P21 (some (vi x21)) μ21 → P (some (vi x21)) μ21)) ∧ (¬ v1 < 0 → (((nI 999999) < v1 → (∃ P21 : PT, Rn lay d mX_refuseBad [rf 15 v0] μ P21 ∧ ∀ (x21 : Int32) (μ21 : Mem), P21 (some (vi x21)) μ21 → P (some (vi x21)) μ21)) ∧ (¬ (nI 999999) < v1 → ((v2 < 0 → (∃ P21 : PT, Rn lay d mX_refuseBad [rf 15 v0] μ P21 ∧ ∀ (x21 : Int32) (μ21 : Mem), P21 (some (vi x21)) μ21 → P (some (vi x21)) μ21)) ∧ (¬ v2 < 0 → ((v2 ≤ (nI 8) → (∃ P33 : PT, Rn lay d mTe_copy [rf 13 (v0 + 6), rf 13 (v0 + 1)] μ P33 ∧ ∀ μ33 : Mem, P33 none μ33 → G 50 [rf 15 v0, un, vi v2, vl v1.toInt64, un, vi (nI 0), un, un, un] [] (upI μ33 (v0 + 6) 4 (nI 0)))) ∧ (¬ v2 ≤ (nI 8) → (∃ P21 : PT, Rn lay d mX_refuseBad [rf 15 v0] μ P21 ∧ ∀ (x21 : Int32) (μ21 : Mem), P21 (some (vi x21)) μ21 → P (some (vi x21)) μ21)))))))))) :
    G 0 [rf 15 v0, vi v1, vi v2, un, un, un, un, un, un] [] μ := seg hC [(50, [1, 4, 6, 7, 8]), (70, [1, 4, 6, 7, 8]), (110, [1, 4]), (166, [1, 2, 3, 4, 5, 6, 7, 8])] 27 rfl h
theorem g_X_draw_50 {lay : List Nat} {d : Nat} {P : PT} {G : KT} (hC : Clo lay (d + 1) mX_draw P G) {v0 : Nat} {v2 : Int32} {v3 : Int64} {v5 : Int32} {μ : Mem}
    (h : ((v2 ≤ v5 → G 166 [rf 15 v0, un, un, un, un, un, un, un, un] [] μ) ∧ (¬ v2 ≤ v5 → (¬ (lN 2147483648) = 0 ∧ G 70 [rf 15 v0, un, vi v2, vl (((v3 * (lN 1103515245)) + (lN 12345)) - ((v3 * (lN 1103515245)) + (lN 12345)) / (lN 2147483648) * (lN 2147483648)), un, vi v5, un, un, un] [] μ)))) :
    G 50 [rf 15 v0, un, vi v2, vl v3, un, vi v5, un, un, un] [] μ := seg hC [(50, [1, 4, 6, 7, 8]), (70, [1, 4, 6, 7, 8]), (110, [1, 4]), (166, [1, 2, 3, 4, 5, 6, 7, 8])] 14 rfl h
theorem g_X_draw_70 {lay : List Nat} {d : Nat} {P : PT} {G : KT} (hC : Clo lay (d + 1) mX_draw P G) {v0 : Nat} {v2 : Int32} {v3 : Int64} {v5 : Int32} {μ : Mem}
    (h : (¬ (lN 1024) = 0 ∧ (∃ P79 : PT, Rn lay d mTe_placeBy [rf 13 (v0 + 6), vl (v3 / (lN 1024))] μ P79 ∧ ∀ (x79 : Int32) (μ79 : Mem), P79 (some (vi x79)) μ79 → (¬ (lN 32768) = 0 ∧ (∃ P93 : PT, Rn lay d mTe_placeBy [rf 13 (v0 + 6), vl (v3 / (lN 32768))] μ79 P93 ∧ ∀ (x93 : Int32) (μ93 : Mem), P93 (some (vi x93)) μ93 → (¬ (lN 65536) = 0 ∧ (¬ (lN 4) = 0 ∧ G 110 [rf 15 v0, un, vi v2, vl v3, un, vi v5, vi x79, vi x93, vi (((v3 / (lN 65536)) - (v3 / (lN 65536)) / (lN 4) * (lN 4)).toInt32)] [] μ93))))))) :
    G 70 [rf 15 v0, un, vi v2, vl v3, un, vi v5, un, un, un] [] μ := seg hC [(50, [1, 4, 6, 7, 8]), (70, [1, 4, 6, 7, 8]), (110, [1, 4]), (166, [1, 2, 3, 4, 5, 6, 7, 8])] 24 rfl h
theorem g_X_draw_110 {lay : List Nat} {d : Nat} {P : PT} {G : KT} (hC : Clo lay (d + 1) mX_draw P G) {v0 : Nat} {v2 : Int32} {v3 : Int64} {v5 : Int32} {v6 : Int32} {v7 : Int32} {v8 : Int32} {μ : Mem}
    (h : (∃ P130 : PT, Rn lay d mTe_append [rf 13 (v0 + 6), vi v8, vi (if v7 < v6 then v7 else v6), vi (if v6 < v7 then v7 else v6)] μ P130 ∧ ∀ (x130 : Int32) (μ130 : Mem), P130 (some (vi x130)) μ130 → (∃ P138 : PT, Rn lay d mTe_isCrowded [rf 13 (v0 + 6)] μ130 P138 ∧ ∀ (x138 : Int32) (μ138 : Mem), P138 (some (vi x138)) μ138 → ((x138 = 0 → G 50 [rf 15 v0, un, vi v2, vl v3, un, vi (v5 + nI 1), un, un, un] [] μ138) ∧ (¬ x138 = 0 → (∃ P157 : PT, Rn lay d mTe_remove [rf 13 (v0 + 6), vi ((μ138.1 (v0 + 6) 4) - (nI 1))] μ138 P157 ∧ ∀ μ157 : Mem, P157 none μ157 → G 50 [rf 15 v0, un, vi v2, vl v3, un, vi (v5 + nI 1), un, un, un] [] μ157)))))) :
    G 110 [rf 15 v0, un, vi v2, vl v3, un, vi v5, vi v6, vi v7, vi v8] [] μ := seg hC [(50, [1, 4, 6, 7, 8]), (70, [1, 4, 6, 7, 8]), (110, [1, 4]), (166, [1, 2, 3, 4, 5, 6, 7, 8])] 28 rfl h
theorem g_X_draw_166 {lay : List Nat} {d : Nat} {P : PT} {G : KT} (hC : Clo lay (d + 1) mX_draw P G) {v0 : Nat} {μ : Mem}
    (h : (∃ P167 : PT, Rn lay d mX_settle [rf 15 v0] μ P167 ∧ ∀ μ167 : Mem, P167 none μ167 → P (some (vi (μ167.1 (v0 + 1) 4))) μ167)) :
    G 166 [rf 15 v0, un, un, un, un, un, un, un, un] [] μ := seg hC [(50, [1, 4, 6, 7, 8]), (70, [1, 4, 6, 7, 8]), (110, [1, 4]), (166, [1, 2, 3, 4, 5, 6, 7, 8])] 9 rfl h
theorem ok_X_told : okB mX_told = true := by decide +kernel
theorem g_X_told_0 {lay : List Nat} {d : Nat} {P : PT} {G : KT} (hC : Clo lay (d + 1) mX_told P G) {v0 : Nat} {v1 : Int32} {μ : Mem}
    (h : ((v1 = nI 0 → P (some (vi (μ.1 v0 7))) μ) ∧ (¬ v1 = nI 0 → ((v1 = nI 1 → P (some (vi (μ.1 v0 8))) μ) ∧ (¬ v1 = nI 1 → ((v1 = nI 2 → P (some (vi (μ.1 v0 9))) μ) ∧ (¬ v1 = nI 2 → ((v1 = nI 3 → P (some (vi (μ.1 (v0 + 1) 4))) μ) ∧ (¬ v1 = nI 3 → ((v1 = nI 4 → P (some (vi (μ.1 (v0 + 1) 5))) μ) ∧ (¬ v1 = nI 4 → ((v1 = nI 5 → (∃ P80 : PT, Rn lay d mX_makeNest [rf 15 v0] μ P80 ∧ ∀ μ80 : Mem, P80 none μ80 → P (some (vi (μ80.1 (v0 + 115 + 1) 4))) μ80)) ∧ (¬ v1 = nI 5 → ((v1 = nI 6 → P (some (vi (μ.1 (v0 + 11) 2))) μ) ∧ (¬ v1 = nI 6 → ((v1 = nI 7 → (∃ P106 : PT, Rn lay d mTe_ranksAsOne [rf 13 (v0 + 1)] μ P106 ∧ ∀ (x106 : Int32) (μ106 : Mem), P106 (some (vi x106)) μ106 → P (some (vi x106)) μ106)) ∧ (¬ v1 = nI 7 → (∃ P111 : PT, Rn lay d mX_refuseBad [rf 15 v0] μ P111 ∧ ∀ (x111 : Int32) (μ111 : Mem), P111 (some (vi x111)) μ111 → P (some (vi x111)) μ111)))))))))))))))))) :
    G 0 [rf 15 v0, vi v1] [] μ := seg hC [] 12 rfl h
theorem ok_X_digest : okB mX_digest = true := by decide +kernel
theorem g_X_digest_0 {lay : List Nat} {d : Nat} {P : PT} {G : KT} (hC : Clo lay (d + 1) mX_digest P G) {v0 : Nat} {μ : Mem}
    (h : G 6 [rf 15 v0, vl (lN 1951), un, vi (nI 0)] [] μ) :
    G 0 [rf 15 v0, un, un, un] [] μ := seg hC [(6, [2]), (33, [2]), (107, [2, 3])] 7 rfl h
theorem g_X_digest_6 {lay : List Nat} {d : Nat} {P : PT} {G : KT} (hC : Clo lay (d + 1) mX_digest P G) {v0 : Nat} {v1 : Int64} {v3 : Int32} {μ : Mem}
    (h : (((nI 7) < v3 → G 33 [rf 15 v0, vl v1, un, vi (nI 0)] [] μ) ∧ (¬ (nI 7) < v3 → (∃ P19 : PT, Rn lay d mX_told [rf 15 v0, vi v3] μ P19 ∧ ∀ (x19 : Int32) (μ19 : Mem), P19 (some (vi x19)) μ19 → G 6 [rf 15 v0, vl (((lN 31) * v1) + x19.toInt64), un, vi (v3 + nI 1)] [] μ19)))) :
    G 6 [rf 15 v0, vl v1, un, vi v3] [] μ := seg hC [(6, [2]), (33, [2]), (107, [2, 3])] 17 rfl h
theorem g_X_digest_33 {lay : List Nat} {d : Nat} {P : PT} {G : KT} (hC : Clo lay (d + 1) mX_digest P G) {v0 : Nat} {v1 : Int64} {v3 : Int32} {μ : Mem}
    (h : (((μ.1 (v0 + 1) 4) ≤ v3 → G 107 [rf 15 v0, vl v1, un, un] [] μ) ∧ (¬ (μ.1 (v0 + 1) 4) ≤ v3 → (((nI 8) ≤ v3 → G 107 [rf 15 v0, vl v1, un, un] [] μ) ∧ (¬ (nI 8) ≤ v3 → (vp_in v3 8 ∧ (vp_in v3 8 ∧ (vp_in v3 8 ∧ G 33 [rf 15 v0, vl (((lN 31) * (((lN 31) * (((lN 31) * v1) + ((μ.1 (v0 + 1 + 1) v3.toNatClampNeg).toInt64))) + ((μ.1 (v0 + 1 + 2) v3.toNatClampNeg).toInt64))) + ((μ.1 (v0 + 1 + 3) v3.toNatClampNeg).toInt64)), un, vi (v3 + nI 1)] [] μ)))))))) :
    G 33 [rf 15 v0, vl v1, un, vi v3] [] μ := seg hC [(6, [2]), (33, [2]), (107, [2, 3])] 46 rfl h
theorem g_X_digest_107 {lay : List Nat} {d : Nat} {P : PT} {G : KT} (hC : Clo lay (d + 1) mX_digest P G) {v0 : Nat} {v1 : Int64} {μ : Mem}
    (h : (∃ P113 : PT, Rn lay d mX_least [rf 15 v0] μ P113 ∧ ∀ (x113 : Int32) (μ113 : Mem), P113 (some (vi x113)) μ113 → (∃ P125 : PT, Rn lay d mX_nodes [rf 15 v0] μ113 P125 ∧ ∀ (x125 : Int32) (μ125 : Mem), P125 (some (vi x125)) μ125 → P (some (vl (((lN 31) * (((lN 31) * v1) + x113.toInt64)) + x125.toInt64))) μ125))) :
    G 107 [rf 15 v0, vl v1, un, un] [] μ := seg hC [(6, [2]), (33, [2]), (107, [2, 3])] 19 rfl h
theorem ok_X_refuseBad : okB mX_refuseBad = true := by decide +kernel
theorem g_X_refuseBad_0 {lay : List Nat} {d : Nat} {P : PT} {G : KT} (hC : Clo lay d mX_refuseBad P G) {v0 : Nat} {μ : Mem}
    (h : P (some (vi (mI 1))) (upI μ v0 7 ((μ.1 v0 7) + (nI 1)))) :
    G 0 [rf 15 v0] [] μ := seg hC [] 11 rfl h
theorem ok_X_refuseFull : okB mX_refuseFull = true := by decide +kernel
theorem g_X_refuseFull_0 {lay : List Nat} {d : Nat} {P : PT} {G : KT} (hC : Clo lay d mX_refuseFull P G) {v0 : Nat} {μ : Mem}
    (h : P (some (vi (mI 3))) (upI μ v0 9 ((μ.1 v0 9) + (nI 1)))) :
    G 0 [rf 15 v0] [] μ := seg hC [] 11 rfl h
theorem ok_X_settle : okB mX_settle = true := by decide +kernel
theorem g_X_settle_0 {lay : List Nat} {d : Nat} {P : PT} {G : KT} (hC : Clo lay (d + 1) mX_settle P G) {v0 : Nat} {μ : Mem}
    (h : (∃ P8 : PT, Rn lay d mHi_keep [rf 10 (v0 + 11), rf 13 (v0 + 1)] μ P8 ∧ ∀ μ8 : Mem, P8 none μ8 → (∃ P19 : PT, Rn lay d mTe_copy [rf 13 (v0 + 1), rf 13 (v0 + 6)] μ8 P19 ∧ ∀ μ19 : Mem, P19 none μ19 → P none (upI μ19 v0 6 (nI 0))))) :
    G 0 [rf 15 v0] [] μ := seg hC [] 17 rfl ((match h with | ⟨P8, c8, f8⟩ => ⟨P8, c8, fun μ8 y8 => (fun h8 => (match h8 with | ⟨P19, c19, f19⟩ => ⟨P19, c19, fun μ19 y19 => (fun h19 => ⟨Or.inl (by decide), h19⟩) (f19 μ19 y19)⟩)) (f8 μ8 y8)⟩))
theorem ok_X_makeNest : okB mX_makeNest = true := by decide +kernel
theorem g_X_makeNest_0 {lay : List Nat} {d : Nat} {P : PT} {G : KT} (hC : Clo lay (d + 1) mX_makeNest P G) {v0 : Nat} {μ : Mem}
    (h : (((μ.1 v0 6) = 0 → (∃ P20 : PT, Rn lay d mSe_cut [rf 12 (v0 + 115 + 1), rf 13 (v0 + 1), vi (mI 0)] μ P20 ∧ ∀ μ20 : Mem, P20 none μ20 → (∃ P39 : PT, Rn lay d mWe_weigh [rf 14 (v0 + 73), rf 13 (v0 + 1), rf 12 (v0 + 115 + 1), vi (nI 0)] μ20 P39 ∧ ∀ μ39 : Mem, P39 none μ39 → (∃ P85 : PT, Rn lay d mWe_splitsOfFirst [rf 14 (v0 + 73), rf 12 (v0 + 115 + 1)] (upI (upI μ39 (v0 + 115) 9 (μ39.1 (v0 + 73) 6)) (v0 + 115) 10 ((upI μ39 (v0 + 115) 9 (μ39.1 (v0 + 73) 6)).1 (v0 + 73) 7)) P85 ∧ ∀ (x85 : Int32) (μ85 : Mem), P85 (some (vi x85)) μ85 → (∃ P109 : PT, Rn lay d mWe_choose [rf 14 (v0 + 73), rf 12 (v0 + 115 + 1), rf 10015 (v0 + 115 + 5)] (upI μ85 (v0 + 115) 11 x85) P109 ∧ ∀ μ109 : Mem, P109 none μ109 → (∃ P120 : PT, Rn lay d mNe_layNodes [rf 11 (v0 + 115), rf 13 (v0 + 1)] μ109 P120 ∧ ∀ μ120 : Mem, P120 none μ120 → P none (upI μ120 v0 6 (nI 1)))))))) ∧ (¬ (μ.1 v0 6) = 0 → P none μ))) :
    G 0 [rf 15 v0] [] μ := seg hC [] 61 rfl (⟨fun q1 => (match (h.1 q1) with | ⟨P20, c20, f20⟩ => ⟨P20, c20, fun μ20 y20 => (fun h20 => (match h20 with | ⟨P39, c39, f39⟩ => ⟨P39, c39, fun μ39 y39 => (fun h39 => (match h39 with | ⟨P85, c85, f85⟩ => ⟨P85, c85, fun x85 μ85 y85 => (fun h85 => (match h85 with | ⟨P109, c109, f109⟩ => ⟨P109, c109, fun μ109 y109 => (fun h109 => (match h109 with | ⟨P120, c120, f120⟩ => ⟨P120, c120, fun μ120 y120 => (fun h120 => ⟨Or.inr (by decide), h120⟩) (f120 μ120 y120)⟩)) (f109 μ109 y109)⟩)) (f85 x85 μ85 y85)⟩)) (f39 μ39 y39)⟩)) (f20 μ20 y20)⟩), fun q1 => (h.2 q1)⟩)
theorem ok_X_fewestWithout : okB mX_fewestWithout = true := by decide +kernel
theorem g_X_fewestWithout_0 {lay : List Nat} {d : Nat} {P : PT} {G : KT} (hC : Clo lay (d + 1) mX_fewestWithout P G) {v0 : Nat} {v1 : Int32} {v2 : Int32} {μ : Mem}
    (h : (∃ P9 : PT, Rn lay d mSe_cut [rf 12 (v0 + 111), rf 13 (v0 + 1), vi v1] μ P9 ∧ ∀ μ9 : Mem, P9 none μ9 → (∃ P25 : PT, Rn lay d mWe_weigh [rf 14 (v0 + 73), rf 13 (v0 + 1), rf 12 (v0 + 111), vi v2] μ9 P25 ∧ ∀ μ25 : Mem, P25 none μ25 → P (some (vi (μ25.1 (v0 + 73) 6))) μ25))) :
    G 0 [rf 15 v0, vi v1, vi v2] [] μ := seg hC [] 21 rfl h
end
section
theorem ok_M_bad : okB mM_bad = true := by decide +kernel
theorem g_M_bad_0 {lay : List Nat} {d : Nat} {P : PT} {G : KT} (hC : Clo lay d mM_bad P G) {v0 : Nat} {μ : Mem}
    (h : (vp_in (nI 0) 3 ∧ (vp_in (nI 0) 3 ∧ P (some (vi (mI 1))) (upI μ (v0 + 1) (nI 0).toNatClampNeg ((μ.1 (v0 + 1) (nI 0).toNatClampNeg) + (nI 1)))))) :
    G 0 [rf 16 v0] [] μ := seg hC [] 13 rfl h
theorem ok_M_no : okB mM_no = true := by decide +kernel
theorem g_M_no_0 {lay : List Nat} {d : Nat} {P : PT} {G : KT} (hC : Clo lay d mM_no P G) {v0 : Nat} {μ : Mem}
    (h : (vp_in (nI 1) 3 ∧ (vp_in (nI 1) 3 ∧ P (some (vi (mI 2))) (upI μ (v0 + 1) (nI 1).toNatClampNeg ((μ.1 (v0 + 1) (nI 1).toNatClampNeg) + (nI 1)))))) :
    G 0 [rf 16 v0] [] μ := seg hC [] 13 rfl h
theorem ok_M_full : okB mM_full = true := by decide +kernel
theorem g_M_full_0 {lay : List Nat} {d : Nat} {P : PT} {G : KT} (hC : Clo lay d mM_full P G) {v0 : Nat} {μ : Mem}
    (h : (vp_in (nI 2) 3 ∧ (vp_in (nI 2) 3 ∧ P (some (vi (mI 3))) (upI μ (v0 + 1) (nI 2).toNatClampNeg ((μ.1 (v0 + 1) (nI 2).toNatClampNeg) + (nI 1)))))) :
    G 0 [rf 16 v0] [] μ := seg hC [] 13 rfl h
theorem ok_M_in : okB mM_in = true := by decide +kernel
theorem g_M_in_0 {lay : List Nat} {d : Nat} {P : PT} {G : KT} (hC : Clo lay d mM_in P G) {v0 : Int32} {v1 : Int32} {v2 : Int32} {μ : Mem}
    (h : ((v0 < v1 → P (some (vi (nI 0))) μ) ∧ (¬ v0 < v1 → ((v2 < v0 → P (some (vi (nI 0))) μ) ∧ (¬ v2 < v0 → P (some (vi (nI 1))) μ))))) :
    G 0 [vi v0, vi v1, vi v2] [] μ := seg hC [] 12 rfl (⟨fun q1 => ⟨Or.inl (by decide), (h.1 q1)⟩, fun q1 => ⟨fun q2 => ⟨Or.inl (by decide), ((h.2 q1).1 q2)⟩, fun q2 => ⟨Or.inr (by decide), ((h.2 q1).2 q2)⟩⟩⟩)
theorem ok_M_has : okB mM_has = true := by decide +kernel
theorem g_M_has_0 {lay : List Nat} {d : Nat} {P : PT} {G : KT} (hC : Clo lay d mM_has P G) {v0 : Int32} {v1 : Int32} {μ : Mem}
    (h : ((¬ ((v0 >>> (v1 &&& 31)) &&& (nI 1)) = (nI 1) → P (some (vi (nI 0))) μ) ∧ (((v0 >>> (v1 &&& 31)) &&& (nI 1)) = (nI 1) → P (some (vi (nI 1))) μ))) :
    G 0 [vi v0, vi v1] [] μ := seg hC [] 13 rfl (⟨fun q1 => ⟨Or.inl (by decide), (h.1 q1)⟩, fun q1 => ⟨Or.inr (by decide), (h.2 q1)⟩⟩)
theorem ok_M_bits : okB mM_bits = true := by decide +kernel
theorem g_M_bits_0 {lay : List Nat} {d : Nat} {P : PT} {G : KT} (hC : Clo lay d mM_bits P G) {v0 : Int32} {μ : Mem}
    (h : G 4 [vi v0, vi (nI 0), vi (nI 0)] [] μ) :
    G 0 [vi v0, un, un] [] μ := seg hC [(4, [])] 7 rfl h
theorem g_M_bits_4 {lay : List Nat} {d : Nat} {P : PT} {G : KT} (hC : Clo lay d mM_bits P G) {v0 : Int32} {v1 : Int32} {v2 : Int32} {μ : Mem}
    (h : (((nI 8) ≤ v2 → P (some (vi v1)) μ) ∧ (¬ (nI 8) ≤ v2 → G 4 [vi v0, vi (v1 + ((v0 >>> (v2 &&& 31)) &&& (nI 1))), vi (v2 + nI 1)] [] μ))) :
    G 4 [vi v0, vi v1, vi v2] [] μ := seg hC [(4, [])] 16 rfl h
theorem ok_M_begins : okB mM_begins = true := by decide +kernel
theorem g_M_begins_0 {lay : List Nat} {d : Nat} {P : PT} {G : KT} (hC : Clo lay d mM_begins P G) {v0 : Nat} {v1 : Int32} {μ : Mem}
    (h : G 17 [rf 16 v0, un, vi (nI 0)] [] (upI (upI (upI μ v0 1 v1) v0 2 (nI 0)) v0 8 (nI 0))) :
    G 0 [rf 16 v0, vi v1, un] [] μ := seg hC [(17, [1])] 14 rfl h
theorem g_M_begins_17 {lay : List Nat} {d : Nat} {P : PT} {G : KT} (hC : Clo lay d mM_begins P G) {v0 : Nat} {v2 : Int32} {μ : Mem}
    (h : (((nI 4) ≤ v2 → P none μ) ∧ (¬ (nI 4) ≤ v2 → (vp_in v2 4 ∧ G 17 [rf 16 v0, un, vi (v2 + nI 1)] [] (upI μ (v0 + 5) v2.toNatClampNeg v2))))) :
    G 17 [rf 16 v0, un, vi v2] [] μ := seg hC [(17, [1])] 13 rfl h
theorem ok_M_isRange : okB mM_isRange = true := by decide +kernel
theorem g_M_isRange_0 {lay : List Nat} {d : Nat} {P : PT} {G : KT} (hC : Clo lay (d + 1) mM_isRange P G) {v0 : Nat} {v1 : Int32} {μ : Mem}
    (h : (∃ P8 : PT, Rn lay d mM_in [vi v1, vi (nI 0), vi ((μ.1 v0 2) - (nI 1))] μ P8 ∧ ∀ (x8 : Int32) (μ8 : Mem), P8 (some (vi x8)) μ8 → ((x8 = 0 ∨ x8 = 1) ∧ P (some (vi x8)) μ8))) :
    G 0 [rf 16 v0, vi v1] [] μ := seg hC [] 11 rfl h
theorem ok_M_isKind : okB mM_isKind = true := by decide +kernel
theorem g_M_isKind_0 {lay : List Nat} {d : Nat} {P : PT} {G : KT} (hC : Clo lay (d + 1) mM_isKind P G) {v0 : Int32} {μ : Mem}
    (h : (∃ P3 : PT, Rn lay d mM_in [vi v0, vi (nI 0), vi (nI 3)] μ P3 ∧ ∀ (x3 : Int32) (μ3 : Mem), P3 (some (vi x3)) μ3 → ((x3 = 0 ∨ x3 = 1) ∧ P (some (vi x3)) μ3))) :
    G 0 [vi v0] [] μ := seg hC [] 8 rfl h
theorem ok_M_isFromTo : okB mM_isFromTo = true := by decide +kernel
theorem g_M_isFromTo_0 {lay : List Nat} {d : Nat} {P : PT} {G : KT} (hC : Clo lay (d + 1) mM_isFromTo P G) {v0 : Nat} {v1 : Int32} {v2 : Int32} {μ : Mem}
    (h : (∃ P3 : PT, Rn lay d mM_in [vi v1, vi (nI 0), vi v2] μ P3 ∧ ∀ (x3 : Int32) (μ3 : Mem), P3 (some (vi x3)) μ3 → ((x3 = 0 → P (some (vi (nI 0))) μ3) ∧ (¬ x3 = 0 → (((μ3.1 v0 1) < v2 → P (some (vi (nI 0))) μ3) ∧ (¬ (μ3.1 v0 1) < v2 → P (some (vi (nI 1))) μ3)))))) :
    G 0 [rf 16 v0, vi v1, vi v2] [] μ := seg hC [] 15 rfl ((match h with | ⟨P3, c3, f3⟩ => ⟨P3, c3, fun x3 μ3 y3 => (fun h3 => ⟨fun q1 => ⟨Or.inl (by decide), (h3.1 q1)⟩, fun q1 => ⟨fun q2 => ⟨Or.inl (by decide), ((h3.2 q1).1 q2)⟩, fun q2 => ⟨Or.inr (by decide), ((h3.2 q1).2 q2)⟩⟩⟩) (f3 x3 μ3 y3)⟩))
theorem ok_M_isEmpty : okB mM_isEmpty = true := by decide +kernel
theorem g_M_isEmpty_0 {lay : List Nat} {d : Nat} {P : PT} {G : KT} (hC : Clo lay d mM_isEmpty P G) {v0 : Nat} {v1 : Int32} {μ : Mem}
    (h : (vp_in v1 9 ∧ (vp_in v1 9 ∧ ((¬ (μ.1 (v0 + 3) v1.toNatClampNeg) = (μ.1 (v0 + 4) v1.toNatClampNeg) → P (some (vi (nI 0))) μ) ∧ ((μ.1 (v0 + 3) v1.toNatClampNeg) = (μ.1 (v0 + 4) v1.toNatClampNeg) → P (some (vi (nI 1))) μ))))) :
    G 0 [rf 16 v0, vi v1] [] μ := seg hC [] 15 rfl (⟨h.1, ⟨h.2.1, ⟨fun q1 => ⟨Or.inl (by decide), (h.2.2.1 q1)⟩, fun q1 => ⟨Or.inr (by decide), (h.2.2.2 q1)⟩⟩⟩⟩)
theorem ok_M_coverMany : okB mM_coverMany = true := by decide +kernel
theorem g_M_coverMany_0 {lay : List Nat} {d : Nat} {P : PT} {G : KT} (hC : Clo lay d mM_coverMany P G) {v0 : Nat} {v1 : Int32} {μ : Mem}
    (h : G 4 [rf 16 v0, vi v1, vi (nI 0), vi (nI 0)] [] μ) :
    G 0 [rf 16 v0, vi v1, un, un] [] μ := seg hC [(4, [])] 7 rfl h
theorem g_M_coverMany_4 {lay : List Nat} {d : Nat} {P : PT} {G : KT} (hC : Clo lay d mM_coverMany P G) {v0 : Nat} {v1 : Int32} {v2 : Int32} {v3 : Int32} {μ : Mem}
    (h : (((μ.1 v0 2) ≤ v3 → P (some (vi v2)) μ) ∧ (¬ (μ.1 v0 2) ≤ v3 → (vp_in v3 9 ∧ ((v1 < (μ.1 (v0 + 3) v3.toNatClampNeg) → G 4 [rf 16 v0, vi v1, vi (v2 + (nI 0)), vi (v3 + nI 1)] [] μ) ∧ (¬ v1 < (μ.1 (v0 + 3) v3.toNatClampNeg) → (vp_in v3 9 ∧ (((μ.1 (v0 + 4) v3.toNatClampNeg) ≤ v1 → G 4 [rf 16 v0, vi v1, vi (v2 + (nI 0)), vi (v3 + nI 1)] [] μ) ∧ (¬ (μ.1 (v0 + 4) v3.toNatClampNeg) ≤ v1 → G 4 [rf 16 v0, vi v1, vi (v2 + (nI 1)), vi (v3 + nI 1)] [] μ))))))))) :
    G 4 [rf 16 v0, vi v1, vi v2, vi v3] [] μ := seg hC [(4, [])] 26 rfl h
theorem ok_M_isTooMuch : okB mM_isTooMuch = true := by decide +kernel
theorem g_M_isTooMuch_0 {lay : List Nat} {d : Nat} {P : PT} {G : KT} (hC : Clo lay (d + 1) mM_isTooMuch P G) {v0 : Nat} {μ : Mem}
    (h : G 4 [rf 16 v0, vi (nI 0), vi (nI 0)] [] μ) :
    G 0 [rf 16 v0, un, un] [] μ := seg hC [(4, [])] 7 rfl h
theorem g_M_isTooMuch_4 {lay : List Nat} {d : Nat} {P : PT} {G : KT} (hC : Clo lay (d + 1) mM_isTooMuch P G) {v0 : Nat} {v1 : Int32} {v2 : Int32} {μ : Mem}
    (h : (((μ.1 v0 1) ≤ v2 → ((v1 = 0 ∨ v1 = 1) ∧ P (some (vi v1)) μ)) ∧ (¬ (μ.1 v0 1) ≤ v2 → ((¬ v1 = 0 → G 4 [rf 16 v0, vi (nI 1), vi (v2 + nI 1)] [] μ) ∧ (v1 = 0 → (∃ P18 : PT, Rn lay d mM_coverMany [rf 16 v0, vi v2] μ P18 ∧ ∀ (x18 : Int32) (μ18 : Mem), P18 (some (vi x18)) μ18 → ((x18 ≤ (nI 5) → G 4 [rf 16 v0, vi (nI 0), vi (v2 + nI 1)] [] μ18) ∧ (¬ x18 ≤ (nI 5) → G 4 [rf 16 v0, vi (nI 1), vi (v2 + nI 1)] [] μ18)))))))) :
    G 4 [rf 16 v0, vi v1, vi v2] [] μ := seg hC [(4, [])] 19 rfl h
theorem ok_M_comes : okB mM_comes = true := by decide +kernel
theorem g_M_comes_0 {lay : List Nat} {d : Nat} {P : PT} {G : KT} (hC : Clo lay d mM_comes P G) {v0 : Nat} {v1 : Int32} {v2 : Int32} {v3 : Int32} {μ : Mem}
    (h : (vp_in (μ.1 v0 2) 9 ∧ (vp_in ((upI μ (v0 + 2) (μ.1 v0 2).toNatClampNeg v1).1 v0 2) 9 ∧ (vp_in ((upI (upI μ (v0 + 2) (μ.1 v0 2).toNatClampNeg v1) (v0 + 3) ((upI μ (v0 + 2) (μ.1 v0 2).toNatClampNeg v1).1 v0 2).toNatClampNeg v2).1 v0 2) 9 ∧ P none (upI (upI (upI (upI μ (v0 + 2) (μ.1 v0 2).toNatClampNeg v1) (v0 + 3) ((upI μ (v0 + 2) (μ.1 v0 2).toNatClampNeg v1).1 v0 2).toNatClampNeg v2) (v0 + 4) ((upI (upI μ (v0 + 2) (μ.1 v0 2).toNatClampNeg v1) (v0 + 3) ((upI μ (v0 + 2) (μ.1 v0 2).toNatClampNeg v1).1 v0 2).toNatClampNeg v2).1 v0 2).toNatClampNeg v3) v0 2 (((upI (upI (upI μ (v0 + 2) (μ.1 v0 2).toNatClampNeg v1) (v0 + 3) ((upI μ (v0 + 2) (μ.1 v0 2).toNatClampNeg v1).1 v0 2).toNatClampNeg v2) (v0 + 4) ((upI (upI μ (v0 + 2) (μ.1 v0 2).toNatClampNeg v1) (v0 + 3) ((upI μ (v0 + 2) (μ.1 v0 2).toNatClampNeg v1).1 v0 2).toNatClampNeg v2).1 v0 2).toNatClampNeg v3).1 v0 2) + (nI 1))))))) :
    G 0 [rf 16 v0, vi v1, vi v2, vi v3] [] μ := seg hC [] 28 rfl h
theorem ok_M_goes : okB mM_goes = true := by decide +kernel
theorem g_M_goes_0 {lay : List Nat} {d : Nat} {P : PT} {G : KT} (hC : Clo lay d mM_goes P G) {v0 : Nat} {v1 : Int32} {μ : Mem}
    (h : G 12 [rf 16 v0, un, vi v1] [] (upI μ v0 2 ((μ.1 v0 2) - (nI 1)))) :
    G 0 [rf 16 v0, vi v1, un] [] μ := seg hC [(12, [1])] 11 rfl h
theorem g_M_goes_12 {lay : List Nat} {d : Nat} {P : PT} {G : KT} (hC : Clo lay d mM_goes P G) {v0 : Nat} {v2 : Int32} {μ : Mem}
    (h : (((μ.1 v0 2) ≤ v2 → P none μ) ∧ (¬ (μ.1 v0 2) ≤ v2 → (vp_in (v2 + (nI 1)) 9 ∧ (vp_in v2 9 ∧ (vp_in (v2 + (nI 1)) 9 ∧ (vp_in v2 9 ∧ (vp_in (v2 + (nI 1)) 9 ∧ (vp_in v2 9 ∧ G 12 [rf 16 v0, un, vi (v2 + nI 1)] [] (upI (upI (upI μ (v0 + 2) v2.toNatClampNeg (μ.1 (v0 + 2) (v2 + (nI 1)).toNatClampNeg)) (v0 + 3) v2.toNatClampNeg ((upI μ (v0 + 2) v2.toNatClampNeg (μ.1 (v0 + 2) (v2 + (nI 1)).toNatClampNeg)).1 (v0 + 3) (v2 + (nI 1)).toNatClampNeg)) (v0 + 4) v2.toNatClampNeg ((upI (upI μ (v0 + 2) v2.toNatClampNeg (μ.1 (v0 + 2) (v2 + (nI 1)).toNatClampNeg)) (v0 + 3) v2.toNatClampNeg ((upI μ (v0 + 2) v2.toNatClampNeg (μ.1 (v0 + 2) (v2 + (nI 1)).toNatClampNeg)).1 (v0 + 3) (v2 + (nI 1)).toNatClampNeg)).1 (v0 + 4) (v2 + (nI 1)).toNatClampNeg))))))))))) :
    G 12 [rf 16 v0, un, vi v2] [] μ := seg hC [(12, [1])] 39 rfl h
theorem ok_M_notes : okB mM_notes = true := by decide +kernel
theorem g_M_notes_0 {lay : List Nat} {d : Nat} {P : PT} {G : KT} (hC : Clo lay d mM_notes P G) {v0 : Nat} {μ : Mem}
    (h : ((¬ (μ.1 v0 8) = (nI 12) → (vp_in ((nI 30) * (μ.1 v0 8)) 360 ∧ (vp_in (((nI 30) * (μ.1 v0 8)) + (nI 1)) 360 ∧ G 81 [rf 16 v0, vi ((nI 30) * (μ.1 v0 8)), vi (nI 0)] [] (upI (upI μ (v0 + 6) ((nI 30) * (μ.1 v0 8)).toNatClampNeg (μ.1 v0 1)) (v0 + 6) (((nI 30) * (μ.1 v0 8)) + (nI 1)).toNatClampNeg ((upI μ (v0 + 6) ((nI 30) * (μ.1 v0 8)).toNatClampNeg (μ.1 v0 1)).1 v0 2))))) ∧ ((μ.1 v0 8) = (nI 12) → G 11 [rf 16 v0, vi (nI 0), un] [] μ))) :
    G 0 [rf 16 v0, un, un] [] μ := seg hC [(11, [2]), (81, []), (110, []), (173, [1, 2])] 28 rfl h
theorem g_M_notes_11 {lay : List Nat} {d : Nat} {P : PT} {G : KT} (hC : Clo lay d mM_notes P G) {v0 : Nat} {v1 : Int32} {μ : Mem}
    (h : (((nI 330) ≤ v1 → (vp_in ((nI 30) * ((upI μ v0 8 ((μ.1 v0 8) - (nI 1))).1 v0 8)) 360 ∧ (vp_in (((nI 30) * ((upI μ v0 8 ((μ.1 v0 8) - (nI 1))).1 v0 8)) + (nI 1)) 360 ∧ G 81 [rf 16 v0, vi ((nI 30) * ((upI μ v0 8 ((μ.1 v0 8) - (nI 1))).1 v0 8)), vi (nI 0)] [] (upI (upI (upI μ v0 8 ((μ.1 v0 8) - (nI 1))) (v0 + 6) ((nI 30) * ((upI μ v0 8 ((μ.1 v0 8) - (nI 1))).1 v0 8)).toNatClampNeg ((upI μ v0 8 ((μ.1 v0 8) - (nI 1))).1 v0 1)) (v0 + 6) (((nI 30) * ((upI μ v0 8 ((μ.1 v0 8) - (nI 1))).1 v0 8)) + (nI 1)).toNatClampNeg ((upI (upI μ v0 8 ((μ.1 v0 8) - (nI 1))) (v0 + 6) ((nI 30) * ((upI μ v0 8 ((μ.1 v0 8) - (nI 1))).1 v0 8)).toNatClampNeg ((upI μ v0 8 ((μ.1 v0 8) - (nI 1))).1 v0 1)).1 v0 2))))) ∧ (¬ (nI 330) ≤ v1 → (vp_in (v1 + (nI 30)) 360 ∧ (vp_in v1 360 ∧ G 11 [rf 16 v0, vi (v1 + nI 1), un] [] (upI μ (v0 + 6) v1.toNatClampNeg (μ.1 (v0 + 6) (v1 + (nI 30)).toNatClampNeg))))))) :
    G 11 [rf 16 v0, vi v1, un] [] μ := seg hC [(11, [2]), (81, []), (110, []), (173, [1, 2])] 33 rfl h
theorem g_M_notes_81 {lay : List Nat} {d : Nat} {P : PT} {G : KT} (hC : Clo lay d mM_notes P G) {v0 : Nat} {v1 : Int32} {v2 : Int32} {μ : Mem}
    (h : (((nI 4) ≤ v2 → G 110 [rf 16 v0, vi v1, vi (nI 0)] [] μ) ∧ (¬ (nI 4) ≤ v2 → (vp_in v2 4 ∧ (vp_in ((v1 + (nI 2)) + v2) 360 ∧ G 81 [rf 16 v0, vi v1, vi (v2 + nI 1)] [] (upI μ (v0 + 6) ((v1 + (nI 2)) + v2).toNatClampNeg (μ.1 (v0 + 5) v2.toNatClampNeg))))))) :
    G 81 [rf 16 v0, vi v1, vi v2] [] μ := seg hC [(11, [2]), (81, []), (110, []), (173, [1, 2])] 20 rfl h
theorem g_M_notes_110 {lay : List Nat} {d : Nat} {P : PT} {G : KT} (hC : Clo lay d mM_notes P G) {v0 : Nat} {v1 : Int32} {v2 : Int32} {μ : Mem}
    (h : (((nI 8) ≤ v2 → G 173 [rf 16 v0, un, un] [] μ) ∧ (¬ (nI 8) ≤ v2 → (vp_in v2 9 ∧ (vp_in ((v1 + (nI 6)) + v2) 360 ∧ (vp_in v2 9 ∧ (vp_in ((v1 + (nI 14)) + v2) 360 ∧ (vp_in v2 9 ∧ (vp_in ((v1 + (nI 22)) + v2) 360 ∧ G 110 [rf 16 v0, vi v1, vi (v2 + nI 1)] [] (upI (upI (upI μ (v0 + 6) ((v1 + (nI 6)) + v2).toNatClampNeg (μ.1 (v0 + 2) v2.toNatClampNeg)) (v0 + 6) ((v1 + (nI 14)) + v2).toNatClampNeg ((upI μ (v0 + 6) ((v1 + (nI 6)) + v2).toNatClampNeg (μ.1 (v0 + 2) v2.toNatClampNeg)).1 (v0 + 3) v2.toNatClampNeg)) (v0 + 6) ((v1 + (nI 22)) + v2).toNatClampNeg ((upI (upI μ (v0 + 6) ((v1 + (nI 6)) + v2).toNatClampNeg (μ.1 (v0 + 2) v2.toNatClampNeg)) (v0 + 6) ((v1 + (nI 14)) + v2).toNatClampNeg ((upI μ (v0 + 6) ((v1 + (nI 6)) + v2).toNatClampNeg (μ.1 (v0 + 2) v2.toNatClampNeg)).1 (v0 + 3) v2.toNatClampNeg)).1 (v0 + 4) v2.toNatClampNeg))))))))))) :
    G 110 [rf 16 v0, vi v1, vi v2] [] μ := seg hC [(11, [2]), (81, []), (110, []), (173, [1, 2])] 44 rfl h
theorem g_M_notes_173 {lay : List Nat} {d : Nat} {P : PT} {G : KT} (hC : Clo lay d mM_notes P G) {v0 : Nat} {μ : Mem}
    (h : P none (upI μ v0 8 ((μ.1 v0 8) + (nI 1)))) :
    G 173 [rf 16 v0, un, un] [] μ := seg hC [(11, [2]), (81, []), (110, []), (173, [1, 2])] 10 rfl h
theorem ok_M_takesBack : okB mM_takesBack = true := by decide +kernel
theorem g_M_takesBack_0 {lay : List Nat} {d : Nat} {P : PT} {G : KT} (hC : Clo lay d mM_takesBack P G) {v0 : Nat} {μ : Mem}
    (h : (vp_in ((nI 30) * ((upI μ v0 8 ((μ.1 v0 8) - (nI 1))).1 v0 8)) 360 ∧ (vp_in (((nI 30) * ((upI μ v0 8 ((μ.1 v0 8) - (nI 1))).1 v0 8)) + (nI 1)) 360 ∧ G 42 [rf 16 v0, vi ((nI 30) * ((upI μ v0 8 ((μ.1 v0 8) - (nI 1))).1 v0 8)), vi (nI 0)] [] (upI (upI (upI μ v0 8 ((μ.1 v0 8) - (nI 1))) v0 1 ((upI μ v0 8 ((μ.1 v0 8) - (nI 1))).1 (v0 + 6) ((nI 30) * ((upI μ v0 8 ((μ.1 v0 8) - (nI 1))).1 v0 8)).toNatClampNeg)) v0 2 ((upI (upI μ v0 8 ((μ.1 v0 8) - (nI 1))) v0 1 ((upI μ v0 8 ((μ.1 v0 8) - (nI 1))).1 (v0 + 6) ((nI 30) * ((upI μ v0 8 ((μ.1 v0 8) - (nI 1))).1 v0 8)).toNatClampNeg)).1 (v0 + 6) (((nI 30) * ((upI μ v0 8 ((μ.1 v0 8) - (nI 1))).1 v0 8)) + (nI 1)).toNatClampNeg))))) :
    G 0 [rf 16 v0, un, un] [] μ := seg hC [(42, []), (71, [])] 30 rfl h
theorem g_M_takesBack_42 {lay : List Nat} {d : Nat} {P : PT} {G : KT} (hC : Clo lay d mM_takesBack P G) {v0 : Nat} {v1 : Int32} {v2 : Int32} {μ : Mem}
    (h : (((nI 4) ≤ v2 → G 71 [rf 16 v0, vi v1, vi (nI 0)] [] μ) ∧ (¬ (nI 4) ≤ v2 → (vp_in ((v1 + (nI 2)) + v2) 360 ∧ (vp_in v2 4 ∧ G 42 [rf 16 v0, vi v1, vi (v2 + nI 1)] [] (upI μ (v0 + 5) v2.toNatClampNeg (μ.1 (v0 + 6) ((v1 + (nI 2)) + v2).toNatClampNeg))))))) :
    G 42 [rf 16 v0, vi v1, vi v2] [] μ := seg hC [(42, []), (71, [])] 20 rfl h
theorem g_M_takesBack_71 {lay : List Nat} {d : Nat} {P : PT} {G : KT} (hC : Clo lay d mM_takesBack P G) {v0 : Nat} {v1 : Int32} {v2 : Int32} {μ : Mem}
    (h : (((nI 8) ≤ v2 → P none μ) ∧ (¬ (nI 8) ≤ v2 → (vp_in ((v1 + (nI 6)) + v2) 360 ∧ (vp_in v2 9 ∧ (vp_in ((v1 + (nI 14)) + v2) 360 ∧ (vp_in v2 9 ∧ (vp_in ((v1 + (nI 22)) + v2) 360 ∧ (vp_in v2 9 ∧ G 71 [rf 16 v0, vi v1, vi (v2 + nI 1)] [] (upI (upI (upI μ (v0 + 2) v2.toNatClampNeg (μ.1 (v0 + 6) ((v1 + (nI 6)) + v2).toNatClampNeg)) (v0 + 3) v2.toNatClampNeg ((upI μ (v0 + 2) v2.toNatClampNeg (μ.1 (v0 + 6) ((v1 + (nI 6)) + v2).toNatClampNeg)).1 (v0 + 6) ((v1 + (nI 14)) + v2).toNatClampNeg)) (v0 + 4) v2.toNatClampNeg ((upI (upI μ (v0 + 2) v2.toNatClampNeg (μ.1 (v0 + 6) ((v1 + (nI 6)) + v2).toNatClampNeg)) (v0 + 3) v2.toNatClampNeg ((upI μ (v0 + 2) v2.toNatClampNeg (μ.1 (v0 + 6) ((v1 + (nI 6)) + v2).toNatClampNeg)).1 (v0 + 6) ((v1 + (nI 14)) + v2).toNatClampNeg)).1 (v0 + 6) ((v1 + (nI 22)) + v2).toNatClampNeg))))))))))) :
    G 71 [rf 16 v0, vi v1, vi v2] [] μ := seg hC [(42, []), (71, [])] 44 rfl h
theorem ok_M_anew : okB mM_anew = true := by decide +kernel
theorem g_M_anew_0 {lay : List Nat} {d : Nat} {P : PT} {G : KT} (hC : Clo lay (d + 1) mM_anew P G) {v0 : Nat} {v1 : Int32} {μ : Mem}
    (h : (∃ P4 : PT, Rn lay d mM_in [vi v1, vi (nI 0), vi (nI 90)] μ P4 ∧ ∀ (x4 : Int32) (μ4 : Mem), P4 (some (vi x4)) μ4 → ((¬ x4 = 0 → (∃ P22 : PT, Rn lay d mM_begins [rf 16 v0, vi v1] μ4 P22 ∧ ∀ μ22 : Mem, P22 none μ22 → P (some (vi (μ4.1 v0 2))) μ22)) ∧ (x4 = 0 → (∃ P11 : PT, Rn lay d mM_bad [rf 16 v0] μ4 P11 ∧ ∀ (x11 : Int32) (μ11 : Mem), P11 (some (vi x11)) μ11 → P (some (vi x11)) μ11))))) :
    G 0 [rf 16 v0, vi v1, un] [] μ := seg hC [] 16 rfl h
theorem ok_M_range : okB mM_range = true := by decide +kernel
theorem g_M_range_0 {lay : List Nat} {d : Nat} {P : PT} {G : KT} (hC : Clo lay (d + 1) mM_range P G) {v0 : Nat} {v1 : Int32} {v2 : Int32} {v3 : Int32} {μ : Mem}
    (h : (∃ P1 : PT, Rn lay d mM_isKind [vi v1] μ P1 ∧ ∀ (x1 : Int32) (μ1 : Mem), P1 (some (vi x1)) μ1 → ((x1 = 0 → (∃ P17 : PT, Rn lay d mM_bad [rf 16 v0] μ1 P17 ∧ ∀ (x17 : Int32) (μ17 : Mem), P17 (some (vi x17)) μ17 → P (some (vi x17)) μ17)) ∧ (¬ x1 = 0 → (∃ P10 : PT, Rn lay d mM_isFromTo [rf 16 v0, vi v2, vi v3] μ1 P10 ∧ ∀ (x10 : Int32) (μ10 : Mem), P10 (some (vi x10)) μ10 → ((¬ x10 = 0 → ((¬ (μ10.1 v0 2) = (nI 8) → (∃ P39 : PT, Rn lay d mM_comes [rf 16 v0, vi v1, vi v2, vi v3] μ10 P39 ∧ ∀ μ39 : Mem, P39 none μ39 → (∃ P43 : PT, Rn lay d mM_isTooMuch [rf 16 v0] μ39 P43 ∧ ∀ (x43 : Int32) (μ43 : Mem), P43 (some (vi x43)) μ43 → ((x43 = 0 → (∃ P69 : PT, Rn lay d mM_notes [rf 16 v0] (upI μ43 v0 2 ((μ43.1 v0 2) - (nI 1))) P69 ∧ ∀ μ69 : Mem, P69 none μ69 → (∃ P76 : PT, Rn lay d mM_comes [rf 16 v0, vi v1, vi v2, vi v3] μ69 P76 ∧ ∀ μ76 : Mem, P76 none μ76 → P (some (vi ((μ76.1 v0 2) - (nI 1)))) μ76))) ∧ (¬ x43 = 0 → (∃ P64 : PT, Rn lay d mM_full [rf 16 v0] (upI μ43 v0 2 ((μ43.1 v0 2) - (nI 1))) P64 ∧ ∀ (x64 : Int32) (μ64 : Mem), P64 (some (vi x64)) μ64 → P (some (vi x64)) μ64)))))) ∧ ((μ10.1 v0 2) = (nI 8) → (∃ P31 : PT, Rn lay d mM_full [rf 16 v0] μ10 P31 ∧ ∀ (x31 : Int32) (μ31 : Mem), P31 (some (vi x31)) μ31 → P (some (vi x31)) μ31)))) ∧ (x10 = 0 → (∃ P17 : PT, Rn lay d mM_bad [rf 16 v0] μ10 P17 ∧ ∀ (x17 : Int32) (μ17 : Mem), P17 (some (vi x17)) μ17 → P (some (vi x17)) μ17)))))))) :
    G 0 [rf 16 v0, vi v1, vi v2, vi v3, un] [] μ := seg hC [] 43 rfl h
theorem ok_M_drop : okB mM_drop = true := by decide +kernel
theorem g_M_drop_0 {lay : List Nat} {d : Nat} {P : PT} {G : KT} (hC : Clo lay (d + 1) mM_drop P G) {v0 : Nat} {v1 : Int32} {μ : Mem}
    (h : (∃ P2 : PT, Rn lay d mM_isRange [rf 16 v0, vi v1] μ P2 ∧ ∀ (x2 : Int32) (μ2 : Mem), P2 (some (vi x2)) μ2 → ((¬ x2 = 0 → (∃ P14 : PT, Rn lay d mM_notes [rf 16 v0] μ2 P14 ∧ ∀ μ14 : Mem, P14 none μ14 → (∃ P19 : PT, Rn lay d mM_goes [rf 16 v0, vi v1] μ14 P19 ∧ ∀ μ19 : Mem, P19 none μ19 → P (some (vi (μ19.1 v0 2))) μ19))) ∧ (x2 = 0 → (∃ P9 : PT, Rn lay d mM_bad [rf 16 v0] μ2 P9 ∧ ∀ (x9 : Int32) (μ9 : Mem), P9 (some (vi x9)) μ9 → P (some (vi x9)) μ9))))) :
    G 0 [rf 16 v0, vi v1] [] μ := seg hC [] 15 rfl h
theorem ok_M_moves : okB mM_moves = true := by decide +kernel
theorem g_M_moves_0 {lay : List Nat} {d : Nat} {P : PT} {G : KT} (hC : Clo lay (d + 1) mM_moves P G) {v0 : Nat} {v1 : Int32} {v2 : Int32} {v3 : Int32} {μ : Mem}
    (h : (∃ P2 : PT, Rn lay d mM_isRange [rf 16 v0, vi v1] μ P2 ∧ ∀ (x2 : Int32) (μ2 : Mem), P2 (some (vi x2)) μ2 → ((x2 = 0 → (∃ P18 : PT, Rn lay d mM_bad [rf 16 v0] μ2 P18 ∧ ∀ (x18 : Int32) (μ18 : Mem), P18 (some (vi x18)) μ18 → P (some (vi x18)) μ18)) ∧ (¬ x2 = 0 → (∃ P11 : PT, Rn lay d mM_isFromTo [rf 16 v0, vi v2, vi v3] μ2 P11 ∧ ∀ (x11 : Int32) (μ11 : Mem), P11 (some (vi x11)) μ11 → ((¬ x11 = 0 → (vp_in v1 9 ∧ (vp_in v1 9 ∧ (vp_in v1 9 ∧ (vp_in v1 9 ∧ (∃ P53 : PT, Rn lay d mM_isTooMuch [rf 16 v0] (upI (upI μ11 (v0 + 3) v1.toNatClampNeg v2) (v0 + 4) v1.toNatClampNeg v3) P53 ∧ ∀ (x53 : Int32) (μ53 : Mem), P53 (some (vi x53)) μ53 → (vp_in v1 9 ∧ (vp_in v1 9 ∧ ((x53 = 0 → (∃ P85 : PT, Rn lay d mM_notes [rf 16 v0] (upI (upI μ53 (v0 + 3) v1.toNatClampNeg (μ11.1 (v0 + 3) v1.toNatClampNeg)) (v0 + 4) v1.toNatClampNeg (μ11.1 (v0 + 4) v1.toNatClampNeg)) P85 ∧ ∀ μ85 : Mem, P85 none μ85 → (vp_in v1 9 ∧ (vp_in v1 9 ∧ P (some (vi (((v3 - v2) - (μ11.1 (v0 + 4) v1.toNatClampNeg)) + (μ11.1 (v0 + 3) v1.toNatClampNeg)))) (upI (upI μ85 (v0 + 3) v1.toNatClampNeg v2) (v0 + 4) v1.toNatClampNeg v3))))) ∧ (¬ x53 = 0 → (∃ P80 : PT, Rn lay d mM_full [rf 16 v0] (upI (upI μ53 (v0 + 3) v1.toNatClampNeg (μ11.1 (v0 + 3) v1.toNatClampNeg)) (v0 + 4) v1.toNatClampNeg (μ11.1 (v0 + 4) v1.toNatClampNeg)) P80 ∧ ∀ (x80 : Int32) (μ80 : Mem), P80 (some (vi x80)) μ80 → P (some (vi x80)) μ80))))))))))) ∧ (x11 = 0 → (∃ P18 : PT, Rn lay d mM_bad [rf 16 v0] μ11 P18 ∧ ∀ (x18 : Int32) (μ18 : Mem), P18 (some (vi x18)) μ18 → P (some (vi x18)) μ18)))))))) :
    G 0 [rf 16 v0, vi v1, vi v2, vi v3, un, un, un] [] μ := seg hC [] 67 rfl h
theorem ok_M_kind : okB mM_kind = true := by decide +kernel
theorem g_M_kind_0 {lay : List Nat} {d : Nat} {P : PT} {G : KT} (hC : Clo lay (d + 1) mM_kind P G) {v0 : Nat} {v1 : Int32} {v2 : Int32} {μ : Mem}
    (h : (∃ P2 : PT, Rn lay d mM_isRange [rf 16 v0, vi v1] μ P2 ∧ ∀ (x2 : Int32) (μ2 : Mem), P2 (some (vi x2)) μ2 → ((x2 = 0 → (∃ P16 : PT, Rn lay d mM_bad [rf 16 v0] μ2 P16 ∧ ∀ (x16 : Int32) (μ16 : Mem), P16 (some (vi x16)) μ16 → P (some (vi x16)) μ16)) ∧ (¬ x2 = 0 → (∃ P9 : PT, Rn lay d mM_isKind [vi v2] μ2 P9 ∧ ∀ (x9 : Int32) (μ9 : Mem), P9 (some (vi x9)) μ9 → ((¬ x9 = 0 → (∃ P21 : PT, Rn lay d mM_notes [rf 16 v0] μ9 P21 ∧ ∀ μ21 : Mem, P21 none μ21 → (vp_in v1 9 ∧ (vp_in v1 9 ∧ P (some (vi (μ21.1 (v0 + 2) v1.toNatClampNeg))) (upI μ21 (v0 + 2) v1.toNatClampNeg v2))))) ∧ (x9 = 0 → (∃ P16 : PT, Rn lay d mM_bad [rf 16 v0] μ9 P16 ∧ ∀ (x16 : Int32) (μ16 : Mem), P16 (some (vi x16)) μ16 → P (some (vi x16)) μ16)))))))) :
    G 0 [rf 16 v0, vi v1, vi v2, un] [] μ := seg hC [] 24 rfl h
theorem ok_M_rank : okB mM_rank = true := by decide +kernel
theorem g_M_rank_0 {lay : List Nat} {d : Nat} {P : PT} {G : KT} (hC : Clo lay (d + 1) mM_rank P G) {v0 : Nat} {v1 : Int32} {v2 : Int32} {μ : Mem}
    (h : (∃ P1 : PT, Rn lay d mM_isKind [vi v1] μ P1 ∧ ∀ (x1 : Int32) (μ1 : Mem), P1 (some (vi x1)) μ1 → ((x1 = 0 → (∃ P17 : PT, Rn lay d mM_bad [rf 16 v0] μ1 P17 ∧ ∀ (x17 : Int32) (μ17 : Mem), P17 (some (vi x17)) μ17 → P (some (vi x17)) μ17)) ∧ (¬ x1 = 0 → (∃ P10 : PT, Rn lay d mM_in [vi v2, vi (nI 0), vi (nI 3)] μ1 P10 ∧ ∀ (x10 : Int32) (μ10 : Mem), P10 (some (vi x10)) μ10 → ((¬ x10 = 0 → (∃ P22 : PT, Rn lay d mM_notes [rf 16 v0] μ10 P22 ∧ ∀ μ22 : Mem, P22 none μ22 → (vp_in v1 4 ∧ (vp_in v1 4 ∧ P (some (vi (μ22.1 (v0 + 5) v1.toNatClampNeg))) (upI μ22 (v0 + 5) v1.toNatClampNeg v2))))) ∧ (x10 = 0 → (∃ P17 : PT, Rn lay d mM_bad [rf 16 v0] μ10 P17 ∧ ∀ (x17 : Int32) (μ17 : Mem), P17 (some (vi x17)) μ17 → P (some (vi x17)) μ17)))))))) :
    G 0 [rf 16 v0, vi v1, vi v2, un] [] μ := seg hC [] 25 rfl h
theorem ok_M_puts : okB mM_puts = true := by decide +kernel
theorem g_M_puts_0 {lay : List Nat} {d : Nat} {P : PT} {G : KT} (hC : Clo lay (d + 1) mM_puts P G) {v0 : Nat} {v1 : Int32} {v2 : Int32} {μ : Mem}
    (h : (∃ P6 : PT, Rn lay d mM_in [vi v1, vi (nI 0), vi (μ.1 v0 1)] μ P6 ∧ ∀ (x6 : Int32) (μ6 : Mem), P6 (some (vi x6)) μ6 → ((x6 = 0 → (∃ P23 : PT, Rn lay d mM_bad [rf 16 v0] μ6 P23 ∧ ∀ (x23 : Int32) (μ23 : Mem), P23 (some (vi x23)) μ23 → P (some (vi x23)) μ23)) ∧ (¬ x6 = 0 → (∃ P16 : PT, Rn lay d mM_in [vi v2, vi (nI 1), vi (nI 90)] μ6 P16 ∧ ∀ (x16 : Int32) (μ16 : Mem), P16 (some (vi x16)) μ16 → ((¬ x16 = 0 → ((((μ16.1 v0 1) + v2) ≤ (nI 90) → (∃ P44 : PT, Rn lay d mM_notes [rf 16 v0] μ16 P44 ∧ ∀ μ44 : Mem, P44 none μ44 → G 59 [rf 16 v0, vi v1, vi v2, vi (nI 0), un, un] [] (upI μ44 v0 1 ((μ44.1 v0 1) + v2)))) ∧ (¬ ((μ16.1 v0 1) + v2) ≤ (nI 90) → (∃ P39 : PT, Rn lay d mM_full [rf 16 v0] μ16 P39 ∧ ∀ (x39 : Int32) (μ39 : Mem), P39 (some (vi x39)) μ39 → P (some (vi x39)) μ39)))) ∧ (x16 = 0 → (∃ P23 : PT, Rn lay d mM_bad [rf 16 v0] μ16 P23 ∧ ∀ (x23 : Int32) (μ23 : Mem), P23 (some (vi x23)) μ23 → P (some (vi x23)) μ23)))))))) :
    G 0 [rf 16 v0, vi v1, vi v2, un, un, un] [] μ := seg hC [(59, [4, 5]), (104, [4, 5])] 30 rfl h
theorem g_M_puts_59 {lay : List Nat} {d : Nat} {P : PT} {G : KT} (hC : Clo lay (d + 1) mM_puts P G) {v0 : Nat} {v1 : Int32} {v2 : Int32} {v3 : Int32} {μ : Mem}
    (h : (((μ.1 v0 2) ≤ v3 → P (some (vi (μ.1 v0 1))) μ) ∧ (¬ (μ.1 v0 2) ≤ v3 → (∃ P69 : PT, Rn lay d mM_isEmpty [rf 16 v0, vi v3] μ P69 ∧ ∀ (x69 : Int32) (μ69 : Mem), P69 (some (vi x69)) μ69 → (vp_in v3 9 ∧ ((v1 < (μ69.1 (v0 + 3) v3.toNatClampNeg) → G 104 [rf 16 v0, vi v1, vi v2, vi v3, un, un] [vi (nI 1)] μ69) ∧ (¬ v1 < (μ69.1 (v0 + 3) v3.toNatClampNeg) → (vp_in v3 9 ∧ ((¬ (μ69.1 (v0 + 3) v3.toNatClampNeg) = v1 → G 104 [rf 16 v0, vi v1, vi v2, vi v3, un, un] [vi (nI 0)] μ69) ∧ ((μ69.1 (v0 + 3) v3.toNatClampNeg) = v1 → ((¬ x69 = 0 → G 104 [rf 16 v0, vi v1, vi v2, vi v3, un, un] [vi (nI 0)] μ69) ∧ (x69 = 0 → G 104 [rf 16 v0, vi v1, vi v2, vi v3, un, un] [vi (nI 1)] μ69)))))))))))) :
    G 59 [rf 16 v0, vi v1, vi v2, vi v3, un, un] [] μ := seg hC [(59, [4, 5]), (104, [4, 5])] 27 rfl h
theorem g_M_puts_104 {lay : List Nat} {d : Nat} {P : PT} {G : KT} (hC : Clo lay (d + 1) mM_puts P G) {v0 : Nat} {v1 : Int32} {v2 : Int32} {v3 : Int32} {s0 : Int32} {μ : Mem}
    (h : (vp_in v3 9 ∧ ((s0 = 0 → (vp_in v3 9 ∧ (vp_in v3 9 ∧ (vp_in v3 9 ∧ ((((upI μ (v0 + 3) v3.toNatClampNeg ((μ.1 (v0 + 3) v3.toNatClampNeg) + (nI 0))).1 (v0 + 4) v3.toNatClampNeg) ≤ v1 → (vp_in v3 9 ∧ G 59 [rf 16 v0, vi v1, vi v2, vi (v3 + nI 1), un, un] [] (upI (upI μ (v0 + 3) v3.toNatClampNeg ((μ.1 (v0 + 3) v3.toNatClampNeg) + (nI 0))) (v0 + 4) v3.toNatClampNeg (((upI μ (v0 + 3) v3.toNatClampNeg ((μ.1 (v0 + 3) v3.toNatClampNeg) + (nI 0))).1 (v0 + 4) v3.toNatClampNeg) + (nI 0))))) ∧ (¬ ((upI μ (v0 + 3) v3.toNatClampNeg ((μ.1 (v0 + 3) v3.toNatClampNeg) + (nI 0))).1 (v0 + 4) v3.toNatClampNeg) ≤ v1 → (vp_in v3 9 ∧ G 59 [rf 16 v0, vi v1, vi v2, vi (v3 + nI 1), un, un] [] (upI (upI μ (v0 + 3) v3.toNatClampNeg ((μ.1 (v0 + 3) v3.toNatClampNeg) + (nI 0))) (v0 + 4) v3.toNatClampNeg (((upI μ (v0 + 3) v3.toNatClampNeg ((μ.1 (v0 + 3) v3.toNatClampNeg) + (nI 0))).1 (v0 + 4) v3.toNatClampNeg) + v2))))))))) ∧ (¬ s0 = 0 → (vp_in v3 9 ∧ (vp_in v3 9 ∧ (vp_in v3 9 ∧ ((((upI μ (v0 + 3) v3.toNatClampNeg ((μ.1 (v0 + 3) v3.toNatClampNeg) + v2)).1 (v0 + 4) v3.toNatClampNeg) ≤ v1 → (vp_in v3 9 ∧ G 59 [rf 16 v0, vi v1, vi v2, vi (v3 + nI 1), un, un] [] (upI (upI μ (v0 + 3) v3.toNatClampNeg ((μ.1 (v0 + 3) v3.toNatClampNeg) + v2)) (v0 + 4) v3.toNatClampNeg (((upI μ (v0 + 3) v3.toNatClampNeg ((μ.1 (v0 + 3) v3.toNatClampNeg) + v2)).1 (v0 + 4) v3.toNatClampNeg) + (nI 0))))) ∧ (¬ ((upI μ (v0 + 3) v3.toNatClampNeg ((μ.1 (v0 + 3) v3.toNatClampNeg) + v2)).1 (v0 + 4) v3.toNatClampNeg) ≤ v1 → (vp_in v3 9 ∧ G 59 [rf 16 v0, vi v1, vi v2, vi (v3 + nI 1), un, un] [] (upI (upI μ (v0 + 3) v3.toNatClampNeg ((μ.1 (v0 + 3) v3.toNatClampNeg) + v2)) (v0 + 4) v3.toNatClampNeg (((upI μ (v0 + 3) v3.toNatClampNeg ((μ.1 (v0 + 3) v3.toNatClampNeg) + v2)).1 (v0 + 4) v3.toNatClampNeg) + v2)))))))))))) :
    G 104 [rf 16 v0, vi v1, vi v2, vi v3, un, un] [vi s0] μ := seg hC [(59, [4, 5]), (104, [4, 5])] 32 rfl h
theorem ok_M_behind : okB mM_behind = true := by decide +kernel
theorem g_M_behind_0 {lay : List Nat} {d : Nat} {P : PT} {G : KT} (hC : Clo lay d mM_behind P G) {v0 : Int32} {v1 : Int32} {v2 : Int32} {μ : Mem}
    (h : ((v0 < v2 → ((v0 ≤ v1 → P (some (vi v0)) μ) ∧ (¬ v0 ≤ v1 → P (some (vi v1)) μ))) ∧ (¬ v0 < v2 → P (some (vi ((v0 - v2) + v1))) μ))) :
    G 0 [vi v0, vi v1, vi v2] [] μ := seg hC [] 13 rfl h
theorem ok_M_takes : okB mM_takes = true := by decide +kernel
theorem g_M_takes_0 {lay : List Nat} {d : Nat} {P : PT} {G : KT} (hC : Clo lay (d + 1) mM_takes P G) {v0 : Nat} {v1 : Int32} {v2 : Int32} {μ : Mem}
    (h : ((v1 < 0 → (∃ P18 : PT, Rn lay d mM_bad [rf 16 v0] μ P18 ∧ ∀ (x18 : Int32) (μ18 : Mem), P18 (some (vi x18)) μ18 → P (some (vi x18)) μ18)) ∧ (¬ v1 < 0 → ((v2 ≤ v1 → (∃ P18 : PT, Rn lay d mM_bad [rf 16 v0] μ P18 ∧ ∀ (x18 : Int32) (μ18 : Mem), P18 (some (vi x18)) μ18 → P (some (vi x18)) μ18)) ∧ (¬ v2 ≤ v1 → ((v2 ≤ (μ.1 v0 1) → (∃ P23 : PT, Rn lay d mM_notes [rf 16 v0] μ P23 ∧ ∀ μ23 : Mem, P23 none μ23 → G 40 [rf 16 v0, vi v1, vi v2, vi (nI 0)] [] (upI μ23 v0 1 ((μ23.1 v0 1) - (v2 - v1))))) ∧ (¬ v2 ≤ (μ.1 v0 1) → (∃ P18 : PT, Rn lay d mM_bad [rf 16 v0] μ P18 ∧ ∀ (x18 : Int32) (μ18 : Mem), P18 (some (vi x18)) μ18 → P (some (vi x18)) μ18)))))))) :
    G 0 [rf 16 v0, vi v1, vi v2, un] [] μ := seg hC [(40, [])] 24 rfl h
theorem g_M_takes_40 {lay : List Nat} {d : Nat} {P : PT} {G : KT} (hC : Clo lay (d + 1) mM_takes P G) {v0 : Nat} {v1 : Int32} {v2 : Int32} {v3 : Int32} {μ : Mem}
    (h : (((μ.1 v0 2) ≤ v3 → P (some (vi (μ.1 v0 1))) μ) ∧ (¬ (μ.1 v0 2) ≤ v3 → (vp_in v3 9 ∧ (∃ P61 : PT, Rn lay d mM_behind [vi (μ.1 (v0 + 3) v3.toNatClampNeg), vi v1, vi v2] μ P61 ∧ ∀ (x61 : Int32) (μ61 : Mem), P61 (some (vi x61)) μ61 → (vp_in v3 9 ∧ (vp_in v3 9 ∧ (∃ P78 : PT, Rn lay d mM_behind [vi ((upI μ61 (v0 + 3) v3.toNatClampNeg x61).1 (v0 + 4) v3.toNatClampNeg), vi v1, vi v2] (upI μ61 (v0 + 3) v3.toNatClampNeg x61) P78 ∧ ∀ (x78 : Int32) (μ78 : Mem), P78 (some (vi x78)) μ78 → (vp_in v3 9 ∧ G 40 [rf 16 v0, vi v1, vi v2, vi (v3 + nI 1)] [] (upI μ78 (v0 + 4) v3.toNatClampNeg x78)))))))))) :
    G 40 [rf 16 v0, vi v1, vi v2, vi v3] [] μ := seg hC [(40, [])] 31 rfl h
theorem ok_M_hangsOn : okB mM_hangsOn = true := by decide +kernel
theorem g_M_hangsOn_0 {lay : List Nat} {d : Nat} {P : PT} {G : KT} (hC : Clo lay (d + 1) mM_hangsOn P G) {v0 : Nat} {v1 : Int32} {μ : Mem}
    (h : G 9 [rf 16 v0, vi v1, vi (mI 0), vi ((μ.1 v0 2) - (nI 1))] [] μ) :
    G 0 [rf 16 v0, vi v1, un, un] [] μ := seg hC [(9, [])] 10 rfl h
theorem g_M_hangsOn_9 {lay : List Nat} {d : Nat} {P : PT} {G : KT} (hC : Clo lay (d + 1) mM_hangsOn P G) {v0 : Nat} {v1 : Int32} {v2 : Int32} {v3 : Int32} {μ : Mem}
    (h : ((v3 < 0 → P (some (vi v2)) μ) ∧ (¬ v3 < 0 → (vp_in v3 9 ∧ ((¬ (μ.1 (v0 + 2) v3.toNatClampNeg) = v1 → G 9 [rf 16 v0, vi v1, vi v2, vi (v3 + mI 0)] [] μ) ∧ ((μ.1 (v0 + 2) v3.toNatClampNeg) = v1 → (∃ P25 : PT, Rn lay d mM_isEmpty [rf 16 v0, vi v3] μ P25 ∧ ∀ (x25 : Int32) (μ25 : Mem), P25 (some (vi x25)) μ25 → ((¬ x25 = 0 → G 9 [rf 16 v0, vi v1, vi v2, vi (v3 + mI 0)] [] μ25) ∧ (x25 = 0 → (∃ P33 : PT, Rn lay d mM_hangsBy [rf 16 v0, vi v3] μ25 P33 ∧ ∀ (x33 : Int32) (μ33 : Mem), P33 (some (vi x33)) μ33 → ((x33 = (mI 0) → G 9 [rf 16 v0, vi v1, vi v2, vi (v3 + mI 0)] [] μ33) ∧ (¬ x33 = (mI 0) → G 9 [rf 16 v0, vi v1, vi v3, vi (v3 + mI 0)] [] μ33)))))))))))) :
    G 9 [rf 16 v0, vi v1, vi v2, vi v3] [] μ := seg hC [(9, [])] 25 rfl h
theorem ok_M_hangsBy : okB mM_hangsBy = true := by decide +kernel
theorem g_M_hangsBy_0 {lay : List Nat} {d : Nat} {P : PT} {G : KT} (hC : Clo lay (d + 1) mM_hangsBy P G) {v0 : Nat} {v1 : Int32} {μ : Mem}
    (h : G 6 [rf 16 v0, vi v1, vi (mI 0), vi (v1 - (nI 1)), un] [] μ) :
    G 0 [rf 16 v0, vi v1, un, un, un] [] μ := seg hC [(6, [4]), (67, [4])] 9 rfl h
theorem g_M_hangsBy_6 {lay : List Nat} {d : Nat} {P : PT} {G : KT} (hC : Clo lay (d + 1) mM_hangsBy P G) {v0 : Nat} {v1 : Int32} {v2 : Int32} {v3 : Int32} {μ : Mem}
    (h : ((v3 < 0 → P (some (vi v2)) μ) ∧ (¬ v3 < 0 → (vp_in v3 9 ∧ (vp_in v1 9 ∧ ((¬ (μ.1 (v0 + 2) v3.toNatClampNeg) = (μ.1 (v0 + 2) v1.toNatClampNeg) → G 67 [rf 16 v0, vi v1, vi v2, vi v3, un] [] μ) ∧ ((μ.1 (v0 + 2) v3.toNatClampNeg) = (μ.1 (v0 + 2) v1.toNatClampNeg) → (∃ P27 : PT, Rn lay d mM_isEmpty [rf 16 v0, vi v3] μ P27 ∧ ∀ (x27 : Int32) (μ27 : Mem), P27 (some (vi x27)) μ27 → ((¬ x27 = 0 → G 67 [rf 16 v0, vi v1, vi v2, vi v3, un] [] μ27) ∧ (x27 = 0 → (vp_in v3 9 ∧ (vp_in v1 9 ∧ (((μ27.1 (v0 + 4) v1.toNatClampNeg) < (μ27.1 (v0 + 3) v3.toNatClampNeg) → G 67 [rf 16 v0, vi v1, vi v2, vi v3, un] [] μ27) ∧ (¬ (μ27.1 (v0 + 4) v1.toNatClampNeg) < (μ27.1 (v0 + 3) v3.toNatClampNeg) → (vp_in v1 9 ∧ (vp_in v3 9 ∧ (((μ27.1 (v0 + 4) v3.toNatClampNeg) < (μ27.1 (v0 + 3) v1.toNatClampNeg) → G 67 [rf 16 v0, vi v1, vi v2, vi v3, un] [] μ27) ∧ (¬ (μ27.1 (v0 + 4) v3.toNatClampNeg) < (μ27.1 (v0 + 3) v1.toNatClampNeg) → G 6 [rf 16 v0, vi v1, vi v3, vi (v3 + mI 0), un] [] μ27)))))))))))))))))) :
    G 6 [rf 16 v0, vi v1, vi v2, vi v3, un] [] μ := seg hC [(6, [4]), (67, [4])] 46 rfl (⟨fun q1 => (h.1 q1), fun q1 => ⟨(h.2 q1).1, ⟨(h.2 q1).2.1, ⟨fun q2 => ((h.2 q1).2.2.1 q2), fun q2 => (match ((h.2 q1).2.2.2 q2) with | ⟨P27, c27, f27⟩ => ⟨P27, c27, fun x27 μ27 y27 => (fun h27 => ⟨fun q3 => (h27.1 q3), fun q3 => ⟨(h27.2 q3).1, ⟨(h27.2 q3).2.1, ⟨fun q4 => ((h27.2 q3).2.2.1 q4), fun q4 => ⟨((h27.2 q3).2.2.2 q4).1, ⟨((h27.2 q3).2.2.2 q4).2.1, ⟨fun q5 => (((h27.2 q3).2.2.2 q4).2.2.1 q5), fun q5 => ⟨fun q => absurd q (by decide), fun _ => (((h27.2 q3).2.2.2 q4).2.2.2 q5)⟩⟩⟩⟩⟩⟩⟩⟩) (f27 x27 μ27 y27)⟩)⟩⟩⟩⟩)
theorem g_M_hangsBy_67 {lay : List Nat} {d : Nat} {P : PT} {G : KT} (hC : Clo lay (d + 1) mM_hangsBy P G) {v0 : Nat} {v1 : Int32} {v2 : Int32} {v3 : Int32} {μ : Mem}
    (h : G 6 [rf 16 v0, vi v1, vi v2, vi (v3 + mI 0), un] [] μ) :
    G 67 [rf 16 v0, vi v1, vi v2, vi v3, un] [] μ := seg hC [(6, [4]), (67, [4])] 11 rfl (⟨fun _ => h, fun q => absurd (by decide) q⟩)
theorem ok_M_joins : okB mM_joins = true := by decide +kernel
theorem g_M_joins_0 {lay : List Nat} {d : Nat} {P : PT} {G : KT} (hC : Clo lay (d + 1) mM_joins P G) {v0 : Nat} {v1 : Int32} {μ : Mem}
    (h : (∃ P1 : PT, Rn lay d mM_isKind [vi v1] μ P1 ∧ ∀ (x1 : Int32) (μ1 : Mem), P1 (some (vi x1)) μ1 → ((¬ x1 = 0 → (∃ P13 : PT, Rn lay d mM_notes [rf 16 v0] μ1 P13 ∧ ∀ μ13 : Mem, P13 none μ13 → (∃ P20 : PT, Rn lay d mM_hangsOn [rf 16 v0, vi v1] μ13 P20 ∧ ∀ (x20 : Int32) (μ20 : Mem), P20 (some (vi x20)) μ20 → G 24 [rf 16 v0, vi v1, vi (nI 0), vi x20, un] [] μ20))) ∧ (x1 = 0 → (∃ P8 : PT, Rn lay d mM_bad [rf 16 v0] μ1 P8 ∧ ∀ (x8 : Int32) (μ8 : Mem), P8 (some (vi x8)) μ8 → P (some (vi x8)) μ8))))) :
    G 0 [rf 16 v0, vi v1, un, un, un] [] μ := seg hC [(24, [4]), (74, [])] 14 rfl h
theorem g_M_joins_24 {lay : List Nat} {d : Nat} {P : PT} {G : KT} (hC : Clo lay (d + 1) mM_joins P G) {v0 : Nat} {v1 : Int32} {v2 : Int32} {v3 : Int32} {μ : Mem}
    (h : ((v3 = (mI 0) → P (some (vi v2)) μ) ∧ (¬ v3 = (mI 0) → (∃ P31 : PT, Rn lay d mM_hangsBy [rf 16 v0, vi v3] μ P31 ∧ ∀ (x31 : Int32) (μ31 : Mem), P31 (some (vi x31)) μ31 → (vp_in v3 9 ∧ (vp_in x31 9 ∧ (((μ31.1 (v0 + 3) x31.toNatClampNeg) ≤ (μ31.1 (v0 + 3) v3.toNatClampNeg) → (vp_in x31 9 ∧ G 74 [rf 16 v0, vi v1, vi v2, vi v3, vi x31] [vi (μ31.1 (v0 + 3) x31.toNatClampNeg), vi x31, rf 10009 (v0 + 3)] μ31)) ∧ (¬ (μ31.1 (v0 + 3) x31.toNatClampNeg) ≤ (μ31.1 (v0 + 3) v3.toNatClampNeg) → (vp_in v3 9 ∧ G 74 [rf 16 v0, vi v1, vi v2, vi v3, vi x31] [vi (μ31.1 (v0 + 3) v3.toNatClampNeg), vi x31, rf 10009 (v0 + 3)] μ31))))))))) :
    G 24 [rf 16 v0, vi v1, vi v2, vi v3, un] [] μ := seg hC [(24, [4]), (74, [])] 27 rfl h
theorem g_M_joins_74 {lay : List Nat} {d : Nat} {P : PT} {G : KT} (hC : Clo lay (d + 1) mM_joins P G) {v0 : Nat} {v1 : Int32} {v2 : Int32} {v3 : Int32} {v4 : Int32} {s0 : Int32} {s1 : Int32} {s2 : Nat} {μ : Mem}
    (h : (vp_in s1 9 ∧ (vp_in v3 9 ∧ (vp_in v4 9 ∧ ((((upI μ s2 s1.toNatClampNeg s0).1 (v0 + 4) v3.toNatClampNeg) ≤ ((upI μ s2 s1.toNatClampNeg s0).1 (v0 + 4) v4.toNatClampNeg) → (vp_in v4 9 ∧ (vp_in v4 9 ∧ (∃ P116 : PT, Rn lay d mM_goes [rf 16 v0, vi v3] (upI (upI μ s2 s1.toNatClampNeg s0) (v0 + 4) v4.toNatClampNeg ((upI μ s2 s1.toNatClampNeg s0).1 (v0 + 4) v4.toNatClampNeg)) P116 ∧ ∀ μ116 : Mem, P116 none μ116 → (∃ P124 : PT, Rn lay d mM_hangsOn [rf 16 v0, vi v1] μ116 P124 ∧ ∀ (x124 : Int32) (μ124 : Mem), P124 (some (vi x124)) μ124 → G 24 [rf 16 v0, vi v1, vi (v2 + nI 1), vi x124, un] [] μ124))))) ∧ (¬ ((upI μ s2 s1.toNatClampNeg s0).1 (v0 + 4) v3.toNatClampNeg) ≤ ((upI μ s2 s1.toNatClampNeg s0).1 (v0 + 4) v4.toNatClampNeg) → (vp_in v3 9 ∧ (vp_in v4 9 ∧ (∃ P116 : PT, Rn lay d mM_goes [rf 16 v0, vi v3] (upI (upI μ s2 s1.toNatClampNeg s0) (v0 + 4) v4.toNatClampNeg ((upI μ s2 s1.toNatClampNeg s0).1 (v0 + 4) v3.toNatClampNeg)) P116 ∧ ∀ μ116 : Mem, P116 none μ116 → (∃ P124 : PT, Rn lay d mM_hangsOn [rf 16 v0, vi v1] μ116 P124 ∧ ∀ (x124 : Int32) (μ124 : Mem), P124 (some (vi x124)) μ124 → G 24 [rf 16 v0, vi v1, vi (v2 + nI 1), vi x124, un] [] μ124)))))))))) :
    G 74 [rf 16 v0, vi v1, vi v2, vi v3, vi v4] [vi s0, vi s1, rf 10009 s2] μ := seg hC [(24, [4]), (74, [])] 31 rfl h
theorem ok_M_undo : okB mM_undo = true := by decide +kernel
theorem g_M_undo_0 {lay : List Nat} {d : Nat} {P : PT} {G : KT} (hC : Clo lay (d + 1) mM_undo P G) {v0 : Nat} {μ : Mem}
    (h : ((¬ (μ.1 v0 8) = 0 → (∃ P13 : PT, Rn lay d mM_takesBack [rf 16 v0] μ P13 ∧ ∀ μ13 : Mem, P13 none μ13 → P (some (vi (μ13.1 v0 8))) μ13)) ∧ ((μ.1 v0 8) = 0 → (∃ P8 : PT, Rn lay d mM_no [rf 16 v0] μ P8 ∧ ∀ (x8 : Int32) (μ8 : Mem), P8 (some (vi x8)) μ8 → P (some (vi x8)) μ8)))) :
    G 0 [rf 16 v0] [] μ := seg hC [] 11 rfl h
theorem ok_M_sections : okB mM_sections = true := by decide +kernel
theorem g_M_sections_0 {lay : List Nat} {d : Nat} {P : PT} {G : KT} (hC : Clo lay d mM_sections P G) {v0 : Nat} {μ : Mem}
    (h : (((μ.1 v0 9) ≤ 0 → P (some (vi (nI 0))) μ) ∧ (¬ (μ.1 v0 9) ≤ 0 → P (some (vi ((μ.1 v0 9) - (nI 1)))) μ))) :
    G 0 [rf 16 v0] [] μ := seg hC [] 12 rfl h
theorem ok_M_comesCut : okB mM_comesCut = true := by decide +kernel
theorem g_M_comesCut_0 {lay : List Nat} {d : Nat} {P : PT} {G : KT} (hC : Clo lay d mM_comesCut P G) {v0 : Nat} {v1 : Int32} {μ : Mem}
    (h : G 2 [rf 16 v0, vi v1, vi (nI 0), un] [] μ) :
    G 0 [rf 16 v0, vi v1, un, un] [] μ := seg hC [(2, [3]), (26, [3]), (50, []), (75, [3])] 5 rfl h
theorem g_M_comesCut_2 {lay : List Nat} {d : Nat} {P : PT} {G : KT} (hC : Clo lay d mM_comesCut P G) {v0 : Nat} {v1 : Int32} {v2 : Int32} {μ : Mem}
    (h : (((μ.1 v0 9) ≤ v2 → G 26 [rf 16 v0, vi v1, vi v2, un] [] μ) ∧ (¬ (μ.1 v0 9) ≤ v2 → (vp_in v2 16 ∧ ((v1 ≤ (μ.1 (v0 + 7) v2.toNatClampNeg) → G 26 [rf 16 v0, vi v1, vi v2, un] [] μ) ∧ (¬ v1 ≤ (μ.1 (v0 + 7) v2.toNatClampNeg) → G 2 [rf 16 v0, vi v1, vi (v2 + nI 1), un] [] μ)))))) :
    G 2 [rf 16 v0, vi v1, vi v2, un] [] μ := seg hC [(2, [3]), (26, [3]), (50, []), (75, [3])] 15 rfl h
theorem g_M_comesCut_26 {lay : List Nat} {d : Nat} {P : PT} {G : KT} (hC : Clo lay d mM_comesCut P G) {v0 : Nat} {v1 : Int32} {v2 : Int32} {μ : Mem}
    (h : (((μ.1 v0 9) ≤ v2 → G 50 [rf 16 v0, vi v1, vi v2, vi (μ.1 v0 9)] [] μ) ∧ (¬ (μ.1 v0 9) ≤ v2 → (vp_in v2 16 ∧ ((¬ (μ.1 (v0 + 7) v2.toNatClampNeg) = v1 → G 50 [rf 16 v0, vi v1, vi v2, vi (μ.1 v0 9)] [] μ) ∧ ((μ.1 (v0 + 7) v2.toNatClampNeg) = v1 → P none μ)))))) :
    G 26 [rf 16 v0, vi v1, vi v2, un] [] μ := seg hC [(2, [3]), (26, [3]), (50, []), (75, [3])] 16 rfl h
theorem g_M_comesCut_50 {lay : List Nat} {d : Nat} {P : PT} {G : KT} (hC : Clo lay d mM_comesCut P G) {v0 : Nat} {v1 : Int32} {v2 : Int32} {v3 : Int32} {μ : Mem}
    (h : ((v3 ≤ v2 → G 75 [rf 16 v0, vi v1, vi v2, un] [] μ) ∧ (¬ v3 ≤ v2 → (vp_in (v3 - (nI 1)) 16 ∧ (vp_in v3 16 ∧ G 50 [rf 16 v0, vi v1, vi v2, vi (v3 + mI 0)] [] (upI μ (v0 + 7) v3.toNatClampNeg (μ.1 (v0 + 7) (v3 - (nI 1)).toNatClampNeg))))))) :
    G 50 [rf 16 v0, vi v1, vi v2, vi v3] [] μ := seg hC [(2, [3]), (26, [3]), (50, []), (75, [3])] 18 rfl h
theorem g_M_comesCut_75 {lay : List Nat} {d : Nat} {P : PT} {G : KT} (hC : Clo lay d mM_comesCut P G) {v0 : Nat} {v1 : Int32} {v2 : Int32} {μ : Mem}
    (h : (vp_in v2 16 ∧ P none (upI (upI μ (v0 + 7) v2.toNatClampNeg v1) v0 9 (((upI μ (v0 + 7) v2.toNatClampNeg v1).1 v0 9) + (nI 1))))) :
    G 75 [rf 16 v0, vi v1, vi v2, un] [] μ := seg hC [(2, [3]), (26, [3]), (50, []), (75, [3])] 15 rfl h
theorem ok_M_setCuts : okB mM_setCuts = true := by decide +kernel
theorem g_M_setCuts_0 {lay : List Nat} {d : Nat} {P : PT} {G : KT} (hC : Clo lay (d + 1) mM_setCuts P G) {v0 : Nat} {v1 : Int32} {μ : Mem}
    (h : G 7 [rf 16 v0, vi v1, vi (nI 0), un, un] [] (upI μ v0 9 (nI 0))) :
    G 0 [rf 16 v0, vi v1, un, un, un] [] μ := seg hC [(7, [3, 4]), (56, [3, 4]), (73, [4]), (122, [4])] 8 rfl h
theorem g_M_setCuts_7 {lay : List Nat} {d : Nat} {P : PT} {G : KT} (hC : Clo lay (d + 1) mM_setCuts P G) {v0 : Nat} {v1 : Int32} {v2 : Int32} {μ : Mem}
    (h : (((μ.1 v0 2) ≤ v2 → G 56 [rf 16 v0, vi v1, vi (nI 0), un, un] [] μ) ∧ (¬ (μ.1 v0 2) ≤ v2 → ((v2 = v1 → G 7 [rf 16 v0, vi v1, vi (v2 + nI 1), un, un] [] μ) ∧ (¬ v2 = v1 → (∃ P22 : PT, Rn lay d mM_isEmpty [rf 16 v0, vi v2] μ P22 ∧ ∀ (x22 : Int32) (μ22 : Mem), P22 (some (vi x22)) μ22 → ((¬ x22 = 0 → G 7 [rf 16 v0, vi v1, vi (v2 + nI 1), un, un] [] μ22) ∧ (x22 = 0 → (vp_in v2 9 ∧ (∃ P35 : PT, Rn lay d mM_comesCut [rf 16 v0, vi (μ22.1 (v0 + 3) v2.toNatClampNeg)] μ22 P35 ∧ ∀ μ35 : Mem, P35 none μ35 → (vp_in v2 9 ∧ (∃ P45 : PT, Rn lay d mM_comesCut [rf 16 v0, vi (μ35.1 (v0 + 4) v2.toNatClampNeg)] μ35 P45 ∧ ∀ μ45 : Mem, P45 none μ45 → G 7 [rf 16 v0, vi v1, vi (v2 + nI 1), un, un] [] μ45)))))))))))) :
    G 7 [rf 16 v0, vi v1, vi v2, un, un] [] μ := seg hC [(7, [3, 4]), (56, [3, 4]), (73, [4]), (122, [4])] 28 rfl h
theorem g_M_setCuts_56 {lay : List Nat} {d : Nat} {P : PT} {G : KT} (hC : Clo lay (d + 1) mM_setCuts P G) {v0 : Nat} {v1 : Int32} {v2 : Int32} {μ : Mem}
    (h : (∃ P58 : PT, Rn lay d mM_sections [rf 16 v0] μ P58 ∧ ∀ (x58 : Int32) (μ58 : Mem), P58 (some (vi x58)) μ58 → ((x58 ≤ v2 → P none μ58) ∧ (¬ x58 ≤ v2 → (vp_in v2 15 ∧ G 73 [rf 16 v0, vi v1, vi v2, vi (nI 0), un] [] (upI μ58 (v0 + 8) v2.toNatClampNeg (nI 0))))))) :
    G 56 [rf 16 v0, vi v1, vi v2, un, un] [] μ := seg hC [(7, [3, 4]), (56, [3, 4]), (73, [4]), (122, [4])] 14 rfl h
theorem g_M_setCuts_73 {lay : List Nat} {d : Nat} {P : PT} {G : KT} (hC : Clo lay (d + 1) mM_setCuts P G) {v0 : Nat} {v1 : Int32} {v2 : Int32} {v3 : Int32} {μ : Mem}
    (h : (((μ.1 v0 2) ≤ v3 → G 56 [rf 16 v0, vi v1, vi (v2 + nI 1), un, un] [] μ) ∧ (¬ (μ.1 v0 2) ≤ v3 → ((v3 = v1 → G 122 [rf 16 v0, vi v1, vi v2, vi v3, un] [] μ) ∧ (¬ v3 = v1 → (vp_in v3 9 ∧ (vp_in v2 16 ∧ (((μ.1 (v0 + 7) v2.toNatClampNeg) < (μ.1 (v0 + 3) v3.toNatClampNeg) → G 122 [rf 16 v0, vi v1, vi v2, vi v3, un] [] μ) ∧ (¬ (μ.1 (v0 + 7) v2.toNatClampNeg) < (μ.1 (v0 + 3) v3.toNatClampNeg) → (vp_in v3 9 ∧ (vp_in (v2 + (nI 1)) 16 ∧ (((μ.1 (v0 + 4) v3.toNatClampNeg) < (μ.1 (v0 + 7) (v2 + (nI 1)).toNatClampNeg) → G 122 [rf 16 v0, vi v1, vi v2, vi v3, un] [] μ) ∧ (¬ (μ.1 (v0 + 4) v3.toNatClampNeg) < (μ.1 (v0 + 7) (v2 + (nI 1)).toNatClampNeg) → (vp_in v2 15 ∧ (vp_in v2 15 ∧ G 73 [rf 16 v0, vi v1, vi v2, vi (v3 + nI 1), un] [] (upI μ (v0 + 8) v2.toNatClampNeg ((μ.1 (v0 + 8) v2.toNatClampNeg) ||| ((nI 1) <<< (v3 &&& 31))))))))))))))))))) :
    G 73 [rf 16 v0, vi v1, vi v2, vi v3, un] [] μ := seg hC [(7, [3, 4]), (56, [3, 4]), (73, [4]), (122, [4])] 48 rfl (⟨fun q1 => (h.1 q1), fun q1 => ⟨fun q2 => ((h.2 q1).1 q2), fun q2 => ⟨((h.2 q1).2 q2).1, ⟨((h.2 q1).2 q2).2.1, ⟨fun q3 => (((h.2 q1).2 q2).2.2.1 q3), fun q3 => ⟨(((h.2 q1).2 q2).2.2.2 q3).1, ⟨(((h.2 q1).2 q2).2.2.2 q3).2.1, ⟨fun q4 => ((((h.2 q1).2 q2).2.2.2 q3).2.2.1 q4), fun q4 => ⟨((((h.2 q1).2 q2).2.2.2 q3).2.2.2 q4).1, ⟨fun q => absurd q (by decide), fun _ => ((((h.2 q1).2 q2).2.2.2 q3).2.2.2 q4).2⟩⟩⟩⟩⟩⟩⟩⟩⟩⟩)
theorem g_M_setCuts_122 {lay : List Nat} {d : Nat} {P : PT} {G : KT} (hC : Clo lay (d + 1) mM_setCuts P G) {v0 : Nat} {v1 : Int32} {v2 : Int32} {v3 : Int32} {μ : Mem}
    (h : (vp_in v2 15 ∧ (vp_in v2 15 ∧ G 73 [rf 16 v0, vi v1, vi v2, vi (v3 + nI 1), un] [] (upI μ (v0 + 8) v2.toNatClampNeg ((μ.1 (v0 + 8) v2.toNatClampNeg) ||| (nI 0)))))) :
    G 122 [rf 16 v0, vi v1, vi v2, vi v3, un] [] μ := seg hC [(7, [3, 4]), (56, [3, 4]), (73, [4]), (122, [4])] 17 rfl (⟨h.1, ⟨fun _ => h.2, fun q => absurd (by decide) q⟩⟩)
theorem ok_M_nextRow : okB mM_nextRow = true := by decide +kernel
theorem g_M_nextRow_0 {lay : List Nat} {d : Nat} {P : PT} {G : KT} (hC : Clo lay d mM_nextRow P G) {v0 : Nat} {v1 : Int32} {μ : Mem}
    (h : G 4 [rf 16 v0, vi v1, vi (v1 - (nI 2)), un, un, un, un, un] [] μ) :
    G 0 [rf 16 v0, vi v1, un, un, un, un, un, un] [] μ := seg hC [(4, [3, 4, 5, 6, 7]), (31, [3, 4, 5, 6, 7]), (41, [4, 5, 6, 7]), (100, [1, 2, 3, 4, 7])] 7 rfl h
theorem g_M_nextRow_4 {lay : List Nat} {d : Nat} {P : PT} {G : KT} (hC : Clo lay d mM_nextRow P G) {v0 : Nat} {v1 : Int32} {v2 : Int32} {μ : Mem}
    (h : ((v2 < 0 → G 31 [rf 16 v0, vi v1, vi v2, un, un, un, un, un] [] μ) ∧ (¬ v2 < 0 → (vp_in v2 5 ∧ (vp_in (v2 + (nI 1)) 5 ∧ (((μ.1 (v0 + 14) v2.toNatClampNeg) ≤ (μ.1 (v0 + 14) (v2 + (nI 1)).toNatClampNeg) → G 31 [rf 16 v0, vi v1, vi v2, un, un, un, un, un] [] μ) ∧ (¬ (μ.1 (v0 + 14) v2.toNatClampNeg) ≤ (μ.1 (v0 + 14) (v2 + (nI 1)).toNatClampNeg) → G 4 [rf 16 v0, vi v1, vi (v2 + mI 0), un, un, un, un, un] [] μ))))))) :
    G 4 [rf 16 v0, vi v1, vi v2, un, un, un, un, un] [] μ := seg hC [(4, [3, 4, 5, 6, 7]), (31, [3, 4, 5, 6, 7]), (41, [4, 5, 6, 7]), (100, [1, 2, 3, 4, 7])] 18 rfl h
theorem g_M_nextRow_31 {lay : List Nat} {d : Nat} {P : PT} {G : KT} (hC : Clo lay d mM_nextRow P G) {v0 : Nat} {v1 : Int32} {v2 : Int32} {μ : Mem}
    (h : ((0 ≤ v2 → G 41 [rf 16 v0, vi v1, vi v2, vi (v1 - (nI 1)), un, un, un, un] [] μ) ∧ (¬ 0 ≤ v2 → P (some (vi (nI 0))) μ))) :
    G 31 [rf 16 v0, vi v1, vi v2, un, un, un, un, un] [] μ := seg hC [(4, [3, 4, 5, 6, 7]), (31, [3, 4, 5, 6, 7]), (41, [4, 5, 6, 7]), (100, [1, 2, 3, 4, 7])] 9 rfl (⟨fun q1 => (h.1 q1), fun q1 => ⟨Or.inl (by decide), (h.2 q1)⟩⟩)
theorem g_M_nextRow_41 {lay : List Nat} {d : Nat} {P : PT} {G : KT} (hC : Clo lay d mM_nextRow P G) {v0 : Nat} {v1 : Int32} {v2 : Int32} {v3 : Int32} {μ : Mem}
    (h : (vp_in v3 5 ∧ (vp_in v2 5 ∧ (((μ.1 (v0 + 14) v2.toNatClampNeg) ≤ (μ.1 (v0 + 14) v3.toNatClampNeg) → (vp_in v2 5 ∧ (vp_in v3 5 ∧ (vp_in v2 5 ∧ (vp_in v3 5 ∧ G 100 [rf 16 v0, un, un, un, un, vi (v1 - (nI 1)), vi (v2 + (nI 1)), un] [] (upI (upI μ (v0 + 14) v2.toNatClampNeg (μ.1 (v0 + 14) v3.toNatClampNeg)) (v0 + 14) v3.toNatClampNeg (μ.1 (v0 + 14) v2.toNatClampNeg))))))) ∧ (¬ (μ.1 (v0 + 14) v2.toNatClampNeg) ≤ (μ.1 (v0 + 14) v3.toNatClampNeg) → G 41 [rf 16 v0, vi v1, vi v2, vi (v3 + mI 0), un, un, un, un] [] μ))))) :
    G 41 [rf 16 v0, vi v1, vi v2, vi v3, un, un, un, un] [] μ := seg hC [(4, [3, 4, 5, 6, 7]), (31, [3, 4, 5, 6, 7]), (41, [4, 5, 6, 7]), (100, [1, 2, 3, 4, 7])] 38 rfl h
theorem g_M_nextRow_100 {lay : List Nat} {d : Nat} {P : PT} {G : KT} (hC : Clo lay d mM_nextRow P G) {v0 : Nat} {v5 : Int32} {v6 : Int32} {μ : Mem}
    (h : ((v5 ≤ v6 → P (some (vi (nI 1))) μ) ∧ (¬ v5 ≤ v6 → (vp_in v6 5 ∧ (vp_in v5 5 ∧ (vp_in v6 5 ∧ (vp_in v5 5 ∧ G 100 [rf 16 v0, un, un, un, un, vi (v5 + mI 0), vi (v6 + nI 1), un] [] (upI (upI μ (v0 + 14) v6.toNatClampNeg (μ.1 (v0 + 14) v5.toNatClampNeg)) (v0 + 14) v5.toNatClampNeg (μ.1 (v0 + 14) v6.toNatClampNeg))))))))) :
    G 100 [rf 16 v0, un, un, un, un, vi v5, vi v6, un] [] μ := seg hC [(4, [3, 4, 5, 6, 7]), (31, [3, 4, 5, 6, 7]), (41, [4, 5, 6, 7]), (100, [1, 2, 3, 4, 7])] 27 rfl (⟨fun q1 => ⟨Or.inr (by decide), (h.1 q1)⟩, fun q1 => (h.2 q1)⟩)
theorem ok_M_mayStack : okB mM_mayStack = true := by decide +kernel
theorem g_M_mayStack_0 {lay : List Nat} {d : Nat} {P : PT} {G : KT} (hC : Clo lay d mM_mayStack P G) {v0 : Nat} {v1 : Int32} {v2 : Int32} {μ : Mem}
    (h : G 5 [rf 16 v0, vi v1, vi v2, vi (nI 1), vi (nI 1)] [] μ) :
    G 0 [rf 16 v0, vi v1, vi v2, un, un] [] μ := seg hC [(5, [])] 7 rfl h
theorem g_M_mayStack_5 {lay : List Nat} {d : Nat} {P : PT} {G : KT} (hC : Clo lay d mM_mayStack P G) {v0 : Nat} {v1 : Int32} {v2 : Int32} {v3 : Int32} {v4 : Int32} {μ : Mem}
    (h : ((v1 ≤ v4 → ((v3 = 0 ∨ v3 = 1) ∧ P (some (vi v3)) μ)) ∧ (¬ v1 ≤ v4 → ((v3 = 0 → G 5 [rf 16 v0, vi v1, vi v2, vi (nI 0), vi (v4 + nI 1)] [] μ) ∧ (¬ v3 = 0 → ((¬ v2 = 0 → G 5 [rf 16 v0, vi v1, vi v2, vi (nI 1), vi (v4 + nI 1)] [] μ) ∧ (v2 = 0 → (vp_in (v4 - (nI 1)) 5 ∧ (vp_in (μ.1 (v0 + 14) (v4 - (nI 1)).toNatClampNeg) 9 ∧ (vp_in (μ.1 (v0 + 2) (μ.1 (v0 + 14) (v4 - (nI 1)).toNatClampNeg).toNatClampNeg) 4 ∧ (vp_in v4 5 ∧ (vp_in (μ.1 (v0 + 14) v4.toNatClampNeg) 9 ∧ (vp_in (μ.1 (v0 + 2) (μ.1 (v0 + 14) v4.toNatClampNeg).toNatClampNeg) 4 ∧ (((μ.1 (v0 + 5) (μ.1 (v0 + 2) (μ.1 (v0 + 14) v4.toNatClampNeg).toNatClampNeg).toNatClampNeg) < (μ.1 (v0 + 5) (μ.1 (v0 + 2) (μ.1 (v0 + 14) (v4 - (nI 1)).toNatClampNeg).toNatClampNeg).toNatClampNeg) → G 5 [rf 16 v0, vi v1, vi v2, vi (nI 0), vi (v4 + nI 1)] [] μ) ∧ (¬ (μ.1 (v0 + 5) (μ.1 (v0 + 2) (μ.1 (v0 + 14) v4.toNatClampNeg).toNatClampNeg).toNatClampNeg) < (μ.1 (v0 + 5) (μ.1 (v0 + 2) (μ.1 (v0 + 14) (v4 - (nI 1)).toNatClampNeg).toNatClampNeg).toNatClampNeg) → G 5 [rf 16 v0, vi v1, vi v2, vi (nI 1), vi (v4 + nI 1)] [] μ))))))))))))))) :
    G 5 [rf 16 v0, vi v1, vi v2, vi v3, vi v4] [] μ := seg hC [(5, [])] 38 rfl h
theorem ok_M_setStacks : okB mM_setStacks = true := by decide +kernel
theorem g_M_setStacks_0 {lay : List Nat} {d : Nat} {P : PT} {G : KT} (hC : Clo lay (d + 1) mM_setStacks P G) {v0 : Nat} {v1 : Int32} {μ : Mem}
    (h : G 2 [rf 16 v0, vi v1, vi (nI 0), un, un, un, un] [] μ) :
    G 0 [rf 16 v0, vi v1, un, un, un, un, un] [] μ := seg hC [(2, [3, 4, 5, 6]), (15, [5, 6]), (65, [5, 6]), (85, [4]), (112, [4, 6])] 5 rfl h
theorem g_M_setStacks_2 {lay : List Nat} {d : Nat} {P : PT} {G : KT} (hC : Clo lay (d + 1) mM_setStacks P G) {v0 : Nat} {v1 : Int32} {v2 : Int32} {μ : Mem}
    (h : (∃ P4 : PT, Rn lay d mM_sections [rf 16 v0] μ P4 ∧ ∀ (x4 : Int32) (μ4 : Mem), P4 (some (vi x4)) μ4 → ((x4 ≤ v2 → P none μ4) ∧ (¬ x4 ≤ v2 → G 15 [rf 16 v0, vi v1, vi v2, vi (nI 0), vi (nI 0), un, un] [] μ4)))) :
    G 2 [rf 16 v0, vi v1, vi v2, un, un, un, un] [] μ := seg hC [(2, [3, 4, 5, 6]), (15, [5, 6]), (65, [5, 6]), (85, [4]), (112, [4, 6])] 11 rfl h
theorem g_M_setStacks_15 {lay : List Nat} {d : Nat} {P : PT} {G : KT} (hC : Clo lay (d + 1) mM_setStacks P G) {v0 : Nat} {v1 : Int32} {v2 : Int32} {v3 : Int32} {v4 : Int32} {μ : Mem}
    (h : (((μ.1 v0 2) ≤ v4 → (vp_in v2 15 ∧ G 65 [rf 16 v0, vi v1, vi v2, vi v3, vi (nI 1), un, un] [] (upI μ (v0 + 9) v2.toNatClampNeg (nI 0)))) ∧ (¬ (μ.1 v0 2) ≤ v4 → (vp_in v2 15 ∧ (∃ P32 : PT, Rn lay d mM_has [vi (μ.1 (v0 + 8) v2.toNatClampNeg), vi v4] μ P32 ∧ ∀ (x32 : Int32) (μ32 : Mem), P32 (some (vi x32)) μ32 → ((x32 = 0 → G 15 [rf 16 v0, vi v1, vi v2, vi v3, vi (v4 + nI 1), un, un] [] μ32) ∧ (¬ x32 = 0 → (vp_in v3 5 ∧ G 15 [rf 16 v0, vi v1, vi v2, vi (v3 + nI 1), vi (v4 + nI 1), un, un] [] (upI μ32 (v0 + 14) v3.toNatClampNeg v4))))))))) :
    G 15 [rf 16 v0, vi v1, vi v2, vi v3, vi v4, un, un] [] μ := seg hC [(2, [3, 4, 5, 6]), (15, [5, 6]), (65, [5, 6]), (85, [4]), (112, [4, 6])] 22 rfl h
theorem g_M_setStacks_65 {lay : List Nat} {d : Nat} {P : PT} {G : KT} (hC : Clo lay (d + 1) mM_setStacks P G) {v0 : Nat} {v1 : Int32} {v2 : Int32} {v3 : Int32} {v4 : Int32} {μ : Mem}
    (h : ((v4 = 0 → G 2 [rf 16 v0, vi v1, vi (v2 + nI 1), un, un, un, un] [] μ) ∧ (¬ v4 = 0 → (∃ P73 : PT, Rn lay d mM_mayStack [rf 16 v0, vi v3, vi v1] μ P73 ∧ ∀ (x73 : Int32) (μ73 : Mem), P73 (some (vi x73)) μ73 → ((x73 = 0 → (∃ P142 : PT, Rn lay d mM_nextRow [rf 16 v0, vi v3] μ73 P142 ∧ ∀ (x142 : Int32) (μ142 : Mem), P142 (some (vi x142)) μ142 → G 65 [rf 16 v0, vi v1, vi v2, vi v3, vi x142, un, un] [] μ142)) ∧ (¬ x73 = 0 → G 85 [rf 16 v0, vi v1, vi v2, vi v3, un, vi (nI 0), vi (nI 0)] [] μ73)))))) :
    G 65 [rf 16 v0, vi v1, vi v2, vi v3, vi v4, un, un] [] μ := seg hC [(2, [3, 4, 5, 6]), (15, [5, 6]), (65, [5, 6]), (85, [4]), (112, [4, 6])] 15 rfl h
theorem g_M_setStacks_85 {lay : List Nat} {d : Nat} {P : PT} {G : KT} (hC : Clo lay (d + 1) mM_setStacks P G) {v0 : Nat} {v1 : Int32} {v2 : Int32} {v3 : Int32} {v5 : Int32} {v6 : Int32} {μ : Mem}
    (h : ((v3 ≤ v6 → G 112 [rf 16 v0, vi v1, vi v2, vi v3, un, vi v5, un] [] μ) ∧ (¬ v3 ≤ v6 → (vp_in v6 5 ∧ G 85 [rf 16 v0, vi v1, vi v2, vi v3, un, vi (((nI 8) * v5) + (μ.1 (v0 + 14) v6.toNatClampNeg)), vi (v6 + nI 1)] [] μ)))) :
    G 85 [rf 16 v0, vi v1, vi v2, vi v3, un, vi v5, vi v6] [] μ := seg hC [(2, [3, 4, 5, 6]), (15, [5, 6]), (65, [5, 6]), (85, [4]), (112, [4, 6])] 17 rfl h
theorem g_M_setStacks_112 {lay : List Nat} {d : Nat} {P : PT} {G : KT} (hC : Clo lay (d + 1) mM_setStacks P G) {v0 : Nat} {v1 : Int32} {v2 : Int32} {v3 : Int32} {v5 : Int32} {μ : Mem}
    (h : (vp_in v2 15 ∧ (vp_in (((nI 120) * v2) + (μ.1 (v0 + 9) v2.toNatClampNeg)) 1800 ∧ (vp_in v2 15 ∧ (vp_in v2 15 ∧ (∃ P142 : PT, Rn lay d mM_nextRow [rf 16 v0, vi v3] (upI (upI μ (v0 + 10) (((nI 120) * v2) + (μ.1 (v0 + 9) v2.toNatClampNeg)).toNatClampNeg v5) (v0 + 9) v2.toNatClampNeg (((upI μ (v0 + 10) (((nI 120) * v2) + (μ.1 (v0 + 9) v2.toNatClampNeg)).toNatClampNeg v5).1 (v0 + 9) v2.toNatClampNeg) + (nI 1))) P142 ∧ ∀ (x142 : Int32) (μ142 : Mem), P142 (some (vi x142)) μ142 → G 65 [rf 16 v0, vi v1, vi v2, vi v3, vi x142, un, un] [] μ142)))))) :
    G 112 [rf 16 v0, vi v1, vi v2, vi v3, un, vi v5, un] [] μ := seg hC [(2, [3, 4, 5, 6]), (15, [5, 6]), (65, [5, 6]), (85, [4]), (112, [4, 6])] 28 rfl h
theorem ok_M_rangeAt : okB mM_rangeAt = true := by decide +kernel
theorem g_M_rangeAt_0 {lay : List Nat} {d : Nat} {P : PT} {G : KT} (hC : Clo lay (d + 1) mM_rangeAt P G) {v0 : Nat} {v1 : Int32} {v2 : Int32} {v3 : Int32} {μ : Mem}
    (h : (vp_in (((nI 120) * v1) + v2) 1800 ∧ (vp_in v1 15 ∧ (∃ P19 : PT, Rn lay d mM_bits [vi (μ.1 (v0 + 8) v1.toNatClampNeg)] μ P19 ∧ ∀ (x19 : Int32) (μ19 : Mem), P19 (some (vi x19)) μ19 → G 26 [un, un, un, vi v3, vi (μ.1 (v0 + 10) (((nI 120) * v1) + v2).toNatClampNeg), vi (x19 - (nI 1))] [] μ19)))) :
    G 0 [rf 16 v0, vi v1, vi v2, vi v3, un, un] [] μ := seg hC [(26, [0, 1, 2])] 20 rfl h
theorem g_M_rangeAt_26 {lay : List Nat} {d : Nat} {P : PT} {G : KT} (hC : Clo lay (d + 1) mM_rangeAt P G) {v3 : Int32} {v4 : Int32} {v5 : Int32} {μ : Mem}
    (h : ((v5 ≤ v3 → P (some (vi (v4 - v4 / (nI 8) * (nI 8)))) μ) ∧ (¬ v5 ≤ v3 → G 26 [un, un, un, vi v3, vi (v4 / (nI 8)), vi (v5 + mI 0)] [] μ))) :
    G 26 [un, un, un, vi v3, vi v4, vi v5] [] μ := seg hC [(26, [0, 1, 2])] 12 rfl (⟨fun q1 => ⟨by decide, (h.1 q1)⟩, fun q1 => ⟨by decide, (h.2 q1)⟩⟩)
theorem ok_M_splitsBy : okB mM_splitsBy = true := by decide +kernel
theorem g_M_splitsBy_0 {lay : List Nat} {d : Nat} {P : PT} {G : KT} (hC : Clo lay (d + 1) mM_splitsBy P G) {v0 : Nat} {v1 : Int32} {v2 : Int32} {v3 : Int32} {μ : Mem}
    (h : (vp_in v1 15 ∧ (∃ P6 : PT, Rn lay d mM_bits [vi (μ.1 (v0 + 8) v1.toNatClampNeg)] μ P6 ∧ ∀ (x6 : Int32) (μ6 : Mem), P6 (some (vi x6)) μ6 → (vp_in (v1 + (nI 1)) 15 ∧ (∃ P19 : PT, Rn lay d mM_bits [vi (μ6.1 (v0 + 8) (v1 + (nI 1)).toNatClampNeg)] μ6 P19 ∧ ∀ (x19 : Int32) (μ19 : Mem), P19 (some (vi x19)) μ19 → G 27 [rf 16 v0, vi v1, vi v2, vi v3, vi x6, vi x19, vi (nI 0)] [] μ19))))) :
    G 0 [rf 16 v0, vi v1, vi v2, vi v3, un, un, un] [] μ := seg hC [(27, []), (68, [2, 3, 4, 5])] 19 rfl h
theorem g_M_splitsBy_27 {lay : List Nat} {d : Nat} {P : PT} {G : KT} (hC : Clo lay (d + 1) mM_splitsBy P G) {v0 : Nat} {v1 : Int32} {v2 : Int32} {v3 : Int32} {v4 : Int32} {v5 : Int32} {v6 : Int32} {μ : Mem}
    (h : ((v4 ≤ v6 → G 68 [rf 16 v0, vi v1, un, un, un, un, vi v6] [] μ) ∧ (¬ v4 ≤ v6 → ((v5 ≤ v6 → G 68 [rf 16 v0, vi v1, un, un, un, un, vi v6] [] μ) ∧ (¬ v5 ≤ v6 → (∃ P46 : PT, Rn lay d mM_rangeAt [rf 16 v0, vi v1, vi v2, vi v6] μ P46 ∧ ∀ (x46 : Int32) (μ46 : Mem), P46 (some (vi x46)) μ46 → (∃ P56 : PT, Rn lay d mM_rangeAt [rf 16 v0, vi (v1 + (nI 1)), vi v3, vi v6] μ46 P56 ∧ ∀ (x56 : Int32) (μ56 : Mem), P56 (some (vi x56)) μ56 → ((¬ x46 = x56 → G 68 [rf 16 v0, vi v1, un, un, un, un, vi v6] [] μ56) ∧ (x46 = x56 → G 27 [rf 16 v0, vi v1, vi v2, vi v3, vi v4, vi v5, vi (v6 + nI 1)] [] μ56))))))))) :
    G 27 [rf 16 v0, vi v1, vi v2, vi v3, vi v4, vi v5, vi v6] [] μ := seg hC [(27, []), (68, [2, 3, 4, 5])] 24 rfl h
theorem g_M_splitsBy_68 {lay : List Nat} {d : Nat} {P : PT} {G : KT} (hC : Clo lay (d + 1) mM_splitsBy P G) {v0 : Nat} {v1 : Int32} {v6 : Int32} {μ : Mem}
    (h : (vp_in v1 15 ∧ (vp_in (v1 + (nI 1)) 15 ∧ (∃ P83 : PT, Rn lay d mM_bits [vi ((μ.1 (v0 + 8) v1.toNatClampNeg) &&& (μ.1 (v0 + 8) (v1 + (nI 1)).toNatClampNeg))] μ P83 ∧ ∀ (x83 : Int32) (μ83 : Mem), P83 (some (vi x83)) μ83 → P (some (vi (x83 - v6))) μ83)))) :
    G 68 [rf 16 v0, vi v1, un, un, un, un, vi v6] [] μ := seg hC [(27, []), (68, [2, 3, 4, 5])] 18 rfl h
theorem ok_M_setLeast : okB mM_setLeast = true := by decide +kernel
theorem g_M_setLeast_0 {lay : List Nat} {d : Nat} {P : PT} {G : KT} (hC : Clo lay (d + 1) mM_setLeast P G) {v0 : Nat} {v1 : Int32} {v2 : Int32} {μ : Mem}
    (h : (∃ P14 : PT, Rn lay d mM_sections [rf 16 v0] μ P14 ∧ ∀ (x14 : Int32) (μ14 : Mem), P14 (some (vi x14)) μ14 → ((¬ v1 = (x14 - (nI 1)) → (vp_in (((nI 120) * v1) + v2) 1800 ∧ (∃ P36 : PT, Rn lay d mM_sections [rf 16 v0] (upI μ14 (v0 + 11) (((nI 120) * v1) + v2).toNatClampNeg (nI 1048576)) P36 ∧ ∀ (x36 : Int32) (μ36 : Mem), P36 (some (vi x36)) μ36 → ((¬ v1 = (x36 - (nI 1)) → (vp_in (((nI 120) * v1) + v2) 1800 ∧ G 53 [rf 16 v0, vi v1, vi v2, vi (((nI 120) * v1) + v2), vi (nI 0), un] [] (upL μ36 (v0 + 12) (((nI 120) * v1) + v2).toNatClampNeg (lN 0)))) ∧ (v1 = (x36 - (nI 1)) → (vp_in (((nI 120) * v1) + v2) 1800 ∧ G 53 [rf 16 v0, vi v1, vi v2, vi (((nI 120) * v1) + v2), vi (nI 0), un] [] (upL μ36 (v0 + 12) (((nI 120) * v1) + v2).toNatClampNeg (lN 1)))))))) ∧ (v1 = (x14 - (nI 1)) → (vp_in (((nI 120) * v1) + v2) 1800 ∧ (∃ P36 : PT, Rn lay d mM_sections [rf 16 v0] (upI μ14 (v0 + 11) (((nI 120) * v1) + v2).toNatClampNeg (nI 0)) P36 ∧ ∀ (x36 : Int32) (μ36 : Mem), P36 (some (vi x36)) μ36 → ((¬ v1 = (x36 - (nI 1)) → (vp_in (((nI 120) * v1) + v2) 1800 ∧ G 53 [rf 16 v0, vi v1, vi v2, vi (((nI 120) * v1) + v2), vi (nI 0), un] [] (upL μ36 (v0 + 12) (((nI 120) * v1) + v2).toNatClampNeg (lN 0)))) ∧ (v1 = (x36 - (nI 1)) → (vp_in (((nI 120) * v1) + v2) 1800 ∧ G 53 [rf 16 v0, vi v1, vi v2, vi (((nI 120) * v1) + v2), vi (nI 0), un] [] (upL μ36 (v0 + 12) (((nI 120) * v1) + v2).toNatClampNeg (lN 1))))))))))) :
    G 0 [rf 16 v0, vi v1, vi v2, un, un, un] [] μ := seg hC [(53, [5]), (127, [])] 35 rfl h
theorem g_M_setLeast_53 {lay : List Nat} {d : Nat} {P : PT} {G : KT} (hC : Clo lay (d + 1) mM_setLeast P G) {v0 : Nat} {v1 : Int32} {v2 : Int32} {v3 : Int32} {v4 : Int32} {μ : Mem}
    (h : (∃ P55 : PT, Rn lay d mM_sections [rf 16 v0] μ P55 ∧ ∀ (x55 : Int32) (μ55 : Mem), P55 (some (vi x55)) μ55 → (((x55 - (nI 1)) ≤ v1 → P none μ55) ∧ (¬ (x55 - (nI 1)) ≤ v1 → (vp_in (v1 + (nI 1)) 15 ∧ (((μ55.1 (v0 + 9) (v1 + (nI 1)).toNatClampNeg) ≤ v4 → P none μ55) ∧ (¬ (μ55.1 (v0 + 9) (v1 + (nI 1)).toNatClampNeg) ≤ v4 → (∃ P81 : PT, Rn lay d mM_splitsBy [rf 16 v0, vi v1, vi v2, vi v4] μ55 P81 ∧ ∀ (x81 : Int32) (μ81 : Mem), P81 (some (vi x81)) μ81 → (vp_in (((v3 + (nI 120)) - v2) + v4) 1800 ∧ (vp_in v3 1800 ∧ (((μ81.1 (v0 + 11) v3.toNatClampNeg) ≤ (x81 + (μ81.1 (v0 + 11) (((v3 + (nI 120)) - v2) + v4).toNatClampNeg)) → G 127 [rf 16 v0, vi v1, vi v2, vi v3, vi v4, vi (x81 + (μ81.1 (v0 + 11) (((v3 + (nI 120)) - v2) + v4).toNatClampNeg))] [] μ81) ∧ (¬ (μ81.1 (v0 + 11) v3.toNatClampNeg) ≤ (x81 + (μ81.1 (v0 + 11) (((v3 + (nI 120)) - v2) + v4).toNatClampNeg)) → (vp_in v3 1800 ∧ (vp_in v3 1800 ∧ G 127 [rf 16 v0, vi v1, vi v2, vi v3, vi v4, vi (x81 + (μ81.1 (v0 + 11) (((v3 + (nI 120)) - v2) + v4).toNatClampNeg))] [] (upL (upI μ81 (v0 + 11) v3.toNatClampNeg (x81 + (μ81.1 (v0 + 11) (((v3 + (nI 120)) - v2) + v4).toNatClampNeg))) (v0 + 12) v3.toNatClampNeg (lN 0)))))))))))))))) :
    G 53 [rf 16 v0, vi v1, vi v2, vi v3, vi v4, un] [] μ := seg hC [(53, [5]), (127, [])] 50 rfl h
theorem g_M_setLeast_127 {lay : List Nat} {d : Nat} {P : PT} {G : KT} (hC : Clo lay (d + 1) mM_setLeast P G) {v0 : Nat} {v1 : Int32} {v2 : Int32} {v3 : Int32} {v4 : Int32} {v5 : Int32} {μ : Mem}
    (h : (vp_in v3 1800 ∧ (vp_in v3 1800 ∧ ((¬ v5 = (μ.1 (v0 + 11) v3.toNatClampNeg) → (vp_in v3 1800 ∧ (vp_in v3 1800 ∧ (((lg_cmp ((upL μ (v0 + 12) v3.toNatClampNeg ((μ.2 (v0 + 12) v3.toNatClampNeg) + (lN 0))).2 (v0 + 12) v3.toNatClampNeg) (lN 1000000000)) ≤ 0 → (vp_in v3 1800 ∧ (vp_in v3 1800 ∧ G 53 [rf 16 v0, vi v1, vi v2, vi v3, vi (v4 + nI 1), un] [] (upL (upL μ (v0 + 12) v3.toNatClampNeg ((μ.2 (v0 + 12) v3.toNatClampNeg) + (lN 0))) (v0 + 12) v3.toNatClampNeg ((upL μ (v0 + 12) v3.toNatClampNeg ((μ.2 (v0 + 12) v3.toNatClampNeg) + (lN 0))).2 (v0 + 12) v3.toNatClampNeg))))) ∧ (¬ (lg_cmp ((upL μ (v0 + 12) v3.toNatClampNeg ((μ.2 (v0 + 12) v3.toNatClampNeg) + (lN 0))).2 (v0 + 12) v3.toNatClampNeg) (lN 1000000000)) ≤ 0 → (vp_in v3 1800 ∧ G 53 [rf 16 v0, vi v1, vi v2, vi v3, vi (v4 + nI 1), un] [] (upL (upL μ (v0 + 12) v3.toNatClampNeg ((μ.2 (v0 + 12) v3.toNatClampNeg) + (lN 0))) (v0 + 12) v3.toNatClampNeg (lN 1000000000)))))))) ∧ (v5 = (μ.1 (v0 + 11) v3.toNatClampNeg) → (vp_in (((v3 + (nI 120)) - v2) + v4) 1800 ∧ (vp_in v3 1800 ∧ (vp_in v3 1800 ∧ (((lg_cmp ((upL μ (v0 + 12) v3.toNatClampNeg ((μ.2 (v0 + 12) v3.toNatClampNeg) + (μ.2 (v0 + 12) (((v3 + (nI 120)) - v2) + v4).toNatClampNeg))).2 (v0 + 12) v3.toNatClampNeg) (lN 1000000000)) ≤ 0 → (vp_in v3 1800 ∧ (vp_in v3 1800 ∧ G 53 [rf 16 v0, vi v1, vi v2, vi v3, vi (v4 + nI 1), un] [] (upL (upL μ (v0 + 12) v3.toNatClampNeg ((μ.2 (v0 + 12) v3.toNatClampNeg) + (μ.2 (v0 + 12) (((v3 + (nI 120)) - v2) + v4).toNatClampNeg))) (v0 + 12) v3.toNatClampNeg ((upL μ (v0 + 12) v3.toNatClampNeg ((μ.2 (v0 + 12) v3.toNatClampNeg) + (μ.2 (v0 + 12) (((v3 + (nI 120)) - v2) + v4).toNatClampNeg))).2 (v0 + 12) v3.toNatClampNeg))))) ∧ (¬ (lg_cmp ((upL μ (v0 + 12) v3.toNatClampNeg ((μ.2 (v0 + 12) v3.toNatClampNeg) + (μ.2 (v0 + 12) (((v3 + (nI 120)) - v2) + v4).toNatClampNeg))).2 (v0 + 12) v3.toNatClampNeg) (lN 1000000000)) ≤ 0 → (vp_in v3 1800 ∧ G 53 [rf 16 v0, vi v1, vi v2, vi v3, vi (v4 + nI 1), un] [] (upL (upL μ (v0 + 12) v3.toNatClampNeg ((μ.2 (v0 + 12) v3.toNatClampNeg) + (μ.2 (v0 + 12) (((v3 + (nI 120)) - v2) + v4).toNatClampNeg))) (v0 + 12) v3.toNatClampNeg (lN 1000000000))))))))))))) :
    G 127 [rf 16 v0, vi v1, vi v2, vi v3, vi v4, vi v5] [] μ := seg hC [(53, [5]), (127, [])] 44 rfl h
theorem ok_M_setNest : okB mM_setNest = true := by decide +kernel
theorem g_M_setNest_0 {lay : List Nat} {d : Nat} {P : PT} {G : KT} (hC : Clo lay (d + 1) mM_setNest P G) {v0 : Nat} {v1 : Int32} {v2 : Int32} {μ : Mem}
    (h : (∃ P2 : PT, Rn lay d mM_setCuts [rf 16 v0, vi v1] μ P2 ∧ ∀ μ2 : Mem, P2 none μ2 → (∃ P7 : PT, Rn lay d mM_setStacks [rf 16 v0, vi v2] μ2 P7 ∧ ∀ μ7 : Mem, P7 none μ7 → (∃ P11 : PT, Rn lay d mM_sections [rf 16 v0] μ7 P11 ∧ ∀ (x11 : Int32) (μ11 : Mem), P11 (some (vi x11)) μ11 → G 20 [rf 16 v0, un, un, vi x11, vi (x11 - (nI 1)), un, un, un, un] [] μ11)))) :
    G 0 [rf 16 v0, vi v1, vi v2, un, un, un, un, un, un] [] μ := seg hC [(20, [1, 2, 5, 6, 7, 8]), (28, [1, 2, 6, 7, 8]), (67, [1, 2, 6, 7, 8]), (99, [1, 2, 6, 7, 8]), (151, [1, 2, 6, 7, 8]), (187, [1, 2, 8]), (278, [0, 1, 2, 5, 6, 7, 8])] 16 rfl h
theorem g_M_setNest_20 {lay : List Nat} {d : Nat} {P : PT} {G : KT} (hC : Clo lay (d + 1) mM_setNest P G) {v0 : Nat} {v3 : Int32} {v4 : Int32} {μ : Mem}
    (h : ((v4 < 0 → G 67 [rf 16 v0, un, un, vi v3, vi (nI 1048576), vi (nI 0), un, un, un] [] μ) ∧ (¬ v4 < 0 → G 28 [rf 16 v0, un, un, vi v3, vi v4, vi (nI 0), un, un, un] [] μ))) :
    G 20 [rf 16 v0, un, un, vi v3, vi v4, un, un, un, un] [] μ := seg hC [(20, [1, 2, 5, 6, 7, 8]), (28, [1, 2, 6, 7, 8]), (67, [1, 2, 6, 7, 8]), (99, [1, 2, 6, 7, 8]), (151, [1, 2, 6, 7, 8]), (187, [1, 2, 8]), (278, [0, 1, 2, 5, 6, 7, 8])] 9 rfl h
theorem g_M_setNest_28 {lay : List Nat} {d : Nat} {P : PT} {G : KT} (hC : Clo lay (d + 1) mM_setNest P G) {v0 : Nat} {v3 : Int32} {v4 : Int32} {v5 : Int32} {μ : Mem}
    (h : (vp_in v4 15 ∧ (((μ.1 (v0 + 9) v4.toNatClampNeg) ≤ v5 → G 20 [rf 16 v0, un, un, vi v3, vi (v4 + mI 0), un, un, un, un] [] μ) ∧ (¬ (μ.1 (v0 + 9) v4.toNatClampNeg) ≤ v5 → (∃ P45 : PT, Rn lay d mM_setLeast [rf 16 v0, vi v4, vi v5] μ P45 ∧ ∀ μ45 : Mem, P45 none μ45 → G 28 [rf 16 v0, un, un, vi v3, vi v4, vi (v5 + nI 1), un, un, un] [] μ45))))) :
    G 28 [rf 16 v0, un, un, vi v3, vi v4, vi v5, un, un, un] [] μ := seg hC [(20, [1, 2, 5, 6, 7, 8]), (28, [1, 2, 6, 7, 8]), (67, [1, 2, 6, 7, 8]), (99, [1, 2, 6, 7, 8]), (151, [1, 2, 6, 7, 8]), (187, [1, 2, 8]), (278, [0, 1, 2, 5, 6, 7, 8])] 15 rfl h
theorem g_M_setNest_67 {lay : List Nat} {d : Nat} {P : PT} {G : KT} (hC : Clo lay (d + 1) mM_setNest P G) {v0 : Nat} {v3 : Int32} {v4 : Int32} {v5 : Int32} {μ : Mem}
    (h : ((v3 ≤ 0 → G 151 [rf 16 v0, un, un, vi v3, vi v4, vi (nI 1), un, un, un] [] μ) ∧ (¬ v3 ≤ 0 → (vp_in (nI 0) 15 ∧ (((μ.1 (v0 + 9) (nI 0).toNatClampNeg) ≤ v5 → G 151 [rf 16 v0, un, un, vi v3, vi v4, vi (nI 1), un, un, un] [] μ) ∧ (¬ (μ.1 (v0 + 9) (nI 0).toNatClampNeg) ≤ v5 → (vp_in v5 1800 ∧ ((v4 ≤ (μ.1 (v0 + 11) v5.toNatClampNeg) → G 99 [rf 16 v0, un, un, vi v3, vi v4, vi v5, un, un, un] [vi (nI 0)] μ) ∧ (¬ v4 ≤ (μ.1 (v0 + 11) v5.toNatClampNeg) → G 99 [rf 16 v0, un, un, vi v3, vi v4, vi v5, un, un, un] [vi (nI 1)] μ))))))))) :
    G 67 [rf 16 v0, un, un, vi v3, vi v4, vi v5, un, un, un] [] μ := seg hC [(20, [1, 2, 5, 6, 7, 8]), (28, [1, 2, 6, 7, 8]), (67, [1, 2, 6, 7, 8]), (99, [1, 2, 6, 7, 8]), (151, [1, 2, 6, 7, 8]), (187, [1, 2, 8]), (278, [0, 1, 2, 5, 6, 7, 8])] 19 rfl h
theorem g_M_setNest_99 {lay : List Nat} {d : Nat} {P : PT} {G : KT} (hC : Clo lay (d + 1) mM_setNest P G) {v0 : Nat} {v3 : Int32} {v4 : Int32} {v5 : Int32} {s0 : Int32} {μ : Mem}
    (h : ((s0 = 0 → (vp_in (nI 0) 15 ∧ (vp_in (nI 0) 15 ∧ ((s0 = 0 → G 67 [rf 16 v0, un, un, vi v3, vi v4, vi (v5 + nI 1), un, un, un] [] (upI μ (v0 + 13) (nI 0).toNatClampNeg (μ.1 (v0 + 13) (nI 0).toNatClampNeg))) ∧ (¬ s0 = 0 → (vp_in v5 1800 ∧ G 67 [rf 16 v0, un, un, vi v3, vi ((upI μ (v0 + 13) (nI 0).toNatClampNeg (μ.1 (v0 + 13) (nI 0).toNatClampNeg)).1 (v0 + 11) v5.toNatClampNeg), vi (v5 + nI 1), un, un, un] [] (upI μ (v0 + 13) (nI 0).toNatClampNeg (μ.1 (v0 + 13) (nI 0).toNatClampNeg)))))))) ∧ (¬ s0 = 0 → (vp_in (nI 0) 15 ∧ ((s0 = 0 → G 67 [rf 16 v0, un, un, vi v3, vi v4, vi (v5 + nI 1), un, un, un] [] (upI μ (v0 + 13) (nI 0).toNatClampNeg v5)) ∧ (¬ s0 = 0 → (vp_in v5 1800 ∧ G 67 [rf 16 v0, un, un, vi v3, vi ((upI μ (v0 + 13) (nI 0).toNatClampNeg v5).1 (v0 + 11) v5.toNatClampNeg), vi (v5 + nI 1), un, un, un] [] (upI μ (v0 + 13) (nI 0).toNatClampNeg v5)))))))) :
    G 99 [rf 16 v0, un, un, vi v3, vi v4, vi v5, un, un, un] [vi s0] μ := seg hC [(20, [1, 2, 5, 6, 7, 8]), (28, [1, 2, 6, 7, 8]), (67, [1, 2, 6, 7, 8]), (99, [1, 2, 6, 7, 8]), (151, [1, 2, 6, 7, 8]), (187, [1, 2, 8]), (278, [0, 1, 2, 5, 6, 7, 8])] 24 rfl h
theorem g_M_setNest_151 {lay : List Nat} {d : Nat} {P : PT} {G : KT} (hC : Clo lay (d + 1) mM_setNest P G) {v0 : Nat} {v3 : Int32} {v4 : Int32} {v5 : Int32} {μ : Mem}
    (h : ((v3 ≤ v5 → G 278 [un, un, un, vi v3, vi v4, un, un, un, un] [] μ) ∧ (¬ v3 ≤ v5 → (vp_in (v5 - (nI 1)) 15 ∧ (vp_in v5 15 ∧ G 187 [rf 16 v0, un, un, vi v3, vi v4, vi v5, vi (((nI 120) * (v5 - (nI 1))) + (μ.1 (v0 + 13) (v5 - (nI 1)).toNatClampNeg)), vi ((μ.1 (v0 + 9) v5.toNatClampNeg) - (nI 1)), un] [] μ))))) :
    G 151 [rf 16 v0, un, un, vi v3, vi v4, vi v5, un, un, un] [] μ := seg hC [(20, [1, 2, 5, 6, 7, 8]), (28, [1, 2, 6, 7, 8]), (67, [1, 2, 6, 7, 8]), (99, [1, 2, 6, 7, 8]), (151, [1, 2, 6, 7, 8]), (187, [1, 2, 8]), (278, [0, 1, 2, 5, 6, 7, 8])] 26 rfl h
theorem g_M_setNest_187 {lay : List Nat} {d : Nat} {P : PT} {G : KT} (hC : Clo lay (d + 1) mM_setNest P G) {v0 : Nat} {v3 : Int32} {v4 : Int32} {v5 : Int32} {v6 : Int32} {v7 : Int32} {μ : Mem}
    (h : ((v7 < 0 → G 151 [rf 16 v0, un, un, vi v3, vi v4, vi (v5 + nI 1), un, un, un] [] μ) ∧ (¬ v7 < 0 → (vp_in (v5 - (nI 1)) 15 ∧ (∃ P208 : PT, Rn lay d mM_splitsBy [rf 16 v0, vi (v5 - (nI 1)), vi (μ.1 (v0 + 13) (v5 - (nI 1)).toNatClampNeg), vi v7] μ P208 ∧ ∀ (x208 : Int32) (μ208 : Mem), P208 (some (vi x208)) μ208 → (vp_in (((nI 120) * v5) + v7) 1800 ∧ (vp_in v6 1800 ∧ ((¬ (x208 + (μ208.1 (v0 + 11) (((nI 120) * v5) + v7).toNatClampNeg)) = (μ208.1 (v0 + 11) v6.toNatClampNeg) → (vp_in v5 15 ∧ (vp_in v5 15 ∧ G 187 [rf 16 v0, un, un, vi v3, vi v4, vi v5, vi v6, vi (v7 + mI 0), un] [] (upI μ208 (v0 + 13) v5.toNatClampNeg (μ208.1 (v0 + 13) v5.toNatClampNeg))))) ∧ ((x208 + (μ208.1 (v0 + 11) (((nI 120) * v5) + v7).toNatClampNeg)) = (μ208.1 (v0 + 11) v6.toNatClampNeg) → (vp_in v5 15 ∧ G 187 [rf 16 v0, un, un, vi v3, vi v4, vi v5, vi v6, vi (v7 + mI 0), un] [] (upI μ208 (v0 + 13) v5.toNatClampNeg v7))))))))))) :
    G 187 [rf 16 v0, un, un, vi v3, vi v4, vi v5, vi v6, vi v7, un] [] μ := seg hC [(20, [1, 2, 5, 6, 7, 8]), (28, [1, 2, 6, 7, 8]), (67, [1, 2, 6, 7, 8]), (99, [1, 2, 6, 7, 8]), (151, [1, 2, 6, 7, 8]), (187, [1, 2, 8]), (278, [0, 1, 2, 5, 6, 7, 8])] 45 rfl (⟨fun q1 => (h.1 q1), fun q1 => ⟨(h.2 q1).1, (match (h.2 q1).2 with | ⟨P208, c208, f208⟩ => ⟨P208, c208, fun x208 μ208 y208 => (fun h208 => ⟨h208.1, ⟨h208.2.1, ⟨fun q2 => ⟨fun _ => (h208.2.2.1 q2), fun q => absurd (by decide) q⟩, fun q2 => ⟨fun q => absurd q (by decide), fun _ => (h208.2.2.2 q2)⟩⟩⟩⟩) (f208 x208 μ208 y208)⟩)⟩⟩)
theorem g_M_setNest_278 {lay : List Nat} {d : Nat} {P : PT} {G : KT} (hC : Clo lay (d + 1) mM_setNest P G) {v3 : Int32} {v4 : Int32} {μ : Mem}
    (h : ((¬ v3 = 0 → P (some (vi v4)) μ) ∧ (v3 = 0 → P (some (vi (nI 0))) μ))) :
    G 278 [un, un, un, vi v3, vi v4, un, un, un, un] [] μ := seg hC [(20, [1, 2, 5, 6, 7, 8]), (28, [1, 2, 6, 7, 8]), (67, [1, 2, 6, 7, 8]), (99, [1, 2, 6, 7, 8]), (151, [1, 2, 6, 7, 8]), (187, [1, 2, 8]), (278, [0, 1, 2, 5, 6, 7, 8])] 8 rfl h
theorem ok_M_setThe : okB mM_setThe = true := by decide +kernel
theorem g_M_setThe_0 {lay : List Nat} {d : Nat} {P : PT} {G : KT} (hC : Clo lay (d + 1) mM_setThe P G) {v0 : Nat} {μ : Mem}
    (h : (∃ P3 : PT, Rn lay d mM_setNest [rf 16 v0, vi (mI 0), vi (nI 0)] μ P3 ∧ ∀ (x3 : Int32) (μ3 : Mem), P3 (some (vi x3)) μ3 → P (some (vi x3)) μ3)) :
    G 0 [rf 16 v0] [] μ := seg hC [] 8 rfl h
theorem ok_M_stackAt : okB mM_stackAt = true := by decide +kernel
theorem g_M_stackAt_0 {lay : List Nat} {d : Nat} {P : PT} {G : KT} (hC : Clo lay (d + 1) mM_stackAt P G) {v0 : Nat} {v1 : Int32} {v2 : Int32} {μ : Mem}
    (h : (vp_in v1 15 ∧ (∃ P9 : PT, Rn lay d mM_rangeAt [rf 16 v0, vi v1, vi (μ.1 (v0 + 13) v1.toNatClampNeg), vi v2] μ P9 ∧ ∀ (x9 : Int32) (μ9 : Mem), P9 (some (vi x9)) μ9 → P (some (vi x9)) μ9))) :
    G 0 [rf 16 v0, vi v1, vi v2] [] μ := seg hC [] 12 rfl h
theorem ok_M_alikeAt : okB mM_alikeAt = true := by decide +kernel
theorem g_M_alikeAt_0 {lay : List Nat} {d : Nat} {P : PT} {G : KT} (hC : Clo lay (d + 1) mM_alikeAt P G) {v0 : Nat} {v1 : Int32} {μ : Mem}
    (h : (vp_in v1 15 ∧ (vp_in (v1 + (nI 1)) 15 ∧ (∃ P15 : PT, Rn lay d mM_bits [vi ((μ.1 (v0 + 8) v1.toNatClampNeg) &&& (μ.1 (v0 + 8) (v1 + (nI 1)).toNatClampNeg))] μ P15 ∧ ∀ (x15 : Int32) (μ15 : Mem), P15 (some (vi x15)) μ15 → (vp_in v1 15 ∧ (vp_in (v1 + (nI 1)) 15 ∧ (∃ P36 : PT, Rn lay d mM_splitsBy [rf 16 v0, vi v1, vi (μ15.1 (v0 + 13) v1.toNatClampNeg), vi (μ15.1 (v0 + 13) (v1 + (nI 1)).toNatClampNeg)] μ15 P36 ∧ ∀ (x36 : Int32) (μ36 : Mem), P36 (some (vi x36)) μ36 → P (some (vi (x15 - x36))) μ36))))))) :
    G 0 [rf 16 v0, vi v1, un] [] μ := seg hC [] 32 rfl h
theorem ok_M_least : okB mM_least = true := by decide +kernel
theorem g_M_least_0 {lay : List Nat} {d : Nat} {P : PT} {G : KT} (hC : Clo lay (d + 1) mM_least P G) {v0 : Nat} {μ : Mem}
    (h : (∃ P1 : PT, Rn lay d mM_setThe [rf 16 v0] μ P1 ∧ ∀ (x1 : Int32) (μ1 : Mem), P1 (some (vi x1)) μ1 → P (some (vi x1)) μ1)) :
    G 0 [rf 16 v0] [] μ := seg hC [] 6 rfl h
theorem ok_M_ways : okB mM_ways = true := by decide +kernel
theorem g_M_ways_0 {lay : List Nat} {d : Nat} {P : PT} {G : KT} (hC : Clo lay (d + 1) mM_ways P G) {v0 : Nat} {μ : Mem}
    (h : (∃ P1 : PT, Rn lay d mM_setThe [rf 16 v0] μ P1 ∧ ∀ (x1 : Int32) (μ1 : Mem), P1 (some (vi x1)) μ1 → (∃ P6 : PT, Rn lay d mM_sections [rf 16 v0] μ1 P6 ∧ ∀ (x6 : Int32) (μ6 : Mem), P6 (some (vi x6)) μ6 → ((¬ x6 = 0 → G 19 [rf 16 v0, vi x1, vl (lN 0), un, vi (nI 0)] [] μ6) ∧ (x6 = 0 → P (some (vi (nI 1))) μ6))))) :
    G 0 [rf 16 v0, un, un, un, un] [] μ := seg hC [(19, [3]), (61, [0, 1, 3, 4])] 13 rfl h
theorem g_M_ways_19 {lay : List Nat} {d : Nat} {P : PT} {G : KT} (hC : Clo lay (d + 1) mM_ways P G) {v0 : Nat} {v1 : Int32} {v2 : Int64} {v4 : Int32} {μ : Mem}
    (h : (vp_in (nI 0) 15 ∧ (((μ.1 (v0 + 9) (nI 0).toNatClampNeg) ≤ v4 → G 61 [un, un, vl v2, un, un] [] μ) ∧ (¬ (μ.1 (v0 + 9) (nI 0).toNatClampNeg) ≤ v4 → (vp_in v4 1800 ∧ ((¬ (μ.1 (v0 + 11) v4.toNatClampNeg) = v1 → G 19 [rf 16 v0, vi v1, vl (v2 + (lN 0)), un, vi (v4 + nI 1)] [] μ) ∧ ((μ.1 (v0 + 11) v4.toNatClampNeg) = v1 → (vp_in v4 1800 ∧ G 19 [rf 16 v0, vi v1, vl (v2 + (μ.2 (v0 + 12) v4.toNatClampNeg)), un, vi (v4 + nI 1)] [] μ)))))))) :
    G 19 [rf 16 v0, vi v1, vl v2, un, vi v4] [] μ := seg hC [(19, [3]), (61, [0, 1, 3, 4])] 25 rfl h
theorem g_M_ways_61 {lay : List Nat} {d : Nat} {P : PT} {G : KT} (hC : Clo lay (d + 1) mM_ways P G) {v2 : Int64} {μ : Mem}
    (h : (((lg_cmp v2 (lN 1000000000)) ≤ 0 → P (some (vi v2.toInt32)) μ) ∧ (¬ (lg_cmp v2 (lN 1000000000)) ≤ 0 → P (some (vi ((lN 1000000000).toInt32))) μ))) :
    G 61 [un, un, vl v2, un, un] [] μ := seg hC [(19, [3]), (61, [0, 1, 3, 4])] 11 rfl h
theorem ok_M_plain : okB mM_plain = true := by decide +kernel
theorem g_M_plain_0 {lay : List Nat} {d : Nat} {P : PT} {G : KT} (hC : Clo lay (d + 1) mM_plain P G) {v0 : Nat} {μ : Mem}
    (h : (∃ P1 : PT, Rn lay d mM_setThe [rf 16 v0] μ P1 ∧ ∀ (x1 : Int32) (μ1 : Mem), P1 (some (vi x1)) μ1 → G 9 [rf 16 v0, vi (nI 0), vi (nI 0)] [] μ1)) :
    G 0 [rf 16 v0, un, un] [] μ := seg hC [(9, [])] 10 rfl h
theorem g_M_plain_9 {lay : List Nat} {d : Nat} {P : PT} {G : KT} (hC : Clo lay (d + 1) mM_plain P G) {v0 : Nat} {v1 : Int32} {v2 : Int32} {μ : Mem}
    (h : (∃ P13 : PT, Rn lay d mM_sections [rf 16 v0] μ P13 ∧ ∀ (x13 : Int32) (μ13 : Mem), P13 (some (vi x13)) μ13 → ((x13 ≤ (v2 + (nI 1)) → P (some (vi v1)) μ13) ∧ (¬ x13 ≤ (v2 + (nI 1)) → (∃ P24 : PT, Rn lay d mM_splitsBy [rf 16 v0, vi v2, vi (nI 0), vi (nI 0)] μ13 P24 ∧ ∀ (x24 : Int32) (μ24 : Mem), P24 (some (vi x24)) μ24 → G 9 [rf 16 v0, vi (v1 + x24), vi (v2 + nI 1)] [] μ24))))) :
    G 9 [rf 16 v0, vi v1, vi v2] [] μ := seg hC [(9, [])] 19 rfl h
theorem ok_M_free : okB mM_free = true := by decide +kernel
theorem g_M_free_0 {lay : List Nat} {d : Nat} {P : PT} {G : KT} (hC : Clo lay (d + 1) mM_free P G) {v0 : Nat} {μ : Mem}
    (h : (∃ P3 : PT, Rn lay d mM_setNest [rf 16 v0, vi (mI 0), vi (nI 1)] μ P3 ∧ ∀ (x3 : Int32) (μ3 : Mem), P3 (some (vi x3)) μ3 → P (some (vi x3)) μ3)) :
    G 0 [rf 16 v0] [] μ := seg hC [] 8 rfl h
theorem ok_M_without : okB mM_without = true := by decide +kernel
theorem g_M_without_0 {lay : List Nat} {d : Nat} {P : PT} {G : KT} (hC : Clo lay (d + 1) mM_without P G) {v0 : Nat} {v1 : Int32} {μ : Mem}
    (h : (∃ P3 : PT, Rn lay d mM_in [vi v1, vi (nI 0), vi (nI 1)] μ P3 ∧ ∀ (x3 : Int32) (μ3 : Mem), P3 (some (vi x3)) μ3 → ((¬ x3 = 0 → G 22 [rf 16 v0, vi v1, vi (mI 0), vi (nI 1048576), vi (nI 0), un] [] μ3) ∧ (x3 = 0 → (∃ P10 : PT, Rn lay d mM_bad [rf 16 v0] μ3 P10 ∧ ∀ (x10 : Int32) (μ10 : Mem), P10 (some (vi x10)) μ10 → P (some (vi x10)) μ10))))) :
    G 0 [rf 16 v0, vi v1, un, un, un, un] [] μ := seg hC [(22, [5]), (72, [0, 4, 5])] 14 rfl h
theorem g_M_without_22 {lay : List Nat} {d : Nat} {P : PT} {G : KT} (hC : Clo lay (d + 1) mM_without P G) {v0 : Nat} {v1 : Int32} {v2 : Int32} {v3 : Int32} {v4 : Int32} {μ : Mem}
    (h : (((μ.1 v0 2) ≤ v4 → G 72 [un, vi v1, vi v2, vi v3, un, un] [] μ) ∧ (¬ (μ.1 v0 2) ≤ v4 → (∃ P35 : PT, Rn lay d mM_setNest [rf 16 v0, vi v4, vi (nI 0)] μ P35 ∧ ∀ (x35 : Int32) (μ35 : Mem), P35 (some (vi x35)) μ35 → ((v3 ≤ x35 → ((v3 ≤ x35 → G 22 [rf 16 v0, vi v1, vi v2, vi v3, vi (v4 + nI 1), un] [] μ35) ∧ (¬ v3 ≤ x35 → G 22 [rf 16 v0, vi v1, vi v2, vi x35, vi (v4 + nI 1), un] [] μ35))) ∧ (¬ v3 ≤ x35 → ((v3 ≤ x35 → G 22 [rf 16 v0, vi v1, vi v4, vi v3, vi (v4 + nI 1), un] [] μ35) ∧ (¬ v3 ≤ x35 → G 22 [rf 16 v0, vi v1, vi v4, vi x35, vi (v4 + nI 1), un] [] μ35)))))))) :
    G 22 [rf 16 v0, vi v1, vi v2, vi v3, vi v4, un] [] μ := seg hC [(22, [5]), (72, [0, 4, 5])] 26 rfl h
theorem g_M_without_72 {lay : List Nat} {d : Nat} {P : PT} {G : KT} (hC : Clo lay (d + 1) mM_without P G) {v1 : Int32} {v2 : Int32} {v3 : Int32} {μ : Mem}
    (h : ((v2 = (mI 0) → P (some (vi v2)) μ) ∧ (¬ v2 = (mI 0) → ((¬ v1 = 0 → P (some (vi v3)) μ) ∧ (v1 = 0 → P (some (vi v2)) μ))))) :
    G 72 [un, vi v1, vi v2, vi v3, un, un] [] μ := seg hC [(22, [5]), (72, [0, 4, 5])] 11 rfl h
theorem ok_M_comesNode : okB mM_comesNode = true := by decide +kernel
theorem g_M_comesNode_0 {lay : List Nat} {d : Nat} {P : PT} {G : KT} (hC : Clo lay d mM_comesNode P G) {v0 : Nat} {v1 : Int32} {v2 : Int32} {v3 : Int32} {v4 : Int32} {v5 : Int32} {μ : Mem}
    (h : (vp_in (μ.1 v0 18) 128 ∧ G 10 [rf 16 v0, un, vi v2, vi v3, vi v4, vi v5] [] (upI μ (v0 + 15) (μ.1 v0 18).toNatClampNeg v1))) :
    G 0 [rf 16 v0, vi v1, vi v2, vi v3, vi v4, vi v5] [] μ := seg hC [(10, [1]), (20, [1, 2]), (30, [1, 2, 3]), (41, [1, 2, 3, 4]), (52, [1, 2, 3, 4, 5])] 9 rfl h
theorem g_M_comesNode_10 {lay : List Nat} {d : Nat} {P : PT} {G : KT} (hC : Clo lay d mM_comesNode P G) {v0 : Nat} {v2 : Int32} {v3 : Int32} {v4 : Int32} {v5 : Int32} {μ : Mem}
    (h : (vp_in (μ.1 v0 18) 128 ∧ G 20 [rf 16 v0, un, un, vi v3, vi v4, vi v5] [] (upI μ (v0 + 16) (μ.1 v0 18).toNatClampNeg v2))) :
    G 10 [rf 16 v0, un, vi v2, vi v3, vi v4, vi v5] [] μ := seg hC [(10, [1]), (20, [1, 2]), (30, [1, 2, 3]), (41, [1, 2, 3, 4]), (52, [1, 2, 3, 4, 5])] 9 rfl h
theorem g_M_comesNode_20 {lay : List Nat} {d : Nat} {P : PT} {G : KT} (hC : Clo lay d mM_comesNode P G) {v0 : Nat} {v3 : Int32} {v4 : Int32} {v5 : Int32} {μ : Mem}
    (h : (vp_in (μ.1 v0 18) 128 ∧ G 30 [rf 16 v0, un, un, un, vi v4, vi v5] [] (upI μ (v0 + 17) (μ.1 v0 18).toNatClampNeg v3))) :
    G 20 [rf 16 v0, un, un, vi v3, vi v4, vi v5] [] μ := seg hC [(10, [1]), (20, [1, 2]), (30, [1, 2, 3]), (41, [1, 2, 3, 4]), (52, [1, 2, 3, 4, 5])] 9 rfl h
theorem g_M_comesNode_30 {lay : List Nat} {d : Nat} {P : PT} {G : KT} (hC : Clo lay d mM_comesNode P G) {v0 : Nat} {v4 : Int32} {v5 : Int32} {μ : Mem}
    (h : (vp_in (μ.1 v0 18) 128 ∧ G 41 [rf 16 v0, un, un, un, un, vi v5] [] (upI μ (v0 + 18) (μ.1 v0 18).toNatClampNeg v4))) :
    G 30 [rf 16 v0, un, un, un, vi v4, vi v5] [] μ := seg hC [(10, [1]), (20, [1, 2]), (30, [1, 2, 3]), (41, [1, 2, 3, 4]), (52, [1, 2, 3, 4, 5])] 9 rfl h
theorem g_M_comesNode_41 {lay : List Nat} {d : Nat} {P : PT} {G : KT} (hC : Clo lay d mM_comesNode P G) {v0 : Nat} {v5 : Int32} {μ : Mem}
    (h : (vp_in (μ.1 v0 18) 128 ∧ G 52 [rf 16 v0, un, un, un, un, un] [] (upI μ (v0 + 19) (μ.1 v0 18).toNatClampNeg v5))) :
    G 41 [rf 16 v0, un, un, un, un, vi v5] [] μ := seg hC [(10, [1]), (20, [1, 2]), (30, [1, 2, 3]), (41, [1, 2, 3, 4]), (52, [1, 2, 3, 4, 5])] 9 rfl h
theorem g_M_comesNode_52 {lay : List Nat} {d : Nat} {P : PT} {G : KT} (hC : Clo lay d mM_comesNode P G) {v0 : Nat} {μ : Mem}
    (h : P none (upI μ v0 18 ((μ.1 v0 18) + (nI 1)))) :
    G 52 [rf 16 v0, un, un, un, un, un] [] μ := seg hC [(10, [1]), (20, [1, 2]), (30, [1, 2, 3]), (41, [1, 2, 3, 4]), (52, [1, 2, 3, 4, 5])] 10 rfl h
theorem ok_M_comesEmpty : okB mM_comesEmpty = true := by decide +kernel
theorem g_M_comesEmpty_0 {lay : List Nat} {d : Nat} {P : PT} {G : KT} (hC : Clo lay (d + 1) mM_comesEmpty P G) {v0 : Nat} {v1 : Int32} {μ : Mem}
    (h : G 2 [rf 16 v0, vi v1, vi (nI 0)] [] μ) :
    G 0 [rf 16 v0, vi v1, un] [] μ := seg hC [(2, [])] 5 rfl h
theorem g_M_comesEmpty_2 {lay : List Nat} {d : Nat} {P : PT} {G : KT} (hC : Clo lay (d + 1) mM_comesEmpty P G) {v0 : Nat} {v1 : Int32} {v2 : Int32} {μ : Mem}
    (h : (((μ.1 v0 2) ≤ v2 → P none μ) ∧ (¬ (μ.1 v0 2) ≤ v2 → (∃ P12 : PT, Rn lay d mM_isEmpty [rf 16 v0, vi v2] μ P12 ∧ ∀ (x12 : Int32) (μ12 : Mem), P12 (some (vi x12)) μ12 → ((x12 = 0 → G 2 [rf 16 v0, vi v1, vi (v2 + nI 1)] [] μ12) ∧ (¬ x12 = 0 → (vp_in v2 9 ∧ ((¬ (μ12.1 (v0 + 3) v2.toNatClampNeg) = v1 → G 2 [rf 16 v0, vi v1, vi (v2 + nI 1)] [] μ12) ∧ ((μ12.1 (v0 + 3) v2.toNatClampNeg) = v1 → (∃ P34 : PT, Rn lay d mM_comesNode [rf 16 v0, vi v2, vi v1, vi v1, vi (nI 0), vi (mI 0)] μ12 P34 ∧ ∀ μ34 : Mem, P34 none μ34 → G 2 [rf 16 v0, vi v1, vi (v2 + nI 1)] [] μ34)))))))))) :
    G 2 [rf 16 v0, vi v1, vi v2] [] μ := seg hC [(2, [])] 26 rfl h
theorem ok_M_comesPieces : okB mM_comesPieces = true := by decide +kernel
theorem g_M_comesPieces_0 {lay : List Nat} {d : Nat} {P : PT} {G : KT} (hC : Clo lay (d + 1) mM_comesPieces P G) {v0 : Nat} {v1 : Int32} {μ : Mem}
    (h : ((¬ v1 = 0 → (∃ P12 : PT, Rn lay d mM_alikeAt [rf 16 v0, vi (v1 - (nI 1))] μ P12 ∧ ∀ (x12 : Int32) (μ12 : Mem), P12 (some (vi x12)) μ12 → G 18 [rf 16 v0, vi v1, vi x12, vi (nI 0), un, un, un] [] μ12)) ∧ (v1 = 0 → G 18 [rf 16 v0, vi v1, vi (nI 0), vi (nI 0), un, un, un] [] μ))) :
    G 0 [rf 16 v0, vi v1, un, un, un, un, un] [] μ := seg hC [(18, [4, 5, 6]), (52, [3, 4, 5, 6]), (65, [5, 6]), (149, [3, 5, 6])] 13 rfl h
theorem g_M_comesPieces_18 {lay : List Nat} {d : Nat} {P : PT} {G : KT} (hC : Clo lay (d + 1) mM_comesPieces P G) {v0 : Nat} {v1 : Int32} {v2 : Int32} {v3 : Int32} {μ : Mem}
    (h : (((μ.1 v0 2) ≤ v3 → G 52 [rf 16 v0, vi v1, vi v2, un, un, un, un] [] μ) ∧ (¬ (μ.1 v0 2) ≤ v3 → ((¬ v1 = 0 → (vp_in v3 8 ∧ (vp_in v3 8 ∧ G 18 [rf 16 v0, vi v1, vi v2, vi (v3 + nI 1), un, un, un] [] (upI μ (v0 + 20) v3.toNatClampNeg (μ.1 (v0 + 20) v3.toNatClampNeg))))) ∧ (v1 = 0 → (vp_in v3 8 ∧ G 18 [rf 16 v0, vi v1, vi v2, vi (v3 + nI 1), un, un, un] [] (upI μ (v0 + 20) v3.toNatClampNeg (mI 0)))))))) :
    G 18 [rf 16 v0, vi v1, vi v2, vi v3, un, un, un] [] μ := seg hC [(18, [4, 5, 6]), (52, [3, 4, 5, 6]), (65, [5, 6]), (149, [3, 5, 6])] 19 rfl h
theorem g_M_comesPieces_52 {lay : List Nat} {d : Nat} {P : PT} {G : KT} (hC : Clo lay (d + 1) mM_comesPieces P G) {v0 : Nat} {v1 : Int32} {v2 : Int32} {μ : Mem}
    (h : (vp_in v1 15 ∧ (∃ P58 : PT, Rn lay d mM_bits [vi (μ.1 (v0 + 8) v1.toNatClampNeg)] μ P58 ∧ ∀ (x58 : Int32) (μ58 : Mem), P58 (some (vi x58)) μ58 → G 65 [rf 16 v0, vi v1, vi v2, vi x58, vi v2, un, un] [] μ58))) :
    G 52 [rf 16 v0, vi v1, vi v2, un, un, un, un] [] μ := seg hC [(18, [4, 5, 6]), (52, [3, 4, 5, 6]), (65, [5, 6]), (149, [3, 5, 6])] 11 rfl h
theorem g_M_comesPieces_65 {lay : List Nat} {d : Nat} {P : PT} {G : KT} (hC : Clo lay (d + 1) mM_comesPieces P G) {v0 : Nat} {v1 : Int32} {v2 : Int32} {v3 : Int32} {v4 : Int32} {μ : Mem}
    (h : ((v3 ≤ v4 → G 149 [rf 16 v0, vi v1, vi v2, un, vi (nI 0), un, un] [] μ) ∧ (¬ v3 ≤ v4 → (∃ P75 : PT, Rn lay d mM_stackAt [rf 16 v0, vi v1, vi v4] μ P75 ∧ ∀ (x75 : Int32) (μ75 : Mem), P75 (some (vi x75)) μ75 → ((¬ v4 = 0 → (∃ P99 : PT, Rn lay d mM_stackAt [rf 16 v0, vi v1, vi (v4 - (nI 1))] μ75 P99 ∧ ∀ (x99 : Int32) (μ99 : Mem), P99 (some (vi x99)) μ99 → (vp_in x99 8 ∧ (vp_in x75 8 ∧ (vp_in v1 16 ∧ (vp_in (v1 + (nI 1)) 16 ∧ (∃ P137 : PT, Rn lay d mM_comesNode [rf 16 v0, vi x75, vi ((upI μ99 (v0 + 20) x75.toNatClampNeg (μ99.1 v0 18)).1 (v0 + 7) v1.toNatClampNeg), vi ((upI μ99 (v0 + 20) x75.toNatClampNeg (μ99.1 v0 18)).1 (v0 + 7) (v1 + (nI 1)).toNatClampNeg), vi v4, vi (μ99.1 (v0 + 20) x99.toNatClampNeg)] (upI μ99 (v0 + 20) x75.toNatClampNeg (μ99.1 v0 18)) P137 ∧ ∀ μ137 : Mem, P137 none μ137 → G 65 [rf 16 v0, vi v1, vi v2, vi v3, vi (v4 + nI 1), un, un] [] μ137))))))) ∧ (v4 = 0 → (vp_in x75 8 ∧ (vp_in v1 16 ∧ (vp_in (v1 + (nI 1)) 16 ∧ (∃ P137 : PT, Rn lay d mM_comesNode [rf 16 v0, vi x75, vi ((upI μ75 (v0 + 20) x75.toNatClampNeg (μ75.1 v0 18)).1 (v0 + 7) v1.toNatClampNeg), vi ((upI μ75 (v0 + 20) x75.toNatClampNeg (μ75.1 v0 18)).1 (v0 + 7) (v1 + (nI 1)).toNatClampNeg), vi v4, vi (mI 0)] (upI μ75 (v0 + 20) x75.toNatClampNeg (μ75.1 v0 18)) P137 ∧ ∀ μ137 : Mem, P137 none μ137 → G 65 [rf 16 v0, vi v1, vi v2, vi v3, vi (v4 + nI 1), un, un] [] μ137)))))))))) :
    G 65 [rf 16 v0, vi v1, vi v2, vi v3, vi v4, un, un] [] μ := seg hC [(18, [4, 5, 6]), (52, [3, 4, 5, 6]), (65, [5, 6]), (149, [3, 5, 6])] 46 rfl h
theorem g_M_comesPieces_149 {lay : List Nat} {d : Nat} {P : PT} {G : KT} (hC : Clo lay (d + 1) mM_comesPieces P G) {v0 : Nat} {v1 : Int32} {v2 : Int32} {v4 : Int32} {μ : Mem}
    (h : ((v2 ≤ v4 → P none μ) ∧ (¬ v2 ≤ v4 → (∃ P167 : PT, Rn lay d mM_stackAt [rf 16 v0, vi v1, vi v4] μ P167 ∧ ∀ (x167 : Int32) (μ167 : Mem), P167 (some (vi x167)) μ167 → (vp_in x167 8 ∧ (vp_in (v1 + (nI 1)) 16 ∧ (vp_in (μ167.1 (v0 + 20) x167.toNatClampNeg) 128 ∧ G 149 [rf 16 v0, vi v1, vi v2, un, vi (v4 + nI 1), un, un] [] (upI μ167 (v0 + 17) (μ167.1 (v0 + 20) x167.toNatClampNeg).toNatClampNeg (μ167.1 (v0 + 7) (v1 + (nI 1)).toNatClampNeg))))))))) :
    G 149 [rf 16 v0, vi v1, vi v2, un, vi v4, un, un] [] μ := seg hC [(18, [4, 5, 6]), (52, [3, 4, 5, 6]), (65, [5, 6]), (149, [3, 5, 6])] 24 rfl h
theorem ok_M_liesIn : okB mM_liesIn = true := by decide +kernel
theorem g_M_liesIn_0 {lay : List Nat} {d : Nat} {P : PT} {G : KT} (hC : Clo lay d mM_liesIn P G) {v0 : Nat} {v1 : Int32} {μ : Mem}
    (h : G 2 [rf 16 v0, vi v1, vi (nI 0)] [] μ) :
    G 0 [rf 16 v0, vi v1, un] [] μ := seg hC [(2, [])] 5 rfl h
theorem g_M_liesIn_2 {lay : List Nat} {d : Nat} {P : PT} {G : KT} (hC : Clo lay d mM_liesIn P G) {v0 : Nat} {v1 : Int32} {v2 : Int32} {μ : Mem}
    (h : (((μ.1 v0 18) ≤ v2 → P none μ) ∧ (¬ (μ.1 v0 18) ≤ v2 → (vp_in v2 128 ∧ (vp_in v1 128 ∧ (((μ.1 (v0 + 16) v1.toNatClampNeg) ≤ (μ.1 (v0 + 16) v2.toNatClampNeg) → G 2 [rf 16 v0, vi v1, vi (v2 + nI 1)] [] μ) ∧ (¬ (μ.1 (v0 + 16) v1.toNatClampNeg) ≤ (μ.1 (v0 + 16) v2.toNatClampNeg) → (vp_in v2 128 ∧ (vp_in v1 128 ∧ (((μ.1 (v0 + 17) v2.toNatClampNeg) ≤ (μ.1 (v0 + 16) v1.toNatClampNeg) → G 2 [rf 16 v0, vi v1, vi (v2 + nI 1)] [] μ) ∧ (¬ (μ.1 (v0 + 17) v2.toNatClampNeg) ≤ (μ.1 (v0 + 16) v1.toNatClampNeg) → (vp_in v1 128 ∧ (vp_in v1 128 ∧ (vp_in v1 128 ∧ ((((upI μ (v0 + 18) v1.toNatClampNeg ((μ.1 (v0 + 18) v1.toNatClampNeg) + (nI 1))).1 (v0 + 19) v1.toNatClampNeg) = (mI 0) → (vp_in v1 128 ∧ G 2 [rf 16 v0, vi v1, vi (v2 + nI 1)] [] (upI (upI μ (v0 + 18) v1.toNatClampNeg ((μ.1 (v0 + 18) v1.toNatClampNeg) + (nI 1))) (v0 + 19) v1.toNatClampNeg v2))) ∧ (¬ ((upI μ (v0 + 18) v1.toNatClampNeg ((μ.1 (v0 + 18) v1.toNatClampNeg) + (nI 1))).1 (v0 + 19) v1.toNatClampNeg) = (mI 0) → (vp_in v2 128 ∧ (vp_in v1 128 ∧ (vp_in ((upI μ (v0 + 18) v1.toNatClampNeg ((μ.1 (v0 + 18) v1.toNatClampNeg) + (nI 1))).1 (v0 + 19) v1.toNatClampNeg) 128 ∧ ((((upI μ (v0 + 18) v1.toNatClampNeg ((μ.1 (v0 + 18) v1.toNatClampNeg) + (nI 1))).1 (v0 + 18) v2.toNatClampNeg) ≤ ((upI μ (v0 + 18) v1.toNatClampNeg ((μ.1 (v0 + 18) v1.toNatClampNeg) + (nI 1))).1 (v0 + 18) ((upI μ (v0 + 18) v1.toNatClampNeg ((μ.1 (v0 + 18) v1.toNatClampNeg) + (nI 1))).1 (v0 + 19) v1.toNatClampNeg).toNatClampNeg) → (vp_in v1 128 ∧ (vp_in v1 128 ∧ G 2 [rf 16 v0, vi v1, vi (v2 + nI 1)] [] (upI (upI μ (v0 + 18) v1.toNatClampNeg ((μ.1 (v0 + 18) v1.toNatClampNeg) + (nI 1))) (v0 + 19) v1.toNatClampNeg ((upI μ (v0 + 18) v1.toNatClampNeg ((μ.1 (v0 + 18) v1.toNatClampNeg) + (nI 1))).1 (v0 + 19) v1.toNatClampNeg))))) ∧ (¬ ((upI μ (v0 + 18) v1.toNatClampNeg ((μ.1 (v0 + 18) v1.toNatClampNeg) + (nI 1))).1 (v0 + 18) v2.toNatClampNeg) ≤ ((upI μ (v0 + 18) v1.toNatClampNeg ((μ.1 (v0 + 18) v1.toNatClampNeg) + (nI 1))).1 (v0 + 18) ((upI μ (v0 + 18) v1.toNatClampNeg ((μ.1 (v0 + 18) v1.toNatClampNeg) + (nI 1))).1 (v0 + 19) v1.toNatClampNeg).toNatClampNeg) → (vp_in v1 128 ∧ G 2 [rf 16 v0, vi v1, vi (v2 + nI 1)] [] (upI (upI μ (v0 + 18) v1.toNatClampNeg ((μ.1 (v0 + 18) v1.toNatClampNeg) + (nI 1))) (v0 + 19) v1.toNatClampNeg v2))))))))))))))))))))))) :
    G 2 [rf 16 v0, vi v1, vi v2] [] μ := seg hC [(2, [])] 61 rfl h
theorem ok_M_setNodes : okB mM_setNodes = true := by decide +kernel
theorem g_M_setNodes_0 {lay : List Nat} {d : Nat} {P : PT} {G : KT} (hC : Clo lay (d + 1) mM_setNodes P G) {v0 : Nat} {μ : Mem}
    (h : (∃ P1 : PT, Rn lay d mM_setThe [rf 16 v0] μ P1 ∧ ∀ (x1 : Int32) (μ1 : Mem), P1 (some (vi x1)) μ1 → G 14 [rf 16 v0, vi (nI 0), vi (nI 0)] [] (upI μ1 v0 18 (nI 0)))) :
    G 0 [rf 16 v0, un, un] [] μ := seg hC [(14, []), (61, [1])] 13 rfl h
theorem g_M_setNodes_14 {lay : List Nat} {d : Nat} {P : PT} {G : KT} (hC : Clo lay (d + 1) mM_setNodes P G) {v0 : Nat} {v1 : Int32} {v2 : Int32} {μ : Mem}
    (h : (((μ.1 v0 1) < v2 → G 61 [rf 16 v0, un, vi (nI 0)] [] μ) ∧ (¬ (μ.1 v0 1) < v2 → (∃ P24 : PT, Rn lay d mM_comesEmpty [rf 16 v0, vi v2] μ P24 ∧ ∀ μ24 : Mem, P24 none μ24 → (∃ P29 : PT, Rn lay d mM_sections [rf 16 v0] μ24 P29 ∧ ∀ (x29 : Int32) (μ29 : Mem), P29 (some (vi x29)) μ29 → ((x29 ≤ v1 → G 14 [rf 16 v0, vi v1, vi (v2 + nI 1)] [] μ29) ∧ (¬ x29 ≤ v1 → (vp_in v1 16 ∧ ((¬ (μ29.1 (v0 + 7) v1.toNatClampNeg) = v2 → G 14 [rf 16 v0, vi v1, vi (v2 + nI 1)] [] μ29) ∧ ((μ29.1 (v0 + 7) v1.toNatClampNeg) = v2 → (∃ P47 : PT, Rn lay d mM_comesPieces [rf 16 v0, vi v1] μ29 P47 ∧ ∀ μ47 : Mem, P47 none μ47 → G 14 [rf 16 v0, vi (v1 + nI 1), vi (v2 + nI 1)] [] μ47))))))))))) :
    G 14 [rf 16 v0, vi v1, vi v2] [] μ := seg hC [(14, []), (61, [1])] 26 rfl h
theorem g_M_setNodes_61 {lay : List Nat} {d : Nat} {P : PT} {G : KT} (hC : Clo lay (d + 1) mM_setNodes P G) {v0 : Nat} {v2 : Int32} {μ : Mem}
    (h : (((μ.1 v0 18) ≤ v2 → P none μ) ∧ (¬ (μ.1 v0 18) ≤ v2 → (vp_in v2 128 ∧ (∃ P76 : PT, Rn lay d mM_isEmpty [rf 16 v0, vi (μ.1 (v0 + 15) v2.toNatClampNeg)] μ P76 ∧ ∀ (x76 : Int32) (μ76 : Mem), P76 (some (vi x76)) μ76 → ((x76 = 0 → G 61 [rf 16 v0, un, vi (v2 + nI 1)] [] μ76) ∧ (¬ x76 = 0 → (∃ P84 : PT, Rn lay d mM_liesIn [rf 16 v0, vi v2] μ76 P84 ∧ ∀ μ84 : Mem, P84 none μ84 → G 61 [rf 16 v0, un, vi (v2 + nI 1)] [] μ84)))))))) :
    G 61 [rf 16 v0, un, vi v2] [] μ := seg hC [(14, []), (61, [1])] 19 rfl h
theorem ok_M_nodes : okB mM_nodes = true := by decide +kernel
theorem g_M_nodes_0 {lay : List Nat} {d : Nat} {P : PT} {G : KT} (hC : Clo lay (d + 1) mM_nodes P G) {v0 : Nat} {μ : Mem}
    (h : (∃ P1 : PT, Rn lay d mM_setNodes [rf 16 v0] μ P1 ∧ ∀ μ1 : Mem, P1 none μ1 → P (some (vi (μ1.1 v0 18))) μ1)) :
    G 0 [rf 16 v0] [] μ := seg hC [] 8 rfl h
theorem ok_M_nodeTells : okB mM_nodeTells = true := by decide +kernel
theorem g_M_nodeTells_0 {lay : List Nat} {d : Nat} {P : PT} {G : KT} (hC : Clo lay d mM_nodeTells P G) {v0 : Nat} {v1 : Int32} {v2 : Int32} {μ : Mem}
    (h : ((v2 = nI 0 → (vp_in v1 128 ∧ P (some (vi (μ.1 (v0 + 15) v1.toNatClampNeg))) μ)) ∧ (¬ v2 = nI 0 → ((v2 = nI 1 → (vp_in v1 128 ∧ P (some (vi (μ.1 (v0 + 16) v1.toNatClampNeg))) μ)) ∧ (¬ v2 = nI 1 → ((v2 = nI 2 → (vp_in v1 128 ∧ P (some (vi (μ.1 (v0 + 17) v1.toNatClampNeg))) μ)) ∧ (¬ v2 = nI 2 → ((v2 = nI 3 → (vp_in v1 128 ∧ P (some (vi (μ.1 (v0 + 18) v1.toNatClampNeg))) μ)) ∧ (¬ v2 = nI 3 → (vp_in v1 128 ∧ P (some (vi (μ.1 (v0 + 19) v1.toNatClampNeg))) μ)))))))))) :
    G 0 [rf 16 v0, vi v1, vi v2] [] μ := seg hC [] 10 rfl h
theorem ok_M_node : okB mM_node = true := by decide +kernel
theorem g_M_node_0 {lay : List Nat} {d : Nat} {P : PT} {G : KT} (hC : Clo lay (d + 1) mM_node P G) {v0 : Nat} {v1 : Int32} {v2 : Int32} {μ : Mem}
    (h : ((v1 < 0 → (∃ P14 : PT, Rn lay d mM_bad [rf 16 v0] μ P14 ∧ ∀ (x14 : Int32) (μ14 : Mem), P14 (some (vi x14)) μ14 → P (some (vi x14)) μ14)) ∧ (¬ v1 < 0 → (∃ P7 : PT, Rn lay d mM_in [vi v2, vi (nI 0), vi (nI 4)] μ P7 ∧ ∀ (x7 : Int32) (μ7 : Mem), P7 (some (vi x7)) μ7 → ((¬ x7 = 0 → (∃ P19 : PT, Rn lay d mM_setNodes [rf 16 v0] μ7 P19 ∧ ∀ μ19 : Mem, P19 none μ19 → (((μ19.1 v0 18) ≤ v1 → P (some (vi (mI 0))) μ19) ∧ (¬ (μ19.1 v0 18) ≤ v1 → (∃ P33 : PT, Rn lay d mM_nodeTells [rf 16 v0, vi v1, vi v2] μ19 P33 ∧ ∀ (x33 : Int32) (μ33 : Mem), P33 (some (vi x33)) μ33 → P (some (vi x33)) μ33))))) ∧ (x7 = 0 → (∃ P14 : PT, Rn lay d mM_bad [rf 16 v0] μ7 P14 ∧ ∀ (x14 : Int32) (μ14 : Mem), P14 (some (vi x14)) μ14 → P (some (vi x14)) μ14))))))) :
    G 0 [rf 16 v0, vi v1, vi v2] [] μ := seg hC [] 22 rfl h
theorem ok_M_all : okB mM_all = true := by decide +kernel
theorem g_M_all_0 {lay : List Nat} {d : Nat} {P : PT} {G : KT} (hC : Clo lay (d + 1) mM_all P G) {v0 : Nat} {v1 : Int32} {μ : Mem}
    (h : (∃ P3 : PT, Rn lay d mM_in [vi v1, vi (nI 0), vi (nI 4)] μ P3 ∧ ∀ (x3 : Int32) (μ3 : Mem), P3 (some (vi x3)) μ3 → ((¬ x3 = 0 → (∃ P15 : PT, Rn lay d mM_setNodes [rf 16 v0] μ3 P15 ∧ ∀ μ15 : Mem, P15 none μ15 → G 22 [rf 16 v0, vi v1, vi (nI 0), vi (nI 0), un, un, un] [] μ15)) ∧ (x3 = 0 → (∃ P10 : PT, Rn lay d mM_bad [rf 16 v0] μ3 P10 ∧ ∀ (x10 : Int32) (μ10 : Mem), P10 (some (vi x10)) μ10 → P (some (vi x10)) μ10))))) :
    G 0 [rf 16 v0, vi v1, un, un, un, un, un] [] μ := seg hC [(22, [4, 5, 6]), (88, [4, 5, 6]), (116, [4, 6])] 14 rfl h
theorem g_M_all_22 {lay : List Nat} {d : Nat} {P : PT} {G : KT} (hC : Clo lay (d + 1) mM_all P G) {v0 : Nat} {v1 : Int32} {v2 : Int32} {v3 : Int32} {μ : Mem}
    (h : (((μ.1 v0 18) ≤ v3 → P (some (vi v2)) μ) ∧ (¬ (μ.1 v0 18) ≤ v3 → (vp_in v3 128 ∧ (∃ P37 : PT, Rn lay d mM_isEmpty [rf 16 v0, vi (μ.1 (v0 + 15) v3.toNatClampNeg)] μ P37 ∧ ∀ (x37 : Int32) (μ37 : Mem), P37 (some (vi x37)) μ37 → ((¬ v1 = (nI 1) → ((¬ v1 = (nI 2) → (vp_in v3 128 ∧ ((¬ (μ37.1 (v0 + 18) v3.toNatClampNeg) = 0 → G 88 [rf 16 v0, vi v1, vi v2, vi v3, un, un, un] [vi (nI 0)] μ37) ∧ ((μ37.1 (v0 + 18) v3.toNatClampNeg) = 0 → G 88 [rf 16 v0, vi v1, vi v2, vi v3, un, un, un] [vi (nI 1)] μ37)))) ∧ (v1 = (nI 2) → ((x37 = 0 → G 88 [rf 16 v0, vi v1, vi v2, vi v3, un, un, un] [vi (nI 0)] μ37) ∧ (¬ x37 = 0 → G 88 [rf 16 v0, vi v1, vi v2, vi v3, un, un, un] [vi (nI 1)] μ37))))) ∧ (v1 = (nI 1) → (vp_in v3 128 ∧ G 88 [rf 16 v0, vi v1, vi v2, vi v3, un, un, un] [vi (μ37.1 (v0 + 18) v3.toNatClampNeg)] μ37)))))))) :
    G 22 [rf 16 v0, vi v1, vi v2, vi v3, un, un, un] [] μ := seg hC [(22, [4, 5, 6]), (88, [4, 5, 6]), (116, [4, 6])] 27 rfl h
theorem g_M_all_88 {lay : List Nat} {d : Nat} {P : PT} {G : KT} (hC : Clo lay (d + 1) mM_all P G) {v0 : Nat} {v1 : Int32} {v2 : Int32} {v3 : Int32} {s0 : Int32} {μ : Mem}
    (h : ((¬ v1 = 0 → (vp_in v3 128 ∧ (vp_in v3 128 ∧ G 116 [rf 16 v0, vi v1, vi v2, vi v3, un, vi s0, un] [vi ((μ.1 (v0 + 17) v3.toNatClampNeg) - (μ.1 (v0 + 16) v3.toNatClampNeg))] μ))) ∧ (v1 = 0 → (vp_in v3 128 ∧ G 116 [rf 16 v0, vi v1, vi v2, vi v3, un, vi s0, un] [vi (μ.1 (v0 + 18) v3.toNatClampNeg)] μ)))) :
    G 88 [rf 16 v0, vi v1, vi v2, vi v3, un, un, un] [vi s0] μ := seg hC [(22, [4, 5, 6]), (88, [4, 5, 6]), (116, [4, 6])] 15 rfl h
theorem g_M_all_116 {lay : List Nat} {d : Nat} {P : PT} {G : KT} (hC : Clo lay (d + 1) mM_all P G) {v0 : Nat} {v1 : Int32} {v2 : Int32} {v3 : Int32} {v5 : Int32} {s0 : Int32} {μ : Mem}
    (h : ((v1 = 0 → ((s0 ≤ v2 → G 22 [rf 16 v0, vi v1, vi v2, vi (v3 + nI 1), un, un, un] [] μ) ∧ (¬ s0 ≤ v2 → G 22 [rf 16 v0, vi v1, vi s0, vi (v3 + nI 1), un, un, un] [] μ))) ∧ (¬ v1 = 0 → ((¬ v1 = (nI 3) → G 22 [rf 16 v0, vi v1, vi (v2 + v5), vi (v3 + nI 1), un, un, un] [] μ) ∧ (v1 = (nI 3) → ((s0 ≤ v2 → G 22 [rf 16 v0, vi v1, vi v2, vi (v3 + nI 1), un, un, un] [] μ) ∧ (¬ s0 ≤ v2 → G 22 [rf 16 v0, vi v1, vi s0, vi (v3 + nI 1), un, un, un] [] μ))))))) :
    G 116 [rf 16 v0, vi v1, vi v2, vi v3, un, vi v5, un] [vi s0] μ := seg hC [(22, [4, 5, 6]), (88, [4, 5, 6]), (116, [4, 6])] 18 rfl h
theorem ok_M_piecesOf : okB mM_piecesOf = true := by decide +kernel
theorem g_M_piecesOf_0 {lay : List Nat} {d : Nat} {P : PT} {G : KT} (hC : Clo lay (d + 1) mM_piecesOf P G) {v0 : Nat} {v1 : Int32} {μ : Mem}
    (h : G 4 [rf 16 v0, vi v1, vi (nI 0), vi (nI 0)] [] μ) :
    G 0 [rf 16 v0, vi v1, un, un] [] μ := seg hC [(4, [])] 7 rfl h
theorem g_M_piecesOf_4 {lay : List Nat} {d : Nat} {P : PT} {G : KT} (hC : Clo lay (d + 1) mM_piecesOf P G) {v0 : Nat} {v1 : Int32} {v2 : Int32} {v3 : Int32} {μ : Mem}
    (h : (((μ.1 v0 18) ≤ v3 → P (some (vi v2)) μ) ∧ (¬ (μ.1 v0 18) ≤ v3 → (vp_in v3 128 ∧ ((¬ (μ.1 (v0 + 15) v3.toNatClampNeg) = v1 → G 4 [rf 16 v0, vi v1, vi (v2 + (nI 0)), vi (v3 + nI 1)] [] μ) ∧ ((μ.1 (v0 + 15) v3.toNatClampNeg) = v1 → (∃ P25 : PT, Rn lay d mM_isEmpty [rf 16 v0, vi v1] μ P25 ∧ ∀ (x25 : Int32) (μ25 : Mem), P25 (some (vi x25)) μ25 → ((¬ x25 = 0 → G 4 [rf 16 v0, vi v1, vi (v2 + (nI 0)), vi (v3 + nI 1)] [] μ25) ∧ (x25 = 0 → G 4 [rf 16 v0, vi v1, vi (v2 + (nI 1)), vi (v3 + nI 1)] [] μ25))))))))) :
    G 4 [rf 16 v0, vi v1, vi v2, vi v3] [] μ := seg hC [(4, [])] 24 rfl h
theorem ok_M_splits : okB mM_splits = true := by decide +kernel
theorem g_M_splits_0 {lay : List Nat} {d : Nat} {P : PT} {G : KT} (hC : Clo lay (d + 1) mM_splits P G) {v0 : Nat} {v1 : Int32} {μ : Mem}
    (h : (∃ P1 : PT, Rn lay d mM_isKind [vi v1] μ P1 ∧ ∀ (x1 : Int32) (μ1 : Mem), P1 (some (vi x1)) μ1 → ((¬ x1 = 0 → (∃ P13 : PT, Rn lay d mM_setNodes [rf 16 v0] μ1 P13 ∧ ∀ μ13 : Mem, P13 none μ13 → G 20 [rf 16 v0, vi v1, vi (nI 0), vi (nI 0), un, un, un] [] μ13)) ∧ (x1 = 0 → (∃ P8 : PT, Rn lay d mM_bad [rf 16 v0] μ1 P8 ∧ ∀ (x8 : Int32) (μ8 : Mem), P8 (some (vi x8)) μ8 → P (some (vi x8)) μ8))))) :
    G 0 [rf 16 v0, vi v1, un, un, un, un, un] [] μ := seg hC [(20, [4, 5, 6]), (66, [3, 4, 5, 6]), (94, [5, 6]), (106, [])] 12 rfl h
theorem g_M_splits_20 {lay : List Nat} {d : Nat} {P : PT} {G : KT} (hC : Clo lay (d + 1) mM_splits P G) {v0 : Nat} {v1 : Int32} {v2 : Int32} {v3 : Int32} {μ : Mem}
    (h : (((μ.1 v0 2) ≤ v3 → G 66 [rf 16 v0, vi v1, vi v2, un, un, un, un] [] μ) ∧ (¬ (μ.1 v0 2) ≤ v3 → (vp_in v3 9 ∧ ((¬ (μ.1 (v0 + 2) v3.toNatClampNeg) = v1 → G 20 [rf 16 v0, vi v1, vi (v2 + (nI 0)), vi (v3 + nI 1), un, un, un] [] μ) ∧ ((μ.1 (v0 + 2) v3.toNatClampNeg) = v1 → (∃ P41 : PT, Rn lay d mM_isEmpty [rf 16 v0, vi v3] μ P41 ∧ ∀ (x41 : Int32) (μ41 : Mem), P41 (some (vi x41)) μ41 → ((¬ x41 = 0 → G 20 [rf 16 v0, vi v1, vi (v2 + (nI 0)), vi (v3 + nI 1), un, un, un] [] μ41) ∧ (x41 = 0 → (∃ P49 : PT, Rn lay d mM_piecesOf [rf 16 v0, vi v3] μ41 P49 ∧ ∀ (x49 : Int32) (μ49 : Mem), P49 (some (vi x49)) μ49 → G 20 [rf 16 v0, vi v1, vi (v2 + (x49 - (nI 1))), vi (v3 + nI 1), un, un, un] [] μ49)))))))))) :
    G 20 [rf 16 v0, vi v1, vi v2, vi v3, un, un, un] [] μ := seg hC [(20, [4, 5, 6]), (66, [3, 4, 5, 6]), (94, [5, 6]), (106, [])] 28 rfl h
theorem g_M_splits_66 {lay : List Nat} {d : Nat} {P : PT} {G : KT} (hC : Clo lay (d + 1) mM_splits P G) {v0 : Nat} {v1 : Int32} {v2 : Int32} {μ : Mem}
    (h : ((((μ.1 v0 2) + v2) ≤ (nI 8) → (∃ P83 : PT, Rn lay d mM_notes [rf 16 v0] μ P83 ∧ ∀ μ83 : Mem, P83 none μ83 → G 94 [rf 16 v0, vi v1, vi v2, vi (μ83.1 v0 2), vi (nI 0), un, un] [] μ83)) ∧ (¬ ((μ.1 v0 2) + v2) ≤ (nI 8) → (∃ P78 : PT, Rn lay d mM_full [rf 16 v0] μ P78 ∧ ∀ (x78 : Int32) (μ78 : Mem), P78 (some (vi x78)) μ78 → P (some (vi x78)) μ78)))) :
    G 66 [rf 16 v0, vi v1, vi v2, un, un, un, un] [] μ := seg hC [(20, [4, 5, 6]), (66, [3, 4, 5, 6]), (94, [5, 6]), (106, [])] 16 rfl h
theorem g_M_splits_94 {lay : List Nat} {d : Nat} {P : PT} {G : KT} (hC : Clo lay (d + 1) mM_splits P G) {v0 : Nat} {v1 : Int32} {v2 : Int32} {v3 : Int32} {v4 : Int32} {μ : Mem}
    (h : ((v3 ≤ v4 → P (some (vi v2)) μ) ∧ (¬ v3 ≤ v4 → G 106 [rf 16 v0, vi v1, vi v2, vi v3, vi v4, vi (nI 1), vi (nI 0)] [] μ))) :
    G 94 [rf 16 v0, vi v1, vi v2, vi v3, vi v4, un, un] [] μ := seg hC [(20, [4, 5, 6]), (66, [3, 4, 5, 6]), (94, [5, 6]), (106, [])] 10 rfl h
theorem g_M_splits_106 {lay : List Nat} {d : Nat} {P : PT} {G : KT} (hC : Clo lay (d + 1) mM_splits P G) {v0 : Nat} {v1 : Int32} {v2 : Int32} {v3 : Int32} {v4 : Int32} {v5 : Int32} {v6 : Int32} {μ : Mem}
    (h : (((μ.1 v0 18) ≤ v6 → G 94 [rf 16 v0, vi v1, vi v2, vi v3, vi (v4 + nI 1), un, un] [] μ) ∧ (¬ (μ.1 v0 18) ≤ v6 → (vp_in v4 9 ∧ ((¬ (μ.1 (v0 + 2) v4.toNatClampNeg) = v1 → G 94 [rf 16 v0, vi v1, vi v2, vi v3, vi (v4 + nI 1), un, un] [] μ) ∧ ((μ.1 (v0 + 2) v4.toNatClampNeg) = v1 → (vp_in v6 128 ∧ ((¬ (μ.1 (v0 + 15) v6.toNatClampNeg) = v4 → G 106 [rf 16 v0, vi v1, vi v2, vi v3, vi v4, vi v5, vi (v6 + nI 1)] [] μ) ∧ ((μ.1 (v0 + 15) v6.toNatClampNeg) = v4 → (vp_in v6 128 ∧ (vp_in v6 128 ∧ (((μ.1 (v0 + 17) v6.toNatClampNeg) ≤ (μ.1 (v0 + 16) v6.toNatClampNeg) → G 106 [rf 16 v0, vi v1, vi v2, vi v3, vi v4, vi v5, vi (v6 + nI 1)] [] μ) ∧ (¬ (μ.1 (v0 + 17) v6.toNatClampNeg) ≤ (μ.1 (v0 + 16) v6.toNatClampNeg) → ((v5 = 0 → (vp_in v6 128 ∧ (vp_in v6 128 ∧ (∃ P207 : PT, Rn lay d mM_comes [rf 16 v0, vi v1, vi (μ.1 (v0 + 16) v6.toNatClampNeg), vi (μ.1 (v0 + 17) v6.toNatClampNeg)] μ P207 ∧ ∀ μ207 : Mem, P207 none μ207 → G 106 [rf 16 v0, vi v1, vi v2, vi v3, vi v4, vi (nI 0), vi (v6 + nI 1)] [] μ207)))) ∧ (¬ v5 = 0 → (vp_in v6 128 ∧ (vp_in v4 9 ∧ (vp_in v6 128 ∧ (vp_in v4 9 ∧ G 106 [rf 16 v0, vi v1, vi v2, vi v3, vi v4, vi (nI 0), vi (v6 + nI 1)] [] (upI (upI μ (v0 + 3) v4.toNatClampNeg (μ.1 (v0 + 16) v6.toNatClampNeg)) (v0 + 4) v4.toNatClampNeg ((upI μ (v0 + 3) v4.toNatClampNeg (μ.1 (v0 + 16) v6.toNatClampNeg)).1 (v0 + 17) v6.toNatClampNeg))))))))))))))))))))) :
    G 106 [rf 16 v0, vi v1, vi v2, vi v3, vi v4, vi v5, vi v6] [] μ := seg hC [(20, [4, 5, 6]), (66, [3, 4, 5, 6]), (94, [5, 6]), (106, [])] 51 rfl h
theorem ok_M_crosses : okB mM_crosses = true := by decide +kernel
theorem g_M_crosses_0 {lay : List Nat} {d : Nat} {P : PT} {G : KT} (hC : Clo lay d mM_crosses P G) {v0 : Nat} {v1 : Int32} {v2 : Int32} {μ : Mem}
    (h : (vp_in v1 9 ∧ (vp_in v2 9 ∧ (((μ.1 (v0 + 3) v2.toNatClampNeg) ≤ (μ.1 (v0 + 3) v1.toNatClampNeg) → G 50 [rf 16 v0, vi v1, vi v2, un] [vi (nI 0)] μ) ∧ (¬ (μ.1 (v0 + 3) v2.toNatClampNeg) ≤ (μ.1 (v0 + 3) v1.toNatClampNeg) → (vp_in v2 9 ∧ (vp_in v1 9 ∧ (((μ.1 (v0 + 4) v1.toNatClampNeg) ≤ (μ.1 (v0 + 3) v2.toNatClampNeg) → G 50 [rf 16 v0, vi v1, vi v2, un] [vi (nI 0)] μ) ∧ (¬ (μ.1 (v0 + 4) v1.toNatClampNeg) ≤ (μ.1 (v0 + 3) v2.toNatClampNeg) → (vp_in v1 9 ∧ (vp_in v2 9 ∧ (((μ.1 (v0 + 4) v2.toNatClampNeg) ≤ (μ.1 (v0 + 4) v1.toNatClampNeg) → G 50 [rf 16 v0, vi v1, vi v2, un] [vi (nI 0)] μ) ∧ (¬ (μ.1 (v0 + 4) v2.toNatClampNeg) ≤ (μ.1 (v0 + 4) v1.toNatClampNeg) → G 50 [rf 16 v0, vi v1, vi v2, un] [vi (nI 1)] μ))))))))))))) :
    G 0 [rf 16 v0, vi v1, vi v2, un] [] μ := seg hC [(50, [3])] 32 rfl h
theorem g_M_crosses_50 {lay : List Nat} {d : Nat} {P : PT} {G : KT} (hC : Clo lay d mM_crosses P G) {v0 : Nat} {v1 : Int32} {v2 : Int32} {s0 : Int32} {μ : Mem}
    (h : ((¬ s0 = 0 → P (some (vi (nI 1))) μ) ∧ (s0 = 0 → (vp_in v2 9 ∧ (vp_in v1 9 ∧ (((μ.1 (v0 + 3) v1.toNatClampNeg) ≤ (μ.1 (v0 + 3) v2.toNatClampNeg) → P (some (vi (nI 0))) μ) ∧ (¬ (μ.1 (v0 + 3) v1.toNatClampNeg) ≤ (μ.1 (v0 + 3) v2.toNatClampNeg) → (vp_in v1 9 ∧ (vp_in v2 9 ∧ (((μ.1 (v0 + 4) v2.toNatClampNeg) ≤ (μ.1 (v0 + 3) v1.toNatClampNeg) → P (some (vi (nI 0))) μ) ∧ (¬ (μ.1 (v0 + 4) v2.toNatClampNeg) ≤ (μ.1 (v0 + 3) v1.toNatClampNeg) → (vp_in v2 9 ∧ (vp_in v1 9 ∧ (((μ.1 (v0 + 4) v1.toNatClampNeg) ≤ (μ.1 (v0 + 4) v2.toNatClampNeg) → P (some (vi (nI 0))) μ) ∧ (¬ (μ.1 (v0 + 4) v1.toNatClampNeg) ≤ (μ.1 (v0 + 4) v2.toNatClampNeg) → P (some (vi (nI 1))) μ))))))))))))))) :
    G 50 [rf 16 v0, vi v1, vi v2, un] [vi s0] μ := seg hC [(50, [3])] 36 rfl (⟨fun q1 => ⟨Or.inr (by decide), (h.1 q1)⟩, fun q1 => ⟨(h.2 q1).1, ⟨(h.2 q1).2.1, ⟨fun q2 => ⟨Or.inl (by decide), ((h.2 q1).2.2.1 q2)⟩, fun q2 => ⟨((h.2 q1).2.2.2 q2).1, ⟨((h.2 q1).2.2.2 q2).2.1, ⟨fun q3 => ⟨Or.inl (by decide), (((h.2 q1).2.2.2 q2).2.2.1 q3)⟩, fun q3 => ⟨(((h.2 q1).2.2.2 q2).2.2.2 q3).1, ⟨(((h.2 q1).2.2.2 q2).2.2.2 q3).2.1, ⟨fun q4 => ⟨Or.inl (by decide), ((((h.2 q1).2.2.2 q2).2.2.2 q3).2.2.1 q4)⟩, fun q4 => ⟨Or.inr (by decide), ((((h.2 q1).2.2.2 q2).2.2.2 q3).2.2.2 q4)⟩⟩⟩⟩⟩⟩⟩⟩⟩⟩⟩)
theorem ok_M_acrossMany : okB mM_acrossMany = true := by decide +kernel
theorem g_M_acrossMany_0 {lay : List Nat} {d : Nat} {P : PT} {G : KT} (hC : Clo lay (d + 1) mM_acrossMany P G) {v0 : Nat} {v1 : Int32} {μ : Mem}
    (h : G 4 [rf 16 v0, vi v1, vi (nI 0), vi (nI 0)] [] μ) :
    G 0 [rf 16 v0, vi v1, un, un] [] μ := seg hC [(4, [])] 7 rfl h
theorem g_M_acrossMany_4 {lay : List Nat} {d : Nat} {P : PT} {G : KT} (hC : Clo lay (d + 1) mM_acrossMany P G) {v0 : Nat} {v1 : Int32} {v2 : Int32} {v3 : Int32} {μ : Mem}
    (h : (((μ.1 v0 2) ≤ v3 → P (some (vi v2)) μ) ∧ (¬ (μ.1 v0 2) ≤ v3 → (∃ P16 : PT, Rn lay d mM_crosses [rf 16 v0, vi v1, vi v3] μ P16 ∧ ∀ (x16 : Int32) (μ16 : Mem), P16 (some (vi x16)) μ16 → ((x16 = 0 → G 4 [rf 16 v0, vi v1, vi (v2 + (nI 0)), vi (v3 + nI 1)] [] μ16) ∧ (¬ x16 = 0 → G 4 [rf 16 v0, vi v1, vi (v2 + (nI 1)), vi (v3 + nI 1)] [] μ16)))))) :
    G 4 [rf 16 v0, vi v1, vi v2, vi v3] [] μ := seg hC [(4, [])] 19 rfl h
theorem ok_M_pieces : okB mM_pieces = true := by decide +kernel
theorem g_M_pieces_0 {lay : List Nat} {d : Nat} {P : PT} {G : KT} (hC : Clo lay (d + 1) mM_pieces P G) {v0 : Nat} {v1 : Int32} {μ : Mem}
    (h : (∃ P1 : PT, Rn lay d mM_setNodes [rf 16 v0] μ P1 ∧ ∀ μ1 : Mem, P1 none μ1 → (∃ P6 : PT, Rn lay d mM_piecesOf [rf 16 v0, vi v1] μ1 P6 ∧ ∀ (x6 : Int32) (μ6 : Mem), P6 (some (vi x6)) μ6 → P (some (vi x6)) μ6))) :
    G 0 [rf 16 v0, vi v1] [] μ := seg hC [] 9 rfl h
theorem ok_M_of : okB mM_of = true := by decide +kernel
theorem g_M_of_0 {lay : List Nat} {d : Nat} {P : PT} {G : KT} (hC : Clo lay (d + 1) mM_of P G) {v0 : Nat} {v1 : Int32} {v2 : Int32} {μ : Mem}
    (h : (∃ P2 : PT, Rn lay d mM_isRange [rf 16 v0, vi v1] μ P2 ∧ ∀ (x2 : Int32) (μ2 : Mem), P2 (some (vi x2)) μ2 → ((x2 = 0 → (∃ P18 : PT, Rn lay d mM_bad [rf 16 v0] μ2 P18 ∧ ∀ (x18 : Int32) (μ18 : Mem), P18 (some (vi x18)) μ18 → P (some (vi x18)) μ18)) ∧ (¬ x2 = 0 → (∃ P11 : PT, Rn lay d mM_in [vi v2, vi (nI 0), vi (nI 4)] μ2 P11 ∧ ∀ (x11 : Int32) (μ11 : Mem), P11 (some (vi x11)) μ11 → ((¬ x11 = 0 → ((v2 = nI 0 → (vp_in v1 9 ∧ P (some (vi (μ11.1 (v0 + 2) v1.toNatClampNeg))) μ11)) ∧ (¬ v2 = nI 0 → ((v2 = nI 1 → (vp_in v1 9 ∧ P (some (vi (μ11.1 (v0 + 3) v1.toNatClampNeg))) μ11)) ∧ (¬ v2 = nI 1 → ((v2 = nI 2 → (vp_in v1 9 ∧ P (some (vi (μ11.1 (v0 + 4) v1.toNatClampNeg))) μ11)) ∧ (¬ v2 = nI 2 → ((v2 = nI 3 → (∃ P75 : PT, Rn lay d mM_pieces [rf 16 v0, vi v1] μ11 P75 ∧ ∀ (x75 : Int32) (μ75 : Mem), P75 (some (vi x75)) μ75 → P (some (vi x75)) μ75)) ∧ (¬ v2 = nI 3 → (∃ P81 : PT, Rn lay d mM_acrossMany [rf 16 v0, vi v1] μ11 P81 ∧ ∀ (x81 : Int32) (μ81 : Mem), P81 (some (vi x81)) μ81 → P (some (vi x81)) μ81)))))))))) ∧ (x11 = 0 → (∃ P18 : PT, Rn lay d mM_bad [rf 16 v0] μ11 P18 ∧ ∀ (x18 : Int32) (μ18 : Mem), P18 (some (vi x18)) μ18 → P (some (vi x18)) μ18)))))))) :
    G 0 [rf 16 v0, vi v1, vi v2] [] μ := seg hC [] 19 rfl h
theorem ok_M_over : okB mM_over = true := by decide +kernel
theorem g_M_over_0 {lay : List Nat} {d : Nat} {P : PT} {G : KT} (hC : Clo lay (d + 1) mM_over P G) {v0 : Nat} {v1 : Int32} {μ : Mem}
    (h : (∃ P8 : PT, Rn lay d mM_in [vi v1, vi (nI 0), vi ((μ.1 v0 1) - (nI 1))] μ P8 ∧ ∀ (x8 : Int32) (μ8 : Mem), P8 (some (vi x8)) μ8 → ((¬ x8 = 0 → G 23 [rf 16 v0, vi v1, vi (nI 0), vi (nI 0)] [] μ8) ∧ (x8 = 0 → (∃ P15 : PT, Rn lay d mM_bad [rf 16 v0] μ8 P15 ∧ ∀ (x15 : Int32) (μ15 : Mem), P15 (some (vi x15)) μ15 → P (some (vi x15)) μ15))))) :
    G 0 [rf 16 v0, vi v1, un, un] [] μ := seg hC [(23, [])] 15 rfl h
theorem g_M_over_23 {lay : List Nat} {d : Nat} {P : PT} {G : KT} (hC : Clo lay (d + 1) mM_over P G) {v0 : Nat} {v1 : Int32} {v2 : Int32} {v3 : Int32} {μ : Mem}
    (h : (((μ.1 v0 2) ≤ v3 → P (some (vi v2)) μ) ∧ (¬ (μ.1 v0 2) ≤ v3 → (vp_in v3 9 ∧ ((v1 < (μ.1 (v0 + 3) v3.toNatClampNeg) → G 23 [rf 16 v0, vi v1, vi (v2 ||| (nI 0)), vi (v3 + nI 1)] [] μ) ∧ (¬ v1 < (μ.1 (v0 + 3) v3.toNatClampNeg) → (vp_in v3 9 ∧ (((μ.1 (v0 + 4) v3.toNatClampNeg) ≤ v1 → G 23 [rf 16 v0, vi v1, vi (v2 ||| (nI 0)), vi (v3 + nI 1)] [] μ) ∧ (¬ (μ.1 (v0 + 4) v3.toNatClampNeg) ≤ v1 → G 23 [rf 16 v0, vi v1, vi (v2 ||| ((nI 1) <<< (v3 &&& 31))), vi (v3 + nI 1)] [] μ))))))))) :
    G 23 [rf 16 v0, vi v1, vi v2, vi v3] [] μ := seg hC [(23, [])] 28 rfl h
theorem ok_M_section : okB mM_section = true := by decide +kernel
theorem g_M_section_0 {lay : List Nat} {d : Nat} {P : PT} {G : KT} (hC : Clo lay (d + 1) mM_section P G) {v0 : Nat} {v1 : Int32} {v2 : Int32} {μ : Mem}
    (h : (∃ P2 : PT, Rn lay d mM_setCuts [rf 16 v0, vi (mI 0)] μ P2 ∧ ∀ μ2 : Mem, P2 none μ2 → (∃ P8 : PT, Rn lay d mM_sections [rf 16 v0] μ2 P8 ∧ ∀ (x8 : Int32) (μ8 : Mem), P8 (some (vi x8)) μ8 → (∃ P13 : PT, Rn lay d mM_in [vi v1, vi (nI 0), vi (x8 - (nI 1))] μ8 P13 ∧ ∀ (x13 : Int32) (μ13 : Mem), P13 (some (vi x13)) μ13 → ((x13 = 0 → (∃ P29 : PT, Rn lay d mM_bad [rf 16 v0] μ13 P29 ∧ ∀ (x29 : Int32) (μ29 : Mem), P29 (some (vi x29)) μ29 → P (some (vi x29)) μ29)) ∧ (¬ x13 = 0 → (∃ P22 : PT, Rn lay d mM_in [vi v2, vi (nI 0), vi (nI 2)] μ13 P22 ∧ ∀ (x22 : Int32) (μ22 : Mem), P22 (some (vi x22)) μ22 → ((¬ x22 = 0 → ((¬ v2 = 0 → ((¬ v2 = (nI 1) → (vp_in v1 15 ∧ (∃ P68 : PT, Rn lay d mM_bits [vi (μ22.1 (v0 + 8) v1.toNatClampNeg)] μ22 P68 ∧ ∀ (x68 : Int32) (μ68 : Mem), P68 (some (vi x68)) μ68 → P (some (vi x68)) μ68))) ∧ (v2 = (nI 1) → (vp_in (v1 + (nI 1)) 16 ∧ P (some (vi (μ22.1 (v0 + 7) (v1 + (nI 1)).toNatClampNeg))) μ22)))) ∧ (v2 = 0 → (vp_in v1 16 ∧ P (some (vi (μ22.1 (v0 + 7) v1.toNatClampNeg))) μ22)))) ∧ (x22 = 0 → (∃ P29 : PT, Rn lay d mM_bad [rf 16 v0] μ22 P29 ∧ ∀ (x29 : Int32) (μ29 : Mem), P29 (some (vi x29)) μ29 → P (some (vi x29)) μ29)))))))))) :
    G 0 [rf 16 v0, vi v1, vi v2] [] μ := seg hC [] 32 rfl h
theorem ok_M_stack : okB mM_stack = true := by decide +kernel
theorem g_M_stack_0 {lay : List Nat} {d : Nat} {P : PT} {G : KT} (hC : Clo lay (d + 1) mM_stack P G) {v0 : Nat} {v1 : Int32} {v2 : Int32} {μ : Mem}
    (h : (∃ P1 : PT, Rn lay d mM_setThe [rf 16 v0] μ P1 ∧ ∀ (x1 : Int32) (μ1 : Mem), P1 (some (vi x1)) μ1 → (∃ P8 : PT, Rn lay d mM_sections [rf 16 v0] μ1 P8 ∧ ∀ (x8 : Int32) (μ8 : Mem), P8 (some (vi x8)) μ8 → (∃ P13 : PT, Rn lay d mM_in [vi v1, vi (nI 0), vi (x8 - (nI 1))] μ8 P13 ∧ ∀ (x13 : Int32) (μ13 : Mem), P13 (some (vi x13)) μ13 → ((x13 = 0 → (∃ P24 : PT, Rn lay d mM_bad [rf 16 v0] μ13 P24 ∧ ∀ (x24 : Int32) (μ24 : Mem), P24 (some (vi x24)) μ24 → P (some (vi x24)) μ24)) ∧ (¬ x13 = 0 → ((0 ≤ v2 → (vp_in v1 15 ∧ (∃ P35 : PT, Rn lay d mM_bits [vi (μ13.1 (v0 + 8) v1.toNatClampNeg)] μ13 P35 ∧ ∀ (x35 : Int32) (μ35 : Mem), P35 (some (vi x35)) μ35 → ((x35 ≤ v2 → P (some (vi (mI 0))) μ35) ∧ (¬ x35 ≤ v2 → (∃ P44 : PT, Rn lay d mM_stackAt [rf 16 v0, vi v1, vi v2] μ35 P44 ∧ ∀ (x44 : Int32) (μ44 : Mem), P44 (some (vi x44)) μ44 → P (some (vi x44)) μ44)))))) ∧ (¬ 0 ≤ v2 → (∃ P24 : PT, Rn lay d mM_bad [rf 16 v0] μ13 P24 ∧ ∀ (x24 : Int32) (μ24 : Mem), P24 (some (vi x24)) μ24 → P (some (vi x24)) μ24))))))))) :
    G 0 [rf 16 v0, vi v1, vi v2] [] μ := seg hC [] 29 rfl h
theorem ok_M_draw : okB mM_draw = true := by decide +kernel
theorem g_M_draw_0 {lay : List Nat} {d : Nat} {P : PT} {G : KT} (hC : Clo lay (d + 1) mM_draw P G) {v0 : Nat} {v1 : Int32} {v2 : Int32} {μ : Mem}
    (h : (∃ P4 : PT, Rn lay d mM_in [vi v1, vi (nI 0), vi (nI 999999)] μ P4 ∧ ∀ (x4 : Int32) (μ4 : Mem), P4 (some (vi x4)) μ4 → ((x4 = 0 → (∃ P21 : PT, Rn lay d mM_bad [rf 16 v0] μ4 P21 ∧ ∀ (x21 : Int32) (μ21 : Mem), P21 (some (vi x21)) μ21 → P (some (vi x21)) μ21)) ∧ (¬ x4 = 0 → (∃ P14 : PT, Rn lay d mM_in [vi v2, vi (nI 0), vi (nI 8)] μ4 P14 ∧ ∀ (x14 : Int32) (μ14 : Mem), P14 (some (vi x14)) μ14 → ((¬ x14 = 0 → (∃ P26 : PT, Rn lay d mM_notes [rf 16 v0] μ14 P26 ∧ ∀ μ26 : Mem, P26 none μ26 → G 40 [rf 16 v0, un, vi v2, vl v1.toInt64, un, vi (nI 0), un, un] [] (upI μ26 v0 2 (nI 0)))) ∧ (x14 = 0 → (∃ P21 : PT, Rn lay d mM_bad [rf 16 v0] μ14 P21 ∧ ∀ (x21 : Int32) (μ21 : Mem), P21 (some (vi x21)) μ21 → P (some (vi x21)) μ21)))))))) :
    G 0 [rf 16 v0, vi v1, vi v2, un, un, un, un, un] [] μ := seg hC [(40, [1, 4, 6, 7]), (60, [1, 4, 6, 7]), (92, [1, 4]), (117, [1, 4])] 23 rfl h
theorem g_M_draw_40 {lay : List Nat} {d : Nat} {P : PT} {G : KT} (hC : Clo lay (d + 1) mM_draw P G) {v0 : Nat} {v2 : Int32} {v3 : Int64} {v5 : Int32} {μ : Mem}
    (h : ((v2 ≤ v5 → P (some (vi (μ.1 v0 2))) μ) ∧ (¬ v2 ≤ v5 → (¬ (lN 2147483648) = 0 ∧ G 60 [rf 16 v0, un, vi v2, vl (((v3 * (lN 1103515245)) + (lN 12345)) - ((v3 * (lN 1103515245)) + (lN 12345)) / (lN 2147483648) * (lN 2147483648)), un, vi v5, un, un] [] μ)))) :
    G 40 [rf 16 v0, un, vi v2, vl v3, un, vi v5, un, un] [] μ := seg hC [(40, [1, 4, 6, 7]), (60, [1, 4, 6, 7]), (92, [1, 4]), (117, [1, 4])] 14 rfl h
theorem g_M_draw_60 {lay : List Nat} {d : Nat} {P : PT} {G : KT} (hC : Clo lay (d + 1) mM_draw P G) {v0 : Nat} {v2 : Int32} {v3 : Int64} {v5 : Int32} {μ : Mem}
    (h : (¬ (lN 1024) = 0 ∧ (¬ (((μ.1 v0 1) + (nI 1)).toInt64) = 0 ∧ (¬ (lN 32768) = 0 ∧ (¬ (((μ.1 v0 1) + (nI 1)).toInt64) = 0 ∧ G 92 [rf 16 v0, un, vi v2, vl v3, un, vi v5, vi (((v3 / (lN 1024)) - (v3 / (lN 1024)) / (((μ.1 v0 1) + (nI 1)).toInt64) * (((μ.1 v0 1) + (nI 1)).toInt64)).toInt32), vi (((v3 / (lN 32768)) - (v3 / (lN 32768)) / (((μ.1 v0 1) + (nI 1)).toInt64) * (((μ.1 v0 1) + (nI 1)).toInt64)).toInt32)] [] μ))))) :
    G 60 [rf 16 v0, un, vi v2, vl v3, un, vi v5, un, un] [] μ := seg hC [(40, [1, 4, 6, 7]), (60, [1, 4, 6, 7]), (92, [1, 4]), (117, [1, 4])] 25 rfl h
theorem g_M_draw_92 {lay : List Nat} {d : Nat} {P : PT} {G : KT} (hC : Clo lay (d + 1) mM_draw P G) {v0 : Nat} {v2 : Int32} {v3 : Int64} {v5 : Int32} {v6 : Int32} {v7 : Int32} {μ : Mem}
    (h : (¬ (lN 65536) = 0 ∧ (¬ (lN 4) = 0 ∧ ((v7 ≤ v6 → G 117 [rf 16 v0, un, vi v2, vl v3, un, vi v5, vi v6, vi v7] [vi v7, vi (((v3 / (lN 65536)) - (v3 / (lN 65536)) / (lN 4) * (lN 4)).toInt32), rf 16 v0] μ) ∧ (¬ v7 ≤ v6 → G 117 [rf 16 v0, un, vi v2, vl v3, un, vi v5, vi v6, vi v7] [vi v6, vi (((v3 / (lN 65536)) - (v3 / (lN 65536)) / (lN 4) * (lN 4)).toInt32), rf 16 v0] μ))))) :
    G 92 [rf 16 v0, un, vi v2, vl v3, un, vi v5, vi v6, vi v7] [] μ := seg hC [(40, [1, 4, 6, 7]), (60, [1, 4, 6, 7]), (92, [1, 4]), (117, [1, 4])] 15 rfl h
theorem g_M_draw_117 {lay : List Nat} {d : Nat} {P : PT} {G : KT} (hC : Clo lay (d + 1) mM_draw P G) {v0 : Nat} {v2 : Int32} {v3 : Int64} {v5 : Int32} {v6 : Int32} {v7 : Int32} {s0 : Int32} {s1 : Int32} {s2 : Nat} {μ : Mem}
    (h : ((v7 ≤ v6 → (∃ P131 : PT, Rn lay d mM_comes [rf 16 s2, vi s1, vi s0, vi v6] μ P131 ∧ ∀ μ131 : Mem, P131 none μ131 → (∃ P140 : PT, Rn lay d mM_isTooMuch [rf 16 v0] μ131 P140 ∧ ∀ (x140 : Int32) (μ140 : Mem), P140 (some (vi x140)) μ140 → ((x140 = 0 → G 40 [rf 16 v0, un, vi v2, vl v3, un, vi (v5 + nI 1), un, un] [] (upI μ140 v0 2 ((μ131.1 v0 2) - (nI 0)))) ∧ (¬ x140 = 0 → G 40 [rf 16 v0, un, vi v2, vl v3, un, vi (v5 + nI 1), un, un] [] (upI μ140 v0 2 ((μ131.1 v0 2) - (nI 1)))))))) ∧ (¬ v7 ≤ v6 → (∃ P131 : PT, Rn lay d mM_comes [rf 16 s2, vi s1, vi s0, vi v7] μ P131 ∧ ∀ μ131 : Mem, P131 none μ131 → (∃ P140 : PT, Rn lay d mM_isTooMuch [rf 16 v0] μ131 P140 ∧ ∀ (x140 : Int32) (μ140 : Mem), P140 (some (vi x140)) μ140 → ((x140 = 0 → G 40 [rf 16 v0, un, vi v2, vl v3, un, vi (v5 + nI 1), un, un] [] (upI μ140 v0 2 ((μ131.1 v0 2) - (nI 0)))) ∧ (¬ x140 = 0 → G 40 [rf 16 v0, un, vi v2, vl v3, un, vi (v5 + nI 1), un, un] [] (upI μ140 v0 2 ((μ131.1 v0 2) - (nI 1)))))))))) :
    G 117 [rf 16 v0, un, vi v2, vl v3, un, vi v5, vi v6, vi v7] [vi s0, vi s1, rf 16 s2] μ := seg hC [(40, [1, 4, 6, 7]), (60, [1, 4, 6, 7]), (92, [1, 4]), (117, [1, 4])] 21 rfl h
theorem ok_M_tells : okB mM_tells = true := by decide +kernel
theorem g_M_tells_0 {lay : List Nat} {d : Nat} {P : PT} {G : KT} (hC : Clo lay (d + 1) mM_tells P G) {v0 : Nat} {v1 : Int32} {μ : Mem}
    (h : (((nI 3) ≤ v1 → ((¬ v1 = (nI 5) → ((¬ v1 = (nI 3) → ((¬ v1 = (nI 4) → ((¬ v1 = (nI 6) → (vp_in (nI 0) 4 ∧ (vp_in (nI 1) 4 ∧ (vp_in (nI 2) 4 ∧ (vp_in (nI 3) 4 ∧ P (some (vi (((((nI 1000) * (μ.1 (v0 + 5) (nI 0).toNatClampNeg)) + ((nI 100) * (μ.1 (v0 + 5) (nI 1).toNatClampNeg))) + ((nI 10) * (μ.1 (v0 + 5) (nI 2).toNatClampNeg))) + (μ.1 (v0 + 5) (nI 3).toNatClampNeg)))) μ))))) ∧ (v1 = (nI 6) → P (some (vi (μ.1 v0 8))) μ))) ∧ (v1 = (nI 4) → P (some (vi (μ.1 v0 1))) μ))) ∧ (v1 = (nI 3) → P (some (vi (μ.1 v0 2))) μ))) ∧ (v1 = (nI 5) → (∃ P19 : PT, Rn lay d mM_setCuts [rf 16 v0, vi (mI 0)] μ P19 ∧ ∀ μ19 : Mem, P19 none μ19 → (∃ P23 : PT, Rn lay d mM_sections [rf 16 v0] μ19 P23 ∧ ∀ (x23 : Int32) (μ23 : Mem), P23 (some (vi x23)) μ23 → P (some (vi x23)) μ23))))) ∧ (¬ (nI 3) ≤ v1 → (vp_in v1 3 ∧ P (some (vi (μ.1 (v0 + 1) v1.toNatClampNeg))) μ)))) :
    G 0 [rf 16 v0, vi v1] [] μ := seg hC [] 44 rfl h
theorem ok_M_told : okB mM_told = true := by decide +kernel
theorem g_M_told_0 {lay : List Nat} {d : Nat} {P : PT} {G : KT} (hC : Clo lay (d + 1) mM_told P G) {v0 : Nat} {v1 : Int32} {μ : Mem}
    (h : (∃ P4 : PT, Rn lay d mM_in [vi v1, vi (nI 0), vi (nI 7)] μ P4 ∧ ∀ (x4 : Int32) (μ4 : Mem), P4 (some (vi x4)) μ4 → ((x4 = 0 → (∃ P19 : PT, Rn lay d mM_bad [rf 16 v0] μ4 P19 ∧ ∀ (x19 : Int32) (μ19 : Mem), P19 (some (vi x19)) μ19 → P (some (vi x19)) μ19)) ∧ (¬ x4 = 0 → (∃ P12 : PT, Rn lay d mM_tells [rf 16 v0, vi v1] μ4 P12 ∧ ∀ (x12 : Int32) (μ12 : Mem), P12 (some (vi x12)) μ12 → P (some (vi x12)) μ12))))) :
    G 0 [rf 16 v0, vi v1] [] μ := seg hC [] 13 rfl h
theorem ok_M_digest : okB mM_digest = true := by decide +kernel
theorem g_M_digest_0 {lay : List Nat} {d : Nat} {P : PT} {G : KT} (hC : Clo lay (d + 1) mM_digest P G) {v0 : Nat} {μ : Mem}
    (h : G 6 [rf 16 v0, vl (lN 1951), un, vi (nI 0)] [] μ) :
    G 0 [rf 16 v0, un, un, un] [] μ := seg hC [(6, [2]), (33, [2]), (89, [2, 3])] 7 rfl h
theorem g_M_digest_6 {lay : List Nat} {d : Nat} {P : PT} {G : KT} (hC : Clo lay (d + 1) mM_digest P G) {v0 : Nat} {v1 : Int64} {v3 : Int32} {μ : Mem}
    (h : (((nI 8) ≤ v3 → G 33 [rf 16 v0, vl v1, un, vi (nI 0)] [] μ) ∧ (¬ (nI 8) ≤ v3 → (∃ P19 : PT, Rn lay d mM_tells [rf 16 v0, vi v3] μ P19 ∧ ∀ (x19 : Int32) (μ19 : Mem), P19 (some (vi x19)) μ19 → G 6 [rf 16 v0, vl (((lN 31) * v1) + x19.toInt64), un, vi (v3 + nI 1)] [] μ19)))) :
    G 6 [rf 16 v0, vl v1, un, vi v3] [] μ := seg hC [(6, [2]), (33, [2]), (89, [2, 3])] 17 rfl h
theorem g_M_digest_33 {lay : List Nat} {d : Nat} {P : PT} {G : KT} (hC : Clo lay (d + 1) mM_digest P G) {v0 : Nat} {v1 : Int64} {v3 : Int32} {μ : Mem}
    (h : (((μ.1 v0 2) ≤ v3 → G 89 [rf 16 v0, vl v1, un, un] [] μ) ∧ (¬ (μ.1 v0 2) ≤ v3 → (vp_in v3 9 ∧ (vp_in v3 9 ∧ (vp_in v3 9 ∧ G 33 [rf 16 v0, vl (((lN 31) * (((lN 31) * (((lN 31) * v1) + ((μ.1 (v0 + 2) v3.toNatClampNeg).toInt64))) + ((μ.1 (v0 + 3) v3.toNatClampNeg).toInt64))) + ((μ.1 (v0 + 4) v3.toNatClampNeg).toInt64)), un, vi (v3 + nI 1)] [] μ)))))) :
    G 33 [rf 16 v0, vl v1, un, vi v3] [] μ := seg hC [(6, [2]), (33, [2]), (89, [2, 3])] 39 rfl h
theorem g_M_digest_89 {lay : List Nat} {d : Nat} {P : PT} {G : KT} (hC : Clo lay (d + 1) mM_digest P G) {v0 : Nat} {v1 : Int64} {μ : Mem}
    (h : (∃ P95 : PT, Rn lay d mM_setThe [rf 16 v0] μ P95 ∧ ∀ (x95 : Int32) (μ95 : Mem), P95 (some (vi x95)) μ95 → (∃ P102 : PT, Rn lay d mM_setNodes [rf 16 v0] μ95 P102 ∧ ∀ μ102 : Mem, P102 none μ102 → P (some (vl (((lN 31) * (((lN 31) * v1) + x95.toInt64)) + ((μ102.1 v0 18).toInt64)))) μ102))) :
    G 89 [rf 16 v0, vl v1, un, un] [] μ := seg hC [(6, [2]), (33, [2]), (89, [2, 3])] 21 rfl h
end
section
/-! numbers, memories and the abstract text -/
theorem nx_le {a b : Nat} (ha : a < 2147483648) (hb : b < 2147483648) : (nI a ≤ nI b) = (a ≤ b) := propext (nI_leI (by omega) (by omega))
theorem nx_lt {a b : Nat} (ha : a < 2147483648) (hb : b < 2147483648) : (nI a < nI b) = (a < b) := propext (nI_ltI (by omega) (by omega))
theorem nx_eq {a b : Nat} (ha : a < 2147483648) (hb : b < 2147483648) : (nI a = nI b) = (a = b) := propext (nI_eq (by omega) (by omega))
theorem nx_cl {a : Nat} (ha : a < 2147483648) : (nI a).toNatClampNeg = a := nI_clamp (by omega)
theorem nx_in {a n : Nat} (hn : n < 2147483648) : vp_in (nI a) n = (a < n) ∨ 2147483648 ≤ a := by
  rcases Nat.lt_or_ge a 2147483648 with h | h
  · refine Or.inl (propext ⟨fun q => ?_, fun q => vp_in_nI q (by omega)⟩)
    have := (vp_in_iff.mp q).2
    rw [nI_toInt (by omega)] at this
    omega
  · exact Or.inr h
theorem nx_in' {a n : Nat} (ha : a < 2147483648) (hn : n < 2147483648) : vp_in (nI a) n = (a < n) := (nx_in hn).resolve_right (by omega)
theorem nx_sub {a b : Nat} (h : b ≤ a) : nI a - nI b = nI (a - b) := pk_sub h
theorem nx_0 : (0 : Int32) = nI 0 := nI_0.symm
theorem nx_shl : ∀ i, i < 31 → (nI 1) <<< (nI i &&& 31) = nI (2 ^ i) := by decide
theorem nx_or (a b : Nat) : nI a ||| nI b = nI (a ||| b) := by
  apply Int32.toBitVec_inj.mp
  show BitVec.ofNat 32 a ||| BitVec.ofNat 32 b = BitVec.ofNat 32 (a ||| b)
  rw [BitVec.ofNat_or]
theorem nx_and (a b : Nat) : nI a &&& nI b = nI (a &&& b) := by
  apply Int32.toBitVec_inj.mp
  show BitVec.ofNat 32 a &&& BitVec.ofNat 32 b = BitVec.ofNat 32 (a &&& b)
  rw [BitVec.ofNat_and]
theorem mI_0 : mI 0 = -1 := by decide
theorem mI_lt (n : Nat) (h : n < 100) : mI n < 0 := by
  have : ∀ n, n < 100 → mI n < 0 := by decide +kernel
  exact this n h
theorem mI_ne {n k : Nat} (h : n < 100) (hk : k < 2147483648) : ¬ mI n = nI k := fun q => by
  have h1 := mI_lt n h
  rw [q] at h1
  exact nI_pos (by omega) h1
/-- of any int: below 0, n or above, or a number below n -/
theorem nx_ix (x : Int32) {n : Nat} (hn : n < 2147483648) : x < 0 ∨ nI n ≤ x ∨ ∃ j : Nat, j < n ∧ x = nI j := pk_ix x (by omega)
theorem nx_ge0 {x : Int32} : (¬ x < 0) = ∃ j : Nat, j < 2147483648 ∧ x = nI j := propext ⟨fun h => by
  obtain ⟨j, h1, h2⟩ := nI_of h
  exact ⟨j, by omega, h2⟩, fun ⟨j, h1, h2⟩ => by rw [h2]; exact nI_pos (by omega)⟩
theorem nx_neg {a : Nat} (ha : a < 2147483648) : ¬ nI a < 0 := nI_pos (by omega)
/-! memories -/
theorem up_get (μ : Mem) (a k : Nat) (v : Int32) (b j : Nat) : (upI μ a k v).1 b j = if b = a ∧ j = k then v else μ.1 b j := rfl
theorem up_at (μ : Mem) (a k : Nat) (v : Int32) : (upI μ a k v).1 a k = v := by rw [up_get, if_pos ⟨rfl, rfl⟩]
theorem up_ne {μ : Mem} {a k b j : Nat} {v : Int32} (h : b ≠ a ∨ j ≠ k) : (upI μ a k v).1 b j = μ.1 b j := by
  rw [up_get, if_neg]
  rintro ⟨h1, h2⟩
  rcases h with h | h
  · exact h h1
  · exact h h2
theorem up_cell {μ : Mem} {a k b : Nat} {v : Int32} (h : b ≠ a) : (upI μ a k v).1 b = μ.1 b := upI_ne h
theorem up_2 (μ : Mem) (a k : Nat) (v : Int32) : (upI μ a k v).2 = μ.2 := rfl
/-- nothing but the cells of S has changed -/
def Fr (S : List Nat) (μ μ1 : Mem) : Prop := (∀ b, b ∉ S → μ1.1 b = μ.1 b) ∧ μ1.2 = μ.2
theorem Fr.rf (S : List Nat) (μ : Mem) : Fr S μ μ := ⟨fun _ _ => rfl, rfl⟩
theorem Fr.tr {S : List Nat} {μ μ1 μ2 : Mem} (h : Fr S μ μ1) (h2 : Fr S μ1 μ2) : Fr S μ μ2 := ⟨fun b hb => (h2.1 b hb).trans (h.1 b hb), h2.2.trans h.2⟩
theorem Fr.up {S : List Nat} {μ μ1 : Mem} {a k : Nat} {v : Int32} (h : Fr S μ μ1) (ha : a ∈ S) : Fr S μ (upI μ1 a k v) := ⟨fun b hb => by
  rw [up_cell (show b ≠ a from fun e => hb (by rw [e]; exact ha))]
  exact h.1 b hb, h.2⟩
theorem Fr.mono {S S' : List Nat} {μ μ1 : Mem} (h : Fr S μ μ1) (hs : ∀ b ∈ S, b ∈ S') : Fr S' μ μ1 := ⟨fun b hb => h.1 b (fun q => hb (hs b q)), h.2⟩
/-! contracts -/
def Pv (x : Int32) (μ : Mem) : PT := fun v μ1 => v = some (vi x) ∧ μ1 = μ
def Pn (Q : Mem → Prop) : PT := fun v μ1 => v = none ∧ Q μ1
def Pq (Q : Int32 → Mem → Prop) : PT := fun v μ1 => ∃ x, v = some (vi x) ∧ Q x μ1
theorem useV {lay : List Nat} {d M : Nat} {av : List TV} {μ : Mem} {c : Int32} {K : Int32 → Mem → Prop} (h : Rn lay d M av μ (Pv c μ)) (k : K c μ) : ∃ P : PT, Rn lay d M av μ P ∧ ∀ (x : Int32) (μ1 : Mem), P (some (vi x)) μ1 → K x μ1 := ⟨_, h, fun x μ1 hp => by
  obtain ⟨hx, rfl⟩ := hp
  cases hx
  exact k⟩
theorem useN {lay : List Nat} {d M : Nat} {av : List TV} {μ : Mem} {Q K : Mem → Prop} (h : Rn lay d M av μ (Pn Q)) (k : ∀ μ1, Q μ1 → K μ1) : ∃ P : PT, Rn lay d M av μ P ∧ ∀ μ1 : Mem, P none μ1 → K μ1 := ⟨_, h, fun μ1 hp => k μ1 hp.2⟩
theorem useQ {lay : List Nat} {d M : Nat} {av : List TV} {μ : Mem} {Q K : Int32 → Mem → Prop} (h : Rn lay d M av μ (Pq Q)) (k : ∀ x μ1, Q x μ1 → K x μ1) : ∃ P : PT, Rn lay d M av μ P ∧ ∀ (x : Int32) (μ1 : Mem), P (some (vi x)) μ1 → K x μ1 := ⟨_, h, fun x μ1 hp => by
  obtain ⟨y, hy, hq⟩ := hp
  cases hy
  exact k x μ1 hq⟩
/-! the abstract text: ranges (kind, a, b), length, ranks -/
abbrev RG : Type := Nat × Nat × Nat
abbrev TS : Type := List RG × Nat × List Nat
def kd (rs : List RG) (i : Nat) : Nat := (rs.getD i (0, 0, 0)).1
def ra (rs : List RG) (i : Nat) : Nat := (rs.getD i (0, 0, 0)).2.1
def rb (rs : List RG) (i : Nat) : Nat := (rs.getD i (0, 0, 0)).2.2
def RAt (μ : Mem) (iK iA iB : Nat) (rs : List RG) : Prop := ∀ i, i < rs.length → μ.1 iK i = nI (kd rs i) ∧ μ.1 iA i = nI (ra rs i) ∧ μ.1 iB i = nI (rb rs i)
def WR (L : Nat) (rs : List RG) : Prop := rs.length ≤ 8 ∧ ∀ r ∈ rs, r.1 < 4 ∧ r.2.1 ≤ r.2.2 ∧ r.2.2 ≤ L
def WT (T : TS) : Prop := WR T.2.1 T.1 ∧ T.2.1 ≤ 90 ∧ T.2.2.length = 4 ∧ ∀ x ∈ T.2.2, x < 4
def TeAt (μ : Mem) (t : Nat) (T : TS) : Prop := μ.1 t 4 = nI T.1.length ∧ μ.1 t 5 = nI T.2.1 ∧ RAt μ (t + 1) (t + 2) (t + 3) T.1 ∧ ∀ k, k < 4 → μ.1 (t + 4) k = nI (T.2.2.getD k 0)
theorem rg_at {rs : List RG} {i : Nat} (h : i < rs.length) : rs[i]? = some (kd rs i, ra rs i, rb rs i) := by
  unfold kd ra rb
  rw [List.getD, List.getElem?_eq_getElem h]
  rfl
theorem WR.at {L : Nat} {rs : List RG} (h : WR L rs) {i : Nat} (hi : i < rs.length) : kd rs i < 4 ∧ ra rs i ≤ rb rs i ∧ rb rs i ≤ L := h.2 _ (List.mem_of_getElem? (rg_at hi))
theorem WT.rk {T : TS} (h : WT T) (k : Nat) : T.2.2.getD k 0 < 4 := by
  rw [List.getD]
  cases hk : T.2.2[k]? with
  | none => simp
  | some x => exact h.2.2.2 x (List.mem_of_getElem? hk)
/-- a cell's kind, at a text -/
def isTe (lay : List Nat) (t : Nat) : Prop := knd lay t = 13
theorem kTe {lay : List Nat} {t : Nat} (h : isTe lay t) : kOK lay (rf 13 t) := Or.inr h
/-! rewriting -/
theorem i_lt (x y : Int32) : (x < y) = (x.toInt < y.toInt) := propext Int32.lt_iff_toInt_lt
theorem i_le (x y : Int32) : (x ≤ y) = (x.toInt ≤ y.toInt) := propext Int32.le_iff_toInt_le
theorem i_eq (x y : Int32) : (x = y) = (x.toInt = y.toInt) := propext Int32.toInt_inj.symm
theorem nI_ti {n : Nat} (h : n < 2147483648) : (nI n).toInt = (n : Int) := nI_toInt (by omega)
theorem i_0 : (0 : Int32).toInt = 0 := by decide
theorem ti_lt (x : Int32) : x.toInt < 2147483648 := Int32.toInt_lt x
theorem ti_ge (x : Int32) : -2147483648 ≤ x.toInt := Int32.le_toInt x
theorem up_n1 {μ : Mem} {a k b j : Nat} {v : Int32} (h : b ≠ a) : (upI μ a k v).1 b j = μ.1 b j := up_ne (Or.inl h)
theorem up_n2 {μ : Mem} {a k j : Nat} {v : Int32} (h : j ≠ k) : (upI μ a k v).1 a j = μ.1 a j := up_ne (Or.inr h)
def bI (c : Prop) [Decidable c] : Int32 := if c then nI 1 else nI 0
theorem bI_t {c : Prop} [Decidable c] (h : c) : bI c = nI 1 := if_pos h
theorem bI_f {c : Prop} [Decidable c] (h : ¬ c) : bI c = nI 0 := if_neg h
theorem bI_01 (c : Prop) [Decidable c] : bI c = 0 ∨ bI c = 1 := by
  unfold bI
  split
  · exact Or.inr (by decide)
  · exact Or.inl (by decide)
theorem bI_eq0 (c : Prop) [Decidable c] : (bI c = 0) = ¬ c := by
  unfold bI
  split
  · next h => simp [h, nI]
  · next h => simp [h, nI]
theorem pv_t {c : Prop} [Decidable c] {μ : Mem} (h : c) : Pv (bI c) μ (some (vi (nI 1))) μ := ⟨by rw [bI_t h], rfl⟩
theorem pv_f {c : Prop} [Decidable c] {μ : Mem} (h : ¬ c) : Pv (bI c) μ (some (vi (nI 0))) μ := ⟨by rw [bI_f h], rfl⟩
theorem pv_e {x y : Int32} {μ : Mem} (h : y = x) : Pv x μ (some (vi y)) μ := ⟨by rw [h], rfl⟩
theorem bIc {c e : Prop} [Decidable c] [Decidable e] (h : c ↔ e) : bI c = bI e := by
  unfold bI
  by_cases q : c
  · rw [if_pos q, if_pos (h.mp q)]
  · rw [if_neg q, if_neg (fun z => q (h.mpr z))]
end
section
/-! Text: its questions -/
theorem isKind_ok {lay : List Nat} (hwf : wfB lay = true) (d : Nat) (x : Int32) (μ : Mem) : Rn lay d mTe_isKindNumber [vi x] μ (Pv (bI (0 ≤ x.toInt ∧ x.toInt < 4)) μ) := by
  refine Rn_intro ok_Te_isKindNumber hwf rfl (fun G hC => g_Te_isKindNumber_0 hC ?_)
  simp (disch := omega) only [i_lt, i_le, i_0, nI_ti]
  repeat' first | exact pv_f (by omega) | exact pv_t (by omega) | refine ⟨fun _ => ?_, fun _ => ?_⟩
theorem has_ok {lay : List Nat} (hwf : wfB lay = true) (d : Nat) {μ : Mem} {t : Nat} {T : TS} (hT : TeAt μ t T) (hw : WT T) (x : Int32) : Rn lay d mTe_has [rf 13 t, vi x] μ (Pv (bI (0 ≤ x.toInt ∧ x.toInt < T.1.length)) μ) := by
  have hn := hw.1.1
  refine Rn_intro ok_Te_has hwf rfl (fun G hC => g_Te_has_0 hC ?_)
  simp (disch := omega) only [hT.1, i_lt, i_le, i_0, nI_ti]
  repeat' first | exact pv_f (by omega) | exact pv_t (by omega) | refine ⟨fun _ => ?_, fun _ => ?_⟩
theorem has_nat {lay : List Nat} (hwf : wfB lay = true) (d : Nat) {μ : Mem} {t : Nat} {T : TS} (hT : TeAt μ t T) (hw : WT T) {j : Nat} (hj : j < 2147483648) : Rn lay d mTe_has [rf 13 t, vi (nI j)] μ (Pv (bI (j < T.1.length)) μ) := by
  have h := has_ok hwf d hT hw (nI j)
  rw [bIc (e := j < T.1.length) (by rw [nI_ti hj]; omega)] at h
  exact h
theorem holds_ok {lay : List Nat} (hwf : wfB lay = true) (d : Nat) {μ : Mem} {t : Nat} {T : TS} (hT : TeAt μ t T) (hw : WT T) (x y : Int32) : Rn lay d mTe_holds [rf 13 t, vi x, vi y] μ (Pv (bI (0 ≤ x.toInt ∧ x.toInt ≤ y.toInt ∧ y.toInt ≤ T.2.1)) μ) := by
  have hn := hw.2.1
  refine Rn_intro ok_Te_holds hwf rfl (fun G hC => g_Te_holds_0 hC ?_)
  simp (disch := omega) only [hT.2.1, i_lt, i_le, i_0, nI_ti]
  repeat' first | exact pv_f (by omega) | exact pv_t (by omega) | refine ⟨fun _ => ?_, fun _ => ?_⟩
theorem isEmpty_ok {lay : List Nat} (hwf : wfB lay = true) (d : Nat) {μ : Mem} {t : Nat} {T : TS} (hT : TeAt μ t T) (hw : WT T) {j : Nat} (hj : j < T.1.length) : Rn lay (d + 1) mTe_isEmpty [rf 13 t, vi (nI j)] μ (Pv (bI (ra T.1 j = rb T.1 j)) μ) := by
  have hn := hw.1.1
  obtain ⟨e1, e2, e3⟩ := hT.2.2.1 j hj
  have ⟨b1, b2, b3⟩ := hw.1.at hj
  have hL := hw.2.1
  refine Rn_intro ok_Te_isEmpty hwf rfl (fun G hC => g_Te_isEmpty_0 hC ?_)
  refine useV (has_nat hwf d hT hw (by omega)) ?_
  simp (disch := omega) only [bI_eq0, hj, nx_cl, e2, e3, nx_eq, nx_in']
  refine ⟨fun q => absurd trivial q, fun _ => ⟨by omega, by omega, fun _ => ?_, fun _ => ?_⟩⟩
  · exact pv_f (by omega)
  · exact pv_t (by omega)
theorem rankOf_ok {lay : List Nat} (hwf : wfB lay = true) (d : Nat) {μ : Mem} {t : Nat} {T : TS} (hT : TeAt μ t T) (hw : WT T) {j : Nat} (hj : j < 2147483648) : Rn lay (d + 1) mTe_rankOf [rf 13 t, vi (nI j)] μ (Pv (nI (if j < T.1.length then T.2.2.getD (kd T.1 j) 0 else 0)) μ) := by
  have hn := hw.1.1
  refine Rn_intro ok_Te_rankOf hwf rfl (fun G hC => g_Te_rankOf_0 hC ?_)
  refine useV (has_nat hwf d hT hw hj) ?_
  simp (disch := omega) only [bI_eq0]
  refine ⟨fun q => ?_, fun q => pv_e (by rw [if_neg q])⟩
  have hj2 : j < T.1.length := Decidable.not_not.mp q
  obtain ⟨e1, e2, e3⟩ := hT.2.2.1 j hj2
  have ⟨b1, b2, b3⟩ := hw.1.at hj2
  rw [nx_cl hj, e1]
  refine ⟨by rw [nx_in' (by omega) (by omega)]; omega, ?_⟩
  refine useV (isKind_ok hwf d _ μ) ?_
  simp (disch := omega) only [bI_eq0, nI_ti, nx_cl, nx_in', hT.2.2.2 _ b1]
  refine ⟨fun q => absurd (by omega) q, fun _ => ⟨b1, pv_e (by rw [if_pos hj2])⟩⟩
theorem ranksAsOne_ok {lay : List Nat} (hwf : wfB lay = true) (d : Nat) {μ : Mem} {t : Nat} {T : TS} (hT : TeAt μ t T) : Rn lay d mTe_ranksAsOne [rf 13 t] μ (Pv (nI (1000 * T.2.2.getD 0 0 + 100 * T.2.2.getD 1 0 + 10 * T.2.2.getD 2 0 + T.2.2.getD 3 0)) μ) := by
  have h0 := hT.2.2.2 0 (by omega)
  have h1 := hT.2.2.2 1 (by omega)
  have h2 := hT.2.2.2 2 (by omega)
  have h3 := hT.2.2.2 3 (by omega)
  refine Rn_intro ok_Te_ranksAsOne hwf rfl (fun G hC => g_Te_ranksAsOne_0 hC ?_)
  iterate 4
    refine g_Te_ranksAsOne_4 hC ?_
    simp (disch := omega) only [nI_add, nx_le, nx_cl, nx_in', pk_mul, h0, h1, h2, h3]
    refine ⟨fun q => absurd q (by omega), fun _ => ⟨by omega, ?_⟩⟩
  refine g_Te_ranksAsOne_4 hC ?_
  simp (disch := omega) only [nI_add, nx_le]
  refine ⟨fun _ => pv_e (by congr 1; omega), fun q => absurd (by omega) q⟩
/-- the ranges over a place, as bits, of the first i -/
def covU (rs : List RG) (p : Nat) : Nat → Nat
  | 0 => 0
  | i + 1 => covU rs p i ||| (if ra rs i ≤ p ∧ p < rb rs i then 2 ^ i else 0)
def cov (rs : List RG) (p : Nat) : Nat := covU rs p rs.length
theorem covU_lt (rs : List RG) (p : Nat) : ∀ i, covU rs p i < 2 ^ i
  | 0 => by simp [covU]
  | i + 1 => by
    have ih := covU_lt rs p i
    have h1 : covU rs p i < 2 ^ (i + 1) := Nat.lt_of_lt_of_le ih (Nat.pow_le_pow_right (by omega) (by omega))
    unfold covU
    refine Nat.or_lt_two_pow h1 ?_
    split
    · exact Nat.pow_lt_pow_right (by omega) (by omega)
    · exact Nat.two_pow_pos _
theorem cov_lt {rs : List RG} {p : Nat} (h : rs.length ≤ 8) : cov rs p < 256 := Nat.lt_of_lt_of_le (covU_lt rs p _) (by
  have := Nat.pow_le_pow_right (show 0 < 2 by omega) h
  exact this)
theorem covU_bit (rs : List RG) (p j : Nat) : ∀ i, (covU rs p i).testBit j = decide (j < i ∧ ra rs j ≤ p ∧ p < rb rs j)
  | 0 => by simp [covU]
  | i + 1 => by
    unfold covU
    rw [Nat.testBit_or, covU_bit rs p j i]
    by_cases hc : ra rs i ≤ p ∧ p < rb rs i
    · rw [if_pos hc, Nat.testBit_two_pow]
      by_cases e : i = j
      · subst e
        simp [hc]
      · simp [e, show (j < i + 1) = (j < i) from propext (by omega)]
    · rw [if_neg hc, Nat.zero_testBit, Bool.or_false]
      by_cases e : i = j
      · subst e
        simp [hc]
      · simp [show (j < i + 1) = (j < i) from propext (by omega)]
theorem coverAt_ok {lay : List Nat} (hwf : wfB lay = true) (d : Nat) {μ : Mem} {t : Nat} {T : TS} (hT : TeAt μ t T) (hw : WT T) {p : Nat} (hp : p < 2147483648) : Rn lay d mTe_coverAt [rf 13 t, vi (nI p)] μ (Pv (nI (cov T.1 p)) μ) := by
  have hn := hw.1.1
  have hL := hw.2.1
  refine Rn_intro ok_Te_coverAt hwf rfl (fun G hC => g_Te_coverAt_0 hC ?_)
  have loop : ∀ k i, i + k = T.1.length → G 4 [rf 13 t, vi (nI p), vi (nI (covU T.1 p i)), vi (nI i)] [] μ := by
    intro k
    induction k with
    | zero =>
      intro i hi
      refine g_Te_coverAt_4 hC ?_
      simp (disch := omega) only [hT.1, nx_le]
      refine ⟨fun _ => pv_e (by rw [cov, ← hi]; rfl), fun q => absurd (by omega) q⟩
    | succ k ih =>
      intro i hi
      have hil : i < T.1.length := by omega
      obtain ⟨e1, e2, e3⟩ := hT.2.2.1 i hil
      have ⟨b1, b2, b3⟩ := hw.1.at hil
      have ih := ih (i + 1) (by omega)
      refine g_Te_coverAt_4 hC ?_
      simp (disch := omega) only [hT.1, nx_le, nx_lt, nx_cl, nx_in', e2, e3, nI_add, nx_shl, nx_or]
      have hg : ∀ z, z = (if ra T.1 i ≤ p ∧ p < rb T.1 i then 2 ^ i else 0) → G 4 [rf 13 t, vi (nI p), vi (nI (covU T.1 p i ||| z)), vi (nI (i + 1))] [] μ := fun z hz => by
        rw [hz]
        exact ih
      refine ⟨fun q => absurd q (by omega), fun _ => ⟨fun q => absurd q (by omega), fun _ => ⟨by omega, fun q => ?_, fun q => ⟨by omega, fun q2 => ?_, fun q2 => ?_⟩⟩⟩⟩
      · have := hg 0 (by rw [if_neg (by omega)])
        simpa using this
      · have := hg 0 (by rw [if_neg (by omega)])
        simpa using this
      · exact hg _ (by rw [if_pos (by omega)])
  exact loop T.1.length 0 (by omega)
end
section
/-! Integer.bitCount of small numbers; Text: crowded, across -/
def popN (c : Nat) : Nat := ((List.range 8).filter (fun j => c.testBit j)).length
theorem popN_le (c : Nat) : popN c ≤ 8 := Nat.le_trans (List.length_filter_le _ _) (by simp)
theorem bitCount_ok {lay : List Nat} (hwf : wfB lay = true) (d : Nat) {c : Nat} (hc : c < 256) (μ : Mem) : Rn lay d mInt_bitCount [vi (nI c)] μ (Pv (nI (popN c)) μ) := by
  refine Rn_intro ok_Int_bitCount hwf rfl (fun G hC => g_Int_bitCount_0 hC ?_)
  refine pv_e ?_
  clear hC
  revert c
  decide +kernel
def crowd (rs : List RG) : Bool := (List.range rs.length).any fun r => decide (5 < popN (cov rs (ra rs r)))
theorem crowd_iff {rs : List RG} : crowd rs = true ↔ ∃ r, r < rs.length ∧ 5 < popN (cov rs (ra rs r)) := by
  unfold crowd
  rw [List.any_eq_true]
  constructor
  · rintro ⟨r, h1, h2⟩
    exact ⟨r, List.mem_range.mp h1, of_decide_eq_true h2⟩
  · rintro ⟨r, h1, h2⟩
    exact ⟨r, List.mem_range.mpr h1, decide_eq_true h2⟩
theorem isCrowded_ok {lay : List Nat} (hwf : wfB lay = true) (d : Nat) {μ : Mem} {t : Nat} {T : TS} (hT : TeAt μ t T) (hw : WT T) : Rn lay (d + 1) mTe_isCrowded [rf 13 t] μ (Pv (bI (crowd T.1 = true)) μ) := by
  have hn := hw.1.1
  have hL := hw.2.1
  refine Rn_intro ok_Te_isCrowded hwf rfl (fun G hC => g_Te_isCrowded_0 hC ?_)
  have loop : ∀ k i, i + k = T.1.length → (∀ r, r < i → ¬ 5 < popN (cov T.1 (ra T.1 r))) → G 2 [rf 13 t, vi (nI i)] [] μ := by
    intro k
    induction k with
    | zero =>
      intro i hi hq
      refine g_Te_isCrowded_2 hC ?_
      simp (disch := omega) only [hT.1, nx_le]
      refine ⟨fun _ => pv_f (fun z => ?_), fun q => absurd (by omega) q⟩
      obtain ⟨r, h1, h2⟩ := crowd_iff.mp z
      exact hq r (by omega) h2
    | succ k ih =>
      intro i hi hq
      have hil : i < T.1.length := by omega
      obtain ⟨e1, e2, e3⟩ := hT.2.2.1 i hil
      have ⟨b1, b2, b3⟩ := hw.1.at hil
      have hp := popN_le (cov T.1 (ra T.1 i))
      refine g_Te_isCrowded_2 hC ?_
      simp (disch := omega) only [hT.1, nx_le, nx_cl, nx_in', e2, nI_add]
      refine ⟨fun q => absurd q (by omega), fun _ => ⟨fun q => absurd q (by omega), fun _ => ⟨by omega, ?_⟩⟩⟩
      refine useV (coverAt_ok hwf d hT hw (by omega)) ?_
      refine useV (bitCount_ok hwf d (cov_lt hn) μ) ?_
      rw [nx_le (by omega) (by omega)]
      refine ⟨fun q => ih (i + 1) (by omega) (fun r hr => ?_), fun q => pv_t (crowd_iff.mpr ⟨i, hil, by omega⟩)⟩
      rcases Nat.lt_or_ge r i with z | z
      · exact hq r z
      · rw [show r = i by omega]
        omega
  exact loop T.1.length 0 (by omega) (fun r hr => by omega)
abbrev xs2 (rs : List RG) (r q : Nat) : Prop := ra rs r < ra rs q ∧ ra rs q < rb rs r ∧ rb rs r < rb rs q
theorem isAcross_ok {lay : List Nat} (hwf : wfB lay = true) (d : Nat) {μ : Mem} {t : Nat} {T : TS} (hT : TeAt μ t T) (hw : WT T) {r q : Nat} (hr : r < T.1.length) (hq : q < T.1.length) : Rn lay (d + 1) mTe_isAcross [rf 13 t, vi (nI r), vi (nI q)] μ (Pv (bI (xs2 T.1 r q)) μ) := by
  have hn := hw.1.1
  have hL := hw.2.1
  obtain ⟨-, e2, e3⟩ := hT.2.2.1 r hr
  obtain ⟨-, f2, f3⟩ := hT.2.2.1 q hq
  obtain ⟨-, b2, b3⟩ := hw.1.at hr
  obtain ⟨-, c2, c3⟩ := hw.1.at hq
  refine Rn_intro ok_Te_isAcross hwf rfl (fun G hC => g_Te_isAcross_0 hC ?_)
  refine useV (has_nat hwf d hT hw (by omega)) ?_
  rw [bI_eq0]
  refine ⟨fun z => absurd hr z, fun _ => ?_⟩
  refine useV (has_nat hwf d hT hw (by omega)) ?_
  simp (disch := omega) only [bI_eq0, nx_le, nx_cl, nx_in', e2, e3, f2, f3]
  refine ⟨fun _ => ⟨by omega, by omega, fun z => pv_f (by omega), fun z => ⟨by omega, by omega, fun z => pv_f (by omega), fun z => ⟨by omega, by omega, fun z => pv_f (by omega), fun z => pv_t (by omega)⟩⟩⟩, fun z => absurd hq z⟩
/-- how many of the first i lie across r -/
def xsU (rs : List RG) (r : Nat) : Nat → Nat
  | 0 => 0
  | i + 1 => xsU rs r i + (if xs2 rs r i ∨ xs2 rs i r then 1 else 0)
theorem xsU_le (rs : List RG) (r : Nat) : ∀ i, xsU rs r i ≤ i
  | 0 => Nat.le_refl 0
  | i + 1 => by
    have := xsU_le rs r i
    unfold xsU
    split <;> omega
theorem howManyAcross_ok {lay : List Nat} (hwf : wfB lay = true) (d : Nat) {μ : Mem} {t : Nat} {T : TS} (hT : TeAt μ t T) (hw : WT T) {r : Nat} (hr : r < T.1.length) : Rn lay (d + 2) mTe_howManyAcross [rf 13 t, vi (nI r)] μ (Pv (nI (xsU T.1 r T.1.length)) μ) := by
  have hn := hw.1.1
  refine Rn_intro ok_Te_howManyAcross hwf rfl (fun G hC => g_Te_howManyAcross_0 hC ?_)
  have loop : ∀ k i, i + k = T.1.length → G 4 [rf 13 t, vi (nI r), vi (nI (xsU T.1 r i)), vi (nI i)] [] μ := by
    intro k
    induction k with
    | zero =>
      intro i hi
      refine g_Te_howManyAcross_4 hC ?_
      simp (disch := omega) only [hT.1, nx_le]
      refine ⟨fun _ => pv_e (by rw [← hi]; rfl), fun q => absurd (by omega) q⟩
    | succ k ih =>
      intro i hi
      have hil : i < T.1.length := by omega
      have ih := ih (i + 1) (by omega)
      unfold xsU at ih
      refine g_Te_howManyAcross_4 hC ?_
      simp (disch := omega) only [hT.1, nx_le, nI_add]
      refine ⟨fun q => absurd q (by omega), fun _ => ⟨fun q => absurd q (by omega), fun _ => ?_⟩⟩
      refine useV (isAcross_ok hwf d hT hw hr hil) ?_
      rw [bI_eq0]
      refine ⟨fun z => ?_, fun z => ?_⟩
      · rw [if_pos (Or.inl (Decidable.not_not.mp z))] at ih
        exact ih
      refine useV (isAcross_ok hwf d hT hw hil hr) ?_
      rw [bI_eq0]
      refine ⟨fun z2 => ?_, fun z2 => ?_⟩
      · rw [if_neg (fun w => w.elim z z2)] at ih
        exact ih
      · rw [if_pos (Or.inr (Decidable.not_not.mp z2))] at ih
        exact ih
  exact loop T.1.length 0 (by omega)
end
section
/-! Text: its edits -/
def el (rs : List RG) (i : Nat) : RG := rs.getD i (0, 0, 0)
theorem el_1 (rs : List RG) (i : Nat) : (el rs i).1 = kd rs i := rfl
theorem el_2 (rs : List RG) (i : Nat) : (el rs i).2.1 = ra rs i := rfl
theorem el_3 (rs : List RG) (i : Nat) : (el rs i).2.2 = rb rs i := rfl
theorem el_in {rs : List RG} {i : Nat} (h : i < rs.length) : rs[i]? = some (el rs i) := rg_at h
theorem el_of {rs : List RG} {i : Nat} {x : RG} (h : rs[i]? = some x) : el rs i = x := by
  unfold el
  rw [List.getD, h]
  rfl
theorem el_app {rs : List RG} {x : RG} {i : Nat} (h : i < rs.length) : el (rs ++ [x]) i = el rs i := el_of (by rw [List.getElem?_append_left h]; exact el_in h)
theorem el_last {rs : List RG} {x : RG} : el (rs ++ [x]) rs.length = x := el_of (by simp)
theorem el_set {rs : List RG} {x : RG} {i j : Nat} (hj : j < rs.length) : el (rs.set j x) i = if i = j then x else el rs i := by
  by_cases h : i = j
  · subst h
    rw [if_pos rfl]
    exact el_of (List.getElem?_set_self hj)
  · rw [if_neg h]
    unfold el
    rw [List.getD, List.getD, List.getElem?_set_ne (Ne.symm h)]
theorem el_erase {rs : List RG} {i j : Nat} : el (rs.eraseIdx j) i = if i < j then el rs i else el rs (i + 1) := by
  unfold el
  rw [List.getD, List.getElem?_eraseIdx]
  split <;> rw [List.getD]
theorem el_map {rs : List RG} {f : RG → RG} {i : Nat} (h : i < rs.length) : el (rs.map f) i = f (el rs i) := el_of (by rw [List.getElem?_map, el_in h]; rfl)
def FAt (μ : Mem) (t n : Nat) (f : Nat → RG) : Prop := ∀ i, i < n → μ.1 (t + 1) i = nI (f i).1 ∧ μ.1 (t + 2) i = nI (f i).2.1 ∧ μ.1 (t + 3) i = nI (f i).2.2
theorem FAt.to {μ : Mem} {t : Nat} {f : Nat → RG} {rs : List RG} (h : FAt μ t rs.length f) (he : ∀ i, i < rs.length → f i = el rs i) : RAt μ (t + 1) (t + 2) (t + 3) rs := fun i hi => by
  have := h i hi
  rw [he i hi] at this
  exact this
abbrev teC (t : Nat) : List Nat := [t, t + 1, t + 2, t + 3, t + 4]
theorem TeAt.fr {μ μ1 : Mem} {t : Nat} {T : TS} (h : TeAt μ t T) (h0 : ∀ b ∈ teC t, μ1.1 b = μ.1 b) : TeAt μ1 t T := by
  obtain ⟨h1, h2, h3, h4⟩ := h
  have e0 := h0 t (by simp)
  have e1 := h0 (t + 1) (by simp)
  have e2 := h0 (t + 2) (by simp)
  have e3 := h0 (t + 3) (by simp)
  have e4 := h0 (t + 4) (by simp)
  refine ⟨by rw [e0]; exact h1, by rw [e0]; exact h2, fun i hi => ?_, fun k hk => by rw [e4]; exact h4 k hk⟩
  rw [e1, e2, e3]
  exact h3 i hi
theorem TeAt.far {μ μ1 : Mem} {t : Nat} {T : TS} {S : List Nat} (h : TeAt μ t T) (hf : Fr S μ μ1) (hd : ∀ b ∈ teC t, b ∉ S) : TeAt μ1 t T := h.fr (fun b hb => hf.1 b (hd b hb))
def rk0 : List Nat := [0, 1, 2, 3]
theorem clear_ok {lay : List Nat} (hwf : wfB lay = true) (d : Nat) (μ : Mem) (t : Nat) {L : Nat} : Rn lay d mTe_clear [rf 13 t, vi (nI L)] μ (Pn fun μ1 => TeAt μ1 t ([], L, rk0) ∧ Fr (teC t) μ μ1) := by
  refine Rn_intro ok_Te_clear hwf rfl (fun G hC => g_Te_clear_0 hC ?_)
  have loop : ∀ k i (μ' : Mem), i + k = 4 → μ'.1 t 4 = nI 0 → μ'.1 t 5 = nI L → (∀ j, j < i → μ'.1 (t + 4) j = nI j) → Fr (teC t) μ μ' → G 12 [rf 13 t, un, vi (nI i)] [] μ' := by
    intro k
    induction k with
    | zero =>
      intro i μ' hi h4 h5 hj hf
      refine g_Te_clear_12 hC ?_
      rw [nx_le (by omega) (by omega)]
      refine ⟨fun _ => ⟨rfl, ⟨h4, h5, fun i hi => by simp at hi, fun k hk => ?_⟩, hf⟩, fun q => absurd (by omega) q⟩
      rw [hj k (by omega)]
      rcases (show k = 0 ∨ k = 1 ∨ k = 2 ∨ k = 3 by omega) with e | e | e | e <;> subst e <;> rfl
    | succ k ih =>
      intro i μ' hi h4 h5 hj hf
      refine g_Te_clear_12 hC ?_
      simp (disch := omega) only [nx_le, nx_cl, nx_in', nI_add]
      refine ⟨fun q => absurd q (by omega), fun _ => ⟨by omega, ih (i + 1) _ (by omega) ?_ ?_ (fun j hj2 => ?_) (hf.up (by simp))⟩⟩
      · rw [up_n1 (by omega)]; exact h4
      · rw [up_n1 (by omega)]; exact h5
      · by_cases e : j = i
        · subst e; rw [up_at]
        · rw [up_n2 e]; exact hj j (by omega)
  refine loop 4 0 _ (by omega) ?_ ?_ (fun j hj => by omega) (((Fr.rf _ _).up (by simp)).up (by simp))
  · rw [up_n2 (by omega), up_at]
  · rw [up_at]
theorem copy_ok {lay : List Nat} (hwf : wfB lay = true) (d : Nat) {μ : Mem} {t u : Nat} {T : TS} (hT : TeAt μ u T) (hw : WT T) (hd : t + 5 ≤ u ∨ u + 5 ≤ t) : Rn lay d mTe_copy [rf 13 t, rf 13 u] μ (Pn fun μ1 => TeAt μ1 t T ∧ Fr (teC t) μ μ1) := by
  have hn := hw.1.1
  refine Rn_intro ok_Te_copy hwf rfl (fun G hC => g_Te_copy_0 hC ?_)
  have l2 : ∀ k i (μ' : Mem), i + k = 4 → μ'.1 t 4 = nI T.1.length → μ'.1 t 5 = nI T.2.1 → RAt μ' (t + 1) (t + 2) (t + 3) T.1 → (∀ j, j < i → μ'.1 (t + 4) j = nI (T.2.2.getD j 0)) → Fr (teC t) μ μ' → G 68 [rf 13 t, rf 13 u, vi (nI i)] [] μ' := by
    intro k
    induction k with
    | zero =>
      intro i μ' hi h4 h5 hr hj hf
      refine g_Te_copy_68 hC ?_
      rw [nx_le (by omega) (by omega)]
      exact ⟨fun _ => ⟨rfl, ⟨h4, h5, hr, fun k hk => hj k (by omega)⟩, hf⟩, fun q => absurd (by omega) q⟩
    | succ k ih =>
      intro i μ' hi h4 h5 hr hj hf
      have hs : μ'.1 (u + 4) i = nI (T.2.2.getD i 0) := by
        rw [hf.1 (u + 4) (by simp; omega)]
        exact hT.2.2.2 i (by omega)
      refine g_Te_copy_68 hC ?_
      simp (disch := omega) only [nx_le, nx_cl, nx_in', nI_add, hs]
      refine ⟨fun q => absurd q (by omega), fun _ => ⟨by omega, by omega, ih (i + 1) _ (by omega) ?_ ?_ ?_ (fun j hj2 => ?_) (hf.up (by simp))⟩⟩
      · rw [up_n1 (by omega)]; exact h4
      · rw [up_n1 (by omega)]; exact h5
      · intro j hj
        rw [up_n1 (by omega), up_n1 (by omega), up_n1 (by omega)]
        exact hr j hj
      · by_cases e : j = i
        · subst e; rw [up_at]
        · rw [up_n2 e]; exact hj j (by omega)
  have l1 : ∀ k i (μ' : Mem), i + k = 8 → μ'.1 t 4 = nI T.1.length → μ'.1 t 5 = nI T.2.1 → (∀ j, j < i → j < T.1.length → μ'.1 (t + 1) j = nI (kd T.1 j) ∧ μ'.1 (t + 2) j = nI (ra T.1 j) ∧ μ'.1 (t + 3) j = nI (rb T.1 j)) → Fr (teC t) μ μ' → G 18 [rf 13 t, rf 13 u, vi (nI i)] [] μ' := by
    intro k
    induction k with
    | zero =>
      intro i μ' hi h4 h5 hr hf
      refine g_Te_copy_18 hC ?_
      rw [nx_le (by omega) (by omega)]
      exact ⟨fun _ => l2 4 0 μ' (by omega) h4 h5 (fun j hj => hr j (by omega) hj) (fun j hj => by omega) hf, fun q => absurd (by omega) q⟩
    | succ k ih =>
      intro i μ' hi h4 h5 hr hf
      have g1 := hf.1 (u + 1) (by simp; omega)
      have g2 := hf.1 (u + 2) (by simp; omega)
      have g3 := hf.1 (u + 3) (by simp; omega)
      refine g_Te_copy_18 hC ?_
      simp (disch := omega) only [nx_le, nx_cl, nx_in', nI_add, up_n1, g1, g2, g3]
      refine ⟨fun q => absurd q (by omega), fun _ => ⟨by omega, by omega, by omega, by omega, by omega, by omega, ih (i + 1) _ (by omega) ?_ ?_ (fun j hj hl => ?_) (((hf.up (by simp)).up (by simp)).up (by simp))⟩⟩
      · rw [up_n1 (by omega), up_n1 (by omega), up_n1 (by omega)]; exact h4
      · rw [up_n1 (by omega), up_n1 (by omega), up_n1 (by omega)]; exact h5
      · by_cases e : j = i
        · subst e
          obtain ⟨e1, e2, e3⟩ := hT.2.2.1 j hl
          simp (disch := omega) only [up_n1, up_at, e1, e2, e3, and_self]
        · simp (disch := omega) only [up_n1, up_n2]
          exact hr j (by omega) hl
  refine l1 8 0 _ (by omega) ?_ ?_ (fun j hj => by omega) (((Fr.rf _ _).up (by simp)).up (by simp))
  · rw [up_n2 (by omega), up_at]; exact hT.1
  · rw [up_at, up_n1 (by omega)]; exact hT.2.1
theorem append_ok {lay : List Nat} (hwf : wfB lay = true) (d : Nat) {μ : Mem} {t : Nat} {T : TS} (hT : TeAt μ t T) {k a b : Nat} (hn : T.1.length < 8) : Rn lay d mTe_append [rf 13 t, vi (nI k), vi (nI a), vi (nI b)] μ (Pq fun x μ1 => x = nI 1 ∧ TeAt μ1 t (T.1 ++ [(k, a, b)], T.2) ∧ Fr (teC t) μ μ1) := by
  refine Rn_intro ok_Te_append hwf rfl (fun G hC => g_Te_append_0 hC ?_)
  simp (disch := omega) only [hT.1, nx_0, nx_lt, nx_cl, nx_in', up_n1, nI_add]
  refine ⟨fun q => absurd q (by omega), fun _ => ⟨fun _ => ⟨by omega, by omega, by omega, nI 1, rfl, rfl, ⟨?_, ?_, fun i hi => ?_, fun j hj => ?_⟩, ((((Fr.rf _ _).up (by simp)).up (by simp)).up (by simp)).up (by simp)⟩, fun q => absurd (by omega) q⟩⟩
  · rw [up_at]; simp
  · simp (disch := omega) only [up_n1, up_n2]; exact hT.2.1
  · rw [List.length_append, List.length_singleton] at hi
    rw [← el_1, ← el_2, ← el_3]
    by_cases e : i = T.1.length
    · subst e
      rw [el_last]
      simp (disch := omega) only [up_n1, up_at, and_self]
    · rw [el_app (by omega)]
      simp (disch := omega) only [up_n1, up_n2]
      exact hT.2.2.1 i (by omega)
  · simp (disch := omega) only [up_n1]; exact hT.2.2.2 j hj
theorem append_no {lay : List Nat} (hwf : wfB lay = true) (d : Nat) {μ : Mem} {t : Nat} {T : TS} (hT : TeAt μ t T) (k a b : Int32) (hn : T.1.length = 8) : Rn lay d mTe_append [rf 13 t, vi k, vi a, vi b] μ (Pv (nI 0) μ) := by
  refine Rn_intro ok_Te_append hwf rfl (fun G hC => g_Te_append_0 hC ?_)
  simp (disch := omega) only [hT.1, hn, nx_0, nx_lt]
  exact ⟨fun q => absurd q (by omega), fun _ => ⟨fun q => absurd q (by omega), fun _ => pv_e rfl⟩⟩
theorem lay_ok {lay : List Nat} (hwf : wfB lay = true) (d : Nat) {μ : Mem} {t : Nat} {T : TS} (hT : TeAt μ t T) (hw : WT T) {j a b : Nat} (hj : j < T.1.length) : Rn lay (d + 1) mTe_lay [rf 13 t, vi (nI j), vi (nI a), vi (nI b)] μ (Pn fun μ1 => TeAt μ1 t (T.1.set j (kd T.1 j, a, b), T.2) ∧ Fr (teC t) μ μ1) := by
  have hn := hw.1.1
  refine Rn_intro ok_Te_lay hwf rfl (fun G hC => g_Te_lay_0 hC ?_)
  refine useV (has_nat hwf d hT hw (by omega)) ?_
  simp (disch := omega) only [bI_eq0, nx_cl, nx_in']
  refine ⟨fun _ => ⟨by omega, by omega, rfl, ⟨?_, ?_, fun i hi => ?_, fun j hj => ?_⟩, ((Fr.rf _ _).up (by simp)).up (by simp)⟩, fun q => absurd hj q⟩
  · simp (disch := omega) only [up_n1]; rw [hT.1]; simp
  · simp (disch := omega) only [up_n1]; exact hT.2.1
  · rw [List.length_set] at hi
    obtain ⟨e1, e2, e3⟩ := hT.2.2.1 i hi
    rw [← el_1, ← el_2, ← el_3, el_set hj]
    by_cases e : i = j
    · subst e
      simp (disch := omega) only [up_n1, up_at, if_true, e1, and_self]
    · simp (disch := omega) only [up_n1, up_n2, if_neg e]
      exact hT.2.2.1 i hi
  · simp (disch := omega) only [up_n1]; exact hT.2.2.2 j hj
theorem remove_ok {lay : List Nat} (hwf : wfB lay = true) (d : Nat) {μ : Mem} {t : Nat} {T : TS} (hT : TeAt μ t T) (hw : WT T) {j : Nat} (hj : j < T.1.length) : Rn lay (d + 1) mTe_remove [rf 13 t, vi (nI j)] μ (Pn fun μ1 => TeAt μ1 t (T.1.eraseIdx j, T.2) ∧ Fr (teC t) μ μ1) := by
  have hn := hw.1.1
  refine Rn_intro ok_Te_remove hwf rfl (fun G hC => g_Te_remove_0 hC ?_)
  have loop : ∀ k q (μ' : Mem), q + 1 + k = T.1.length → j ≤ q → FAt μ' t T.1.length (fun i => if j ≤ i ∧ i < q then el T.1 (i + 1) else el T.1 i) → Fr [t + 1, t + 2, t + 3] μ μ' → G 11 [rf 13 t, un, vi (nI q)] [] μ' := by
    intro k
    induction k with
    | zero =>
      intro q μ' hq hjq hf hfr
      have g0 := hfr.1 t (by simp)
      have g4 := hfr.1 (t + 4) (by simp)
      have hc : μ'.1 t 4 = nI T.1.length := by rw [g0]; exact hT.1
      have h77 : G 77 [rf 13 t, un, un] [] μ' := by
        refine g_Te_remove_77 hC ⟨rfl, ⟨?_, ?_, fun i hi => ?_, fun k hk => ?_⟩, (hfr.mono (by simp)).up (by simp)⟩
        · rw [up_at, hc, nx_sub (by omega), List.length_eraseIdx_of_lt hj]
        · rw [up_n2 (by omega), g0]; exact hT.2.1
        · rw [List.length_eraseIdx_of_lt hj] at hi
          have := hf i (by omega)
          dsimp only at this
          rw [← el_1, ← el_2, ← el_3, el_erase]
          simp (disch := omega) only [up_n1]
          by_cases e : i < j
          · rw [if_pos e]
            rw [if_neg (by omega)] at this
            exact this
          · rw [if_neg e]
            rw [if_pos (by omega)] at this
            exact this
        · rw [up_n1 (by omega), g4]; exact hT.2.2.2 k hk
      refine g_Te_remove_11 hC ?_
      simp (disch := omega) only [hc, nI_add, nx_le]
      exact ⟨fun _ => h77, fun z => absurd (by omega) z⟩
    | succ k ih =>
      intro q μ' hq hjq hf hfr
      have g0 := hfr.1 t (by simp)
      have hc : μ'.1 t 4 = nI T.1.length := by rw [g0]; exact hT.1
      have hq1 := hf (q + 1) (by omega)
      dsimp only at hq1
      rw [if_neg (by omega)] at hq1
      obtain ⟨e1, e2, e3⟩ := hq1
      refine g_Te_remove_11 hC ?_
      simp (disch := omega) only [hc, nI_add, nx_le, nx_cl, nx_in', up_n1, e1, e2, e3]
      refine ⟨fun z => absurd z (by omega), fun _ => ⟨fun z => absurd z (by omega), fun _ => ⟨by omega, by omega, by omega, by omega, by omega, by omega, ih (q + 1) _ (by omega) (by omega) (fun i hi => ?_) (((hfr.up (by simp)).up (by simp)).up (by simp))⟩⟩⟩
      by_cases e : i = q
      · subst e
        simp (disch := omega) only [up_n1, up_at]
        rw [if_pos (by omega)]
        exact ⟨rfl, rfl, rfl⟩
      · simp (disch := omega) only [up_n1, up_n2]
        have := hf i hi
        simp only [show (j ≤ i ∧ i < q + 1) = (j ≤ i ∧ i < q) from propext (by omega)]
        exact this
  refine useV (has_nat hwf d hT hw (by omega)) ?_
  rw [bI_eq0]
  refine ⟨fun _ => loop (T.1.length - (j + 1)) j μ (by omega) (by omega) (fun i hi => ?_) (Fr.rf _ _), fun q => absurd hj q⟩
  simp only [show ¬ (j ≤ i ∧ i < j) by omega, if_false]
  exact hT.2.2.1 i hi
end
section
/-! Text: text put in and taken out, ranges that hang together, places drawn -/
theorem has_c {lay : List Nat} (hwf : wfB lay = true) (d : Nat) {μ : Mem} {t n j : Nat} (hc : μ.1 t 4 = nI n) (hn : n ≤ 8) (hj : j < 2147483648) : Rn lay d mTe_has [rf 13 t, vi (nI j)] μ (Pv (bI (j < n)) μ) := by
  refine Rn_intro ok_Te_has hwf rfl (fun G hC => g_Te_has_0 hC ?_)
  simp (disch := omega) only [hc, i_lt, i_le, i_0, nI_ti]
  repeat' first | exact pv_f (by omega) | exact pv_t (by omega) | refine ⟨fun _ => ?_, fun _ => ?_⟩
theorem isEmpty_c {lay : List Nat} (hwf : wfB lay = true) (d : Nat) {μ : Mem} {t n j a b : Nat} (hc : μ.1 t 4 = nI n) (hn : n ≤ 8) (hj : j < n) (ha : μ.1 (t + 2) j = nI a) (hb : μ.1 (t + 3) j = nI b) (ha2 : a < 2147483648) (hb2 : b < 2147483648) : Rn lay (d + 1) mTe_isEmpty [rf 13 t, vi (nI j)] μ (Pv (bI (a = b)) μ) := by
  refine Rn_intro ok_Te_isEmpty hwf rfl (fun G hC => g_Te_isEmpty_0 hC ?_)
  refine useV (has_c hwf d hc hn (by omega)) ?_
  simp (disch := omega) only [bI_eq0, hj, nx_cl, ha, hb, nx_eq, nx_in']
  refine ⟨fun q => absurd trivial q, fun _ => ⟨by omega, by omega, fun _ => ?_, fun _ => ?_⟩⟩
  · exact pv_f (by omega)
  · exact pv_t (by omega)
def putR (p m : Nat) (r : RG) : RG := (r.1, if p < r.2.1 ∨ (r.2.1 = p ∧ ¬ r.2.1 = r.2.2) then r.2.1 + m else r.2.1, if p < r.2.2 then r.2.2 + m else r.2.2)
theorem putIn_ok {lay : List Nat} (hwf : wfB lay = true) (d : Nat) {μ : Mem} {t : Nat} {T : TS} (hT : TeAt μ t T) (hw : WT T) {p m : Nat} (hp : p ≤ 90) (hm : m ≤ 90) : Rn lay (d + 2) mTe_putIn [rf 13 t, vi (nI p), vi (nI m)] μ (Pn fun μ1 => TeAt μ1 t (T.1.map (putR p m), T.2.1 + m, T.2.2) ∧ Fr (teC t) μ μ1) := by
  have hn := hw.1.1
  have hL := hw.2.1
  refine Rn_intro ok_Te_putIn hwf rfl (fun G hC => g_Te_putIn_0 hC ?_)
  have loop : ∀ k i (μ' : Mem), i + k = T.1.length → μ'.1 t 5 = nI (T.2.1 + m) → μ'.1 t 4 = nI T.1.length → FAt μ' t T.1.length (fun x => if x < i then putR p m (el T.1 x) else el T.1 x) → μ'.1 (t + 4) = μ.1 (t + 4) → Fr (teC t) μ μ' → G 12 [rf 13 t, vi (nI p), vi (nI m), vi (nI i), un] [] μ' := by
    intro k
    induction k with
    | zero =>
      intro i μ' hi h5 h4 hf h44 hfr
      refine g_Te_putIn_12 hC ?_
      simp (disch := omega) only [h4, nx_le]
      refine ⟨fun _ => ⟨rfl, ⟨by rw [h4]; simp, h5, fun x hx => ?_, fun k hk => by rw [h44]; exact hT.2.2.2 k hk⟩, hfr⟩, fun q => absurd (by omega) q⟩
      rw [List.length_map] at hx
      have := hf x hx
      dsimp only at this
      rw [if_pos (by omega)] at this
      rw [← el_1, ← el_2, ← el_3, el_map hx]
      exact this
    | succ k ih =>
      intro i μ' hi h5 h4 hf h44 hfr
      have hil : i < T.1.length := by omega
      have ⟨b1, b2, b3⟩ := hw.1.at hil
      have hfi := hf i hil
      dsimp only at hfi
      rw [if_neg (by omega)] at hfi
      obtain ⟨e1, e2, e3⟩ := hfi
      rw [el_2] at e2
      rw [el_3] at e3
      -- the end goes on or stays
      have h59 : ∀ (s0 : Int32) (c : Prop), (s0 = 0 ↔ ¬ c) → (c ↔ (p < ra T.1 i ∨ (ra T.1 i = p ∧ ¬ ra T.1 i = rb T.1 i))) → G 59 [rf 13 t, vi (nI p), vi (nI m), vi (nI i), un] [vi s0] μ' := by
        intro s0 c hs hcc
        have nxt : ∀ (μ2 : Mem), μ2.1 t = μ'.1 t → μ2.1 (t + 1) = μ'.1 (t + 1) → μ2.1 (t + 4) = μ'.1 (t + 4) → (∀ x, x ≠ i → μ2.1 (t + 2) x = μ'.1 (t + 2) x ∧ μ2.1 (t + 3) x = μ'.1 (t + 3) x) → μ2.1 (t + 2) i = nI (putR p m (el T.1 i)).2.1 → μ2.1 (t + 3) i = nI (putR p m (el T.1 i)).2.2 → Fr (teC t) μ μ2 → G 12 [rf 13 t, vi (nI p), vi (nI m), vi (nI (i + 1)), un] [] μ2 := by
          intro μ2 q0 q1 q4 qx qa qb qf
          refine ih (i + 1) μ2 (by omega) (by rw [q0]; exact h5) (by rw [q0]; exact h4) (fun x hx => ?_) (by rw [q4]; exact h44) qf
          by_cases e : x = i
          · subst e
            dsimp only
            rw [if_pos (by omega), q1]
            exact ⟨by rw [e1]; rfl, qa, qb⟩
          · have := hf x hx
            dsimp only at this ⊢
            rw [q1, (qx x e).1, (qx x e).2]
            simp only [show (x < i + 1) = (x < i) from propext (by omega)]
            exact this
        refine g_Te_putIn_59 hC ?_
        simp (disch := omega) only [nx_cl, nx_in', e2, e3, up_n1, nI_add, nx_le]
        refine ⟨fun z => ⟨by omega, fun z2 => ?_, fun z2 => ⟨by omega, by omega, ?_⟩⟩, fun z => ⟨by omega, by omega, by omega, fun z2 => ?_, fun z2 => ⟨by omega, by omega, ?_⟩⟩⟩
        · have hnc : ¬ (p < ra T.1 i ∨ (ra T.1 i = p ∧ ¬ ra T.1 i = rb T.1 i)) := fun w => hs.mp z (hcc.mpr w)
          refine nxt μ' rfl rfl rfl (fun x _ => ⟨rfl, rfl⟩) ?_ ?_ hfr
          · rw [show (putR p m (el T.1 i)).2.1 = ra T.1 i from if_neg hnc]; exact e2
          · rw [show (putR p m (el T.1 i)).2.2 = rb T.1 i from if_neg (show ¬ p < rb T.1 i by omega)]; exact e3
        · have hnc : ¬ (p < ra T.1 i ∨ (ra T.1 i = p ∧ ¬ ra T.1 i = rb T.1 i)) := fun w => hs.mp z (hcc.mpr w)
          refine nxt _ (up_cell (by omega)) (up_cell (by omega)) (up_cell (by omega)) (fun x hx => ?_) ?_ ?_ (hfr.up (by simp))
          · rw [up_n1 (by omega), up_n2 hx]; exact ⟨rfl, rfl⟩
          · rw [up_n1 (by omega)]
            rw [show (putR p m (el T.1 i)).2.1 = ra T.1 i from if_neg hnc]; exact e2
          · rw [up_at, show (putR p m (el T.1 i)).2.2 = rb T.1 i + m from if_pos (show p < rb T.1 i by omega)]
        · have hcc2 : p < ra T.1 i ∨ (ra T.1 i = p ∧ ¬ ra T.1 i = rb T.1 i) := hcc.mp (Classical.byContradiction fun w => z (hs.mpr w))
          omega
        · have hcc2 : p < ra T.1 i ∨ (ra T.1 i = p ∧ ¬ ra T.1 i = rb T.1 i) := hcc.mp (Classical.byContradiction fun w => z (hs.mpr w))
          refine nxt _ ?_ ?_ ?_ (fun x hx => ?_) ?_ ?_ ((hfr.up (by simp)).up (by simp))
          · rw [up_cell (by omega), up_cell (by omega)]
          · rw [up_cell (by omega), up_cell (by omega)]
          · rw [up_cell (by omega), up_cell (by omega)]
          · simp (disch := omega) only [up_n1, up_n2]
            exact ⟨trivial, trivial⟩
          · rw [up_n1 (by omega), up_at]
            rw [show (putR p m (el T.1 i)).2.1 = ra T.1 i + m from if_pos hcc2]
          · rw [up_at, show (putR p m (el T.1 i)).2.2 = rb T.1 i + m from if_pos (show p < rb T.1 i by omega)]
      refine g_Te_putIn_12 hC ?_
      simp (disch := omega) only [h4, nx_le, nx_lt, nx_eq, nx_cl, nx_in', e2]
      refine ⟨fun q => absurd q (by omega), fun _ => ⟨fun q => absurd q (by omega), fun _ => ⟨by omega, fun q => ?_, fun q => ⟨by omega, fun q2 => ?_, fun q2 => ?_⟩⟩⟩⟩
      · exact h59 _ True (by simp [nI]) (by simp; omega)
      · exact h59 _ False (by simp [nI]) (by simp; omega)
      · refine useV (isEmpty_c hwf d h4 hn hil e2 e3 (by omega) (by omega)) ?_
        rw [bI_eq0]
        refine ⟨fun z => h59 _ False (by simp [nI]) (by simp; omega), fun z => h59 _ True (by simp [nI]) (by simp; omega)⟩
  refine loop T.1.length 0 _ (by omega) ?_ ?_ (fun x hx => ?_) (up_cell (by omega)) ((Fr.rf _ _).up (by simp))
  · rw [up_at, hT.2.1, nI_add]
  · rw [up_n2 (by omega)]; exact hT.1
  · simp (disch := omega) only [up_n1]
    exact hT.2.2.1 x hx
def aft (p q x : Nat) : Nat := if q ≤ x then x - (q - p) else if p < x then p else x
theorem aft_ok {lay : List Nat} (hwf : wfB lay = true) (d : Nat) (μ : Mem) {p q x : Nat} (hp : p ≤ q) (hq : q ≤ 90) (hx : x ≤ 90) : Rn lay d mTe_afterTaking [vi (nI x), vi (nI p), vi (nI q)] μ (Pv (nI (aft p q x)) μ) := by
  refine Rn_intro ok_Te_afterTaking hwf rfl (fun G hC => g_Te_afterTaking_0 hC ?_)
  simp (disch := omega) only [nx_lt, nx_sub]
  refine ⟨fun z => pv_e ?_, fun z => ?_⟩
  · rw [show aft p q x = (if p < x then p else x) from if_neg (by omega)]
    split <;> rfl
  · rw [nx_sub (by omega)]
    exact pv_e (by unfold aft; rw [if_pos (by omega)])
def takR (p q : Nat) (r : RG) : RG := (r.1, aft p q r.2.1, aft p q r.2.2)
theorem takeOut_ok {lay : List Nat} (hwf : wfB lay = true) (d : Nat) {μ : Mem} {t : Nat} {T : TS} (hT : TeAt μ t T) (hw : WT T) {p q : Nat} (hp : p ≤ q) (hq : q ≤ T.2.1) : Rn lay (d + 1) mTe_takeOut [rf 13 t, vi (nI p), vi (nI q)] μ (Pn fun μ1 => TeAt μ1 t (T.1.map (takR p q), T.2.1 - (q - p), T.2.2) ∧ Fr (teC t) μ μ1) := by
  have hn := hw.1.1
  have hL := hw.2.1
  refine Rn_intro ok_Te_takeOut hwf rfl (fun G hC => g_Te_takeOut_0 hC ?_)
  have loop : ∀ k i (μ' : Mem), i + k = T.1.length → μ'.1 t 5 = nI (T.2.1 - (q - p)) → μ'.1 t 4 = nI T.1.length → FAt μ' t T.1.length (fun x => if x < i then takR p q (el T.1 x) else el T.1 x) → μ'.1 (t + 4) = μ.1 (t + 4) → Fr (teC t) μ μ' → G 14 [rf 13 t, vi (nI p), vi (nI q), vi (nI i)] [] μ' := by
    intro k
    induction k with
    | zero =>
      intro i μ' hi h5 h4 hf h44 hfr
      refine g_Te_takeOut_14 hC ?_
      simp (disch := omega) only [h4, nx_le]
      refine ⟨fun _ => ⟨rfl, ⟨by rw [h4]; simp, h5, fun x hx => ?_, fun k hk => by rw [h44]; exact hT.2.2.2 k hk⟩, hfr⟩, fun q => absurd (by omega) q⟩
      rw [List.length_map] at hx
      have := hf x hx
      dsimp only at this
      rw [if_pos (by omega)] at this
      rw [← el_1, ← el_2, ← el_3, el_map hx]
      exact this
    | succ k ih =>
      intro i μ' hi h5 h4 hf h44 hfr
      have hil : i < T.1.length := by omega
      have ⟨b1, b2, b3⟩ := hw.1.at hil
      have hfi := hf i hil
      dsimp only at hfi
      rw [if_neg (by omega)] at hfi
      obtain ⟨e1, e2, e3⟩ := hfi
      rw [el_2] at e2
      rw [el_3] at e3
      refine g_Te_takeOut_14 hC ?_
      simp (disch := omega) only [h4, nx_le, nx_cl, nx_in', e2, nI_add]
      refine ⟨fun z => absurd z (by omega), fun _ => ⟨fun z => absurd z (by omega), fun _ => ⟨by omega, ?_⟩⟩⟩
      refine useV (aft_ok hwf d μ' hp (by omega) (by omega)) ?_
      refine ⟨by omega, by omega, ?_⟩
      rw [up_n1 (by omega), e3]
      refine useV (aft_ok hwf d _ hp (by omega) (by omega)) ?_
      refine ⟨by omega, ih (i + 1) _ (by omega) ?_ ?_ (fun x hx => ?_) ?_ ((hfr.up (by simp)).up (by simp))⟩
      · simp (disch := omega) only [up_n1]; exact h5
      · simp (disch := omega) only [up_n1]; exact h4
      · by_cases e : x = i
        · subst e
          dsimp only
          rw [if_pos (by omega)]
          simp (disch := omega) only [up_n1, up_at]
          exact ⟨e1, rfl, rfl⟩
        · have := hf x hx
          dsimp only at this ⊢
          simp (disch := omega) only [up_n1, up_n2, show (x < i + 1) = (x < i) from propext (by omega)]
          exact this
      · rw [up_cell (by omega), up_cell (by omega)]; exact h44
  refine loop T.1.length 0 _ (by omega) ?_ ?_ (fun x hx => ?_) (up_cell (by omega)) ((Fr.rf _ _).up (by simp))
  · rw [up_at, hT.2.1, nx_sub hp, nx_sub (by omega)]
  · rw [up_n2 (by omega)]; exact hT.1
  · simp (disch := omega) only [up_n1]
    exact hT.2.2.1 x hx
end
section
abbrev hangB (rs : List RG) (r q : Nat) : Prop := ¬ ra rs r = rb rs r ∧ ¬ ra rs q = rb rs q ∧ kd rs r = kd rs q ∧ ra rs r ≤ rb rs q ∧ ra rs q ≤ rb rs r
theorem hang_ok {lay : List Nat} (hwf : wfB lay = true) (d : Nat) {μ : Mem} {t : Nat} {T : TS} (hT : TeAt μ t T) (hw : WT T) {r q : Nat} (hr : r < T.1.length) (hq : q < T.1.length) : Rn lay (d + 2) mTe_hangTogether [rf 13 t, vi (nI r), vi (nI q)] μ (Pv (bI (hangB T.1 r q)) μ) := by
  have hn := hw.1.1
  have hL := hw.2.1
  obtain ⟨e1, e2, e3⟩ := hT.2.2.1 r hr
  obtain ⟨f1, f2, f3⟩ := hT.2.2.1 q hq
  obtain ⟨a1, a2, a3⟩ := hw.1.at hr
  obtain ⟨c1, c2, c3⟩ := hw.1.at hq
  refine Rn_intro ok_Te_hangTogether hwf rfl (fun G hC => g_Te_hangTogether_0 hC ?_)
  refine useV (isEmpty_ok hwf d hT hw hr) ?_
  rw [bI_eq0]
  refine ⟨fun z => pv_f (fun w => w.1 (Decidable.not_not.mp z)), fun z => ?_⟩
  refine useV (isEmpty_ok hwf d hT hw hq) ?_
  rw [bI_eq0]
  refine ⟨fun z2 => pv_f (fun w => w.2.1 (Decidable.not_not.mp z2)), fun z2 => ?_⟩
  simp (disch := omega) only [nx_lt, nx_eq, nx_cl, nx_in', e1, e2, e3, f1, f2, f3]
  refine ⟨by omega, by omega, fun z3 => ⟨by omega, by omega, fun z4 => pv_f (by omega), fun z4 => ⟨by omega, by omega, fun z5 => pv_f (by omega), fun z5 => pv_t (by omega)⟩⟩, fun z3 => pv_f (by omega)⟩
def mrg (rs : List RG) (r q : Nat) : List RG := (rs.set r (kd rs r, (if ra rs q < ra rs r then ra rs q else ra rs r), (if rb rs r < rb rs q then rb rs q else rb rs r))).eraseIdx q
theorem mrg_len {rs : List RG} {r q : Nat} (hq : q < rs.length) : (mrg rs r q).length = rs.length - 1 := by
  unfold mrg
  rw [List.length_eraseIdx_of_lt (by rw [List.length_set]; exact hq), List.length_set]
theorem WR_set {L : Nat} {rs : List RG} {j : Nat} {x : RG} (h : WR L rs) (hx : x.1 < 4 ∧ x.2.1 ≤ x.2.2 ∧ x.2.2 ≤ L) : WR L (rs.set j x) := ⟨by rw [List.length_set]; exact h.1, fun r hr => by
  rcases List.mem_or_eq_of_mem_set hr with q | q
  · exact h.2 r q
  · rw [q]; exact hx⟩
theorem WR_erase {L : Nat} {rs : List RG} {j : Nat} (h : WR L rs) : WR L (rs.eraseIdx j) := ⟨Nat.le_trans (List.length_eraseIdx_le rs j) h.1, fun r hr => h.2 r (List.mem_of_mem_eraseIdx hr)⟩
theorem WR_mrg {L : Nat} {rs : List RG} {r q : Nat} (h : WR L rs) (hr : r < rs.length) (hq : q < rs.length) : WR L (mrg rs r q) := by
  obtain ⟨a1, a2, a3⟩ := h.at hr
  obtain ⟨c1, c2, c3⟩ := h.at hq
  refine WR_erase (WR_set h ⟨a1, ?_, ?_⟩)
  · dsimp only
    split <;> split <;> omega
  · dsimp only
    split <;> omega
def gathQ (r : Nat) : Nat → List RG → List RG
  | 0, rs => rs
  | q + 1, rs => if q + 1 ≤ r then rs else gathQ r q (if hangB rs r (q + 1) then mrg rs r (q + 1) else rs)
def gathN (r : Nat) : Nat → List RG → List RG
  | 0, rs => rs
  | n + 1, rs => gathN r n (gathQ r (rs.length - 1) rs)
def gather (rs : List RG) (r : Nat) : List RG := if ra rs r = rb rs r then rs else gathN r 8 rs
theorem gathQ_inv {L r : Nat} : ∀ (q : Nat) (rs : List RG), WR L rs → r < rs.length → q < rs.length → WR L (gathQ r q rs) ∧ r < (gathQ r q rs).length
  | 0, rs, h, hr, _ => ⟨h, hr⟩
  | q + 1, rs, h, hr, hq => by
    unfold gathQ
    split
    · exact ⟨h, hr⟩
    · split
      · exact gathQ_inv q _ (WR_mrg h hr hq) (by rw [mrg_len hq]; omega) (by rw [mrg_len hq]; omega)
      · exact gathQ_inv q rs h hr (by omega)
theorem gathN_inv {L r : Nat} : ∀ (n : Nat) (rs : List RG), WR L rs → r < rs.length → WR L (gathN r n rs) ∧ r < (gathN r n rs).length
  | 0, rs, h, hr => ⟨h, hr⟩
  | n + 1, rs, h, hr => by
    obtain ⟨h1, h2⟩ := gathQ_inv (rs.length - 1) rs h hr (by omega)
    exact gathN_inv n _ h1 h2
theorem gather_inv {L r : Nat} {rs : List RG} (h : WR L rs) (hr : r < rs.length) : WR L (gather rs r) ∧ r < (gather rs r).length := by
  unfold gather
  split
  · exact ⟨h, hr⟩
  · exact gathN_inv 8 rs h hr
theorem nx_dec (q : Nat) : nI (q + 1) + mI 0 = nI q := by
  rw [mI_0]
  exact pk_m1 q
theorem gather_ok {lay : List Nat} (hwf : wfB lay = true) (d : Nat) {μ : Mem} {t : Nat} {T : TS} (hT : TeAt μ t T) (hw : WT T) {r : Nat} (hr : r < T.1.length) : Rn lay (d + 3) mTe_gatherInto [rf 13 t, vi (nI r)] μ (Pn fun μ1 => TeAt μ1 t (gather T.1 r, T.2) ∧ Fr (teC t) μ μ1) := by
  obtain ⟨hw1, hw2⟩ := hw
  refine Rn_intro ok_Te_gatherInto hwf rfl (fun G hC => g_Te_gatherInto_0 hC ?_)
  -- one round
  have inner : ∀ q (rs : List RG) (μ' : Mem) (i : Nat), TeAt μ' t (rs, T.2) → WR T.2.1 rs → r < rs.length → q < rs.length → r ≤ q → Fr (teC t) μ μ' → (∀ μ2, TeAt μ2 t (gathQ r q rs, T.2) → Fr (teC t) μ μ2 → G 11 [rf 13 t, vi (nI r), vi (nI i + nI 1), un] [] μ2) → G 29 [rf 13 t, vi (nI r), vi (nI i), vi (nI q)] [] μ' := by
    intro q
    induction q with
    | zero =>
      intro rs μ' i hT' hW hrl hql hrq hf hk
      have := hW.1
      refine g_Te_gatherInto_29 hC ?_
      rw [nx_le (by omega) (by omega)]
      refine ⟨fun _ => hk μ' hT' hf, fun z => absurd (by omega) z⟩
    | succ q ih =>
      intro rs μ' i hT' hW hrl hql hrq hf hk
      have hn := hW.1
      have hw' : WT (rs, T.2) := ⟨hW, hw2⟩
      obtain ⟨e1, e2, e3⟩ := hT'.2.2.1 r hrl
      obtain ⟨f1, f2, f3⟩ := hT'.2.2.1 (q + 1) hql
      obtain ⟨a1, a2, a3⟩ := hW.at hrl
      obtain ⟨c1, c2, c3⟩ := hW.at hql
      have hL := hw2.1
      refine g_Te_gatherInto_29 hC ?_
      rw [nx_le (by omega) (by omega)]
      refine ⟨fun z => ?_, fun z => ?_⟩
      · have e : gathQ r (q + 1) rs = rs := by unfold gathQ; rw [if_pos z]
        rw [e] at hk
        exact hk μ' hT' hf
      · have e : gathQ r (q + 1) rs = gathQ r q (if hangB rs r (q + 1) then mrg rs r (q + 1) else rs) := by
          conv => lhs; unfold gathQ
          rw [if_neg z]
        rw [e] at hk
        refine useV (hang_ok hwf d hT' hw' hrl hql) ?_
        rw [bI_eq0, nx_dec]
        refine ⟨fun z2 => ?_, fun z2 => ?_⟩
        · rw [if_neg z2] at hk
          exact ih rs μ' i hT' hW hrl (by omega) (by omega) hf hk
        · have z2 := Decidable.not_not.mp z2
          rw [if_pos z2] at hk
          have hif1 : (if nI (ra rs (q + 1)) < nI (ra rs r) then nI (ra rs (q + 1)) else nI (ra rs r)) = nI (if ra rs (q + 1) < ra rs r then ra rs (q + 1) else ra rs r) := by
            simp only [nx_lt (show ra rs (q + 1) < 2147483648 by omega) (show ra rs r < 2147483648 by omega)]
            split <;> rfl
          have hif2 : (if nI (rb rs r) < nI (rb rs (q + 1)) then nI (rb rs (q + 1)) else nI (rb rs r)) = nI (if rb rs r < rb rs (q + 1) then rb rs (q + 1) else rb rs r) := by
            simp only [nx_lt (show rb rs r < 2147483648 by omega) (show rb rs (q + 1) < 2147483648 by omega)]
            split <;> rfl
          simp (disch := omega) only [nx_cl, nx_in', e2, e3, f2, f3]
          rw [hif1, hif2]
          refine ⟨by omega, by omega, by omega, by omega, ?_⟩
          refine useN (lay_ok hwf (d + 1) hT' hw' hrl) (fun μ1 h1 => ?_)
          obtain ⟨h1, h2⟩ := h1
          have hW2 : WR T.2.1 (rs.set r (kd rs r, (if ra rs (q + 1) < ra rs r then ra rs (q + 1) else ra rs r), (if rb rs r < rb rs (q + 1) then rb rs (q + 1) else rb rs r))) := by
            refine WR_set hW ⟨a1, ?_, ?_⟩
            · dsimp only
              split <;> split <;> omega
            · dsimp only
              split <;> omega
          refine useN (remove_ok hwf (d + 1) h1 ⟨hW2, hw2⟩ (by rw [List.length_set]; exact hql)) (fun μ2 h3 => ?_)
          obtain ⟨h3, h4⟩ := h3
          exact ih (mrg rs r (q + 1)) μ2 i h3 (WR_mrg hW hrl hql) (by rw [mrg_len hql]; omega) (by rw [mrg_len hql]; omega) (by omega) ((hf.tr h2).tr h4) hk
  have outer : ∀ k i (rs : List RG) (μ' : Mem), i + k = 8 → TeAt μ' t (rs, T.2) → WR T.2.1 rs → r < rs.length → Fr (teC t) μ μ' → gathN r k rs = gathN r 8 T.1 → ¬ ra T.1 r = rb T.1 r → G 11 [rf 13 t, vi (nI r), vi (nI i), un] [] μ' := by
    intro k
    induction k with
    | zero =>
      intro i rs μ' hi hT' hW hrl hf hg hne
      refine g_Te_gatherInto_11 hC ?_
      rw [nx_le (by omega) (by omega)]
      refine ⟨fun _ => ⟨rfl, ?_, hf⟩, fun z => absurd (by omega) z⟩
      unfold gather
      rw [if_neg hne, ← hg]
      exact hT'
    | succ k ih =>
      intro i rs μ' hi hT' hW hrl hf hg hne
      have hn := hW.1
      refine g_Te_gatherInto_11 hC ?_
      have hmin : (if nI 8 < nI rs.length then nI 8 else nI rs.length) = nI rs.length := by
        rw [if_neg (by rw [nx_lt (by omega) (by omega)]; omega)]
      rw [nx_le (by omega) (by omega), hT'.1, hmin, nx_sub (by omega)]
      refine ⟨fun z => absurd z (by omega), fun _ => ?_⟩
      refine inner (rs.length - 1) rs μ' i hT' hW hrl (by omega) (by omega) hf (fun μ2 h2 hf2 => ?_)
      rw [nI_add]
      obtain ⟨h3, h4⟩ := gathQ_inv (rs.length - 1) rs hW hrl (by omega)
      exact ih (i + 1) _ μ2 (by omega) h2 h3 h4 hf2 hg hne
  refine useV (isEmpty_ok hwf (d + 1) hT ⟨hw1, hw2⟩ hr) ?_
  rw [bI_eq0]
  refine ⟨fun z => outer 8 0 T.1 μ (by omega) hT hw1 hr (Fr.rf _ _) rfl z, fun z => ⟨rfl, ?_, Fr.rf _ _⟩⟩
  unfold gather
  rw [if_pos (Decidable.not_not.mp z)]
  exact hT
theorem placeBy_ok {lay : List Nat} (hwf : wfB lay = true) (d : Nat) {μ : Mem} {t L : Nat} (hL : μ.1 t 5 = nI L) (hL2 : L ≤ 90) {X : Nat} (hX : X < 2 ^ 62) : Rn lay d mTe_placeBy [rf 13 t, vl (lN X)] μ (Pv (nI (X % (L + 1))) μ) := by
  refine Rn_intro ok_Te_placeBy hwf rfl (fun G hC => g_Te_placeBy_0 hC ?_)
  have e1 : (nI L).toInt64 + lN 1 = lN (L + 1) := by rw [nI_l (by omega), lN_add]
  rw [hL, e1, lg_cmp_ge, lN_le (by omega) (by omega), pk_lRem (by omega) (by omega) (by omega), lN_i]
  refine ⟨fun _ => ⟨fun z => ?_, pv_e rfl⟩, fun z => absurd (by omega) z⟩
  have h0 : lN (L + 1) = lN 0 := z
  rw [lN_eq (by omega) (by omega)] at h0
  omega
end
section
/-! History: the last twelve texts, the newest first -/
def Fri (lo hi : Nat) (μ μ1 : Mem) : Prop := (∀ b, b < lo ∨ hi ≤ b → μ1.1 b = μ.1 b) ∧ μ1.2 = μ.2
theorem Fri.rf (lo hi : Nat) (μ : Mem) : Fri lo hi μ μ := ⟨fun _ _ => rfl, rfl⟩
theorem Fri.tr {lo hi : Nat} {μ μ1 μ2 : Mem} (h : Fri lo hi μ μ1) (h2 : Fri lo hi μ1 μ2) : Fri lo hi μ μ2 := ⟨fun b hb => (h2.1 b hb).trans (h.1 b hb), h2.2.trans h.2⟩
theorem Fri.up {lo hi : Nat} {μ μ1 : Mem} {a k : Nat} {v : Int32} (h : Fri lo hi μ μ1) (ha : lo ≤ a ∧ a < hi) : Fri lo hi μ (upI μ1 a k v) := ⟨fun b hb => by
  rw [up_cell (show b ≠ a by omega)]
  exact h.1 b hb, h.2⟩
theorem Fri.mono {lo hi lo' hi' : Nat} {μ μ1 : Mem} (h : Fri lo hi μ μ1) (h1 : lo' ≤ lo) (h2 : hi ≤ hi') : Fri lo' hi' μ μ1 := ⟨fun b hb => h.1 b (by omega), h.2⟩
theorem Fr.te {t : Nat} {μ μ1 : Mem} (h : Fr (teC t) μ μ1) : Fri t (t + 5) μ μ1 := ⟨fun b hb => h.1 b (by simp; omega), h.2⟩
theorem TeAt.fi {μ μ1 : Mem} {t lo hi : Nat} {T : TS} (h : TeAt μ t T) (hf : Fri lo hi μ μ1) (hd : t + 5 ≤ lo ∨ hi ≤ t) : TeAt μ1 t T := h.fr (fun b hb => hf.1 b (by simp at hb; omega))
def slotH (h nx j : Nat) : Nat := h + 1 + 1 + 5 * ((nx + 11 - j) % 12)
def HiAt (μ : Mem) (h : Nat) (hist : List TS) : Prop := ∃ nx, nx < 12 ∧ μ.1 h 1 = nI nx ∧ μ.1 h 2 = nI hist.length ∧ hist.length ≤ 12 ∧ ∀ j T, hist[j]? = some T → TeAt μ (slotH h nx j) T ∧ WT T
theorem HiAt.fi {μ μ1 : Mem} {h lo hi : Nat} {hist : List TS} (hh : HiAt μ h hist) (hf : Fri lo hi μ μ1) (hd : h + 62 ≤ lo ∨ hi ≤ h) : HiAt μ1 h hist := by
  obtain ⟨nx, h1, h2, h3, h4, h5⟩ := hh
  have e := hf.1 h (by omega)
  refine ⟨nx, h1, by rw [e]; exact h2, by rw [e]; exact h3, h4, fun j T hj => ?_⟩
  obtain ⟨a, b⟩ := h5 j T hj
  refine ⟨a.fi hf ?_, b⟩
  unfold slotH
  omega
theorem forget_ok {lay : List Nat} (hwf : wfB lay = true) (d : Nat) {μ : Mem} {h : Nat} {hist : List TS} (hh : HiAt μ h hist) : Rn lay d mHi_forget [rf 10 h] μ (Pn fun μ1 => HiAt μ1 h [] ∧ Fri h (h + 62) μ μ1) := by
  obtain ⟨nx, h1, h2, h3, h4, h5⟩ := hh
  refine Rn_intro ok_Hi_forget hwf rfl (fun G hC => g_Hi_forget_0 hC ?_)
  refine ⟨rfl, ⟨nx, h1, by rw [up_n2 (by omega)]; exact h2, by rw [up_at]; rfl, by simp, fun j T hj => by simp at hj⟩, (Fri.rf _ _ _).up (by omega)⟩
theorem nx_rem {a d : Nat} (ha : a < 2147483648) (h0 : 0 < d) (hd : d < 2147483648) : nI a - nI a / nI d * nI d = nI (a % d) := pk_rem (by omega) h0 (by omega)
theorem keep_ok {lay : List Nat} (hwf : wfB lay = true) (d : Nat) {μ : Mem} {h u : Nat} {hist : List TS} {T : TS} (hh : HiAt μ h hist) (hT : TeAt μ u T) (hw : WT T) (hd : u + 5 ≤ h ∨ h + 62 ≤ u) : Rn lay (d + 1) mHi_keep [rf 10 h, rf 13 u] μ (Pn fun μ1 => HiAt μ1 h ((T :: hist).take 12) ∧ Fri h (h + 62) μ μ1) := by
  obtain ⟨nx, h1, h2, h3, h4, h5⟩ := hh
  refine Rn_intro ok_Hi_keep hwf rfl (fun G hC => g_Hi_keep_0 hC ?_)
  simp (disch := omega) only [h2, nx_0, nx_lt, nx_cl, nx_in']
  refine ⟨fun z => absurd z (by omega), fun _ => ⟨fun _ => ⟨h1, ?_⟩, fun z => absurd h1 z⟩⟩
  refine useN (copy_ok hwf d hT hw (by omega)) (fun μ1 hp => ?_)
  obtain ⟨p1, p2⟩ := hp
  have e0 := p2.1 h (by simp; omega)
  have hsl : ∀ j T', hist[j]? = some T' → j < 11 → TeAt μ1 (slotH h ((nx + 1) % 12) (j + 1)) T' ∧ WT T' := by
    intro j T' hj hj2
    obtain ⟨q1, q2⟩ := h5 j T' hj
    refine ⟨?_, q2⟩
    have es : slotH h ((nx + 1) % 12) (j + 1) = slotH h nx j := by
      unfold slotH
      congr 2
      omega
    rw [es]
    refine q1.far p2 (fun b hb hb2 => ?_)
    unfold slotH at hb
    simp at hb hb2
    have : (nx + 11 - j) % 12 ≠ nx := by omega
    omega
  have hnew : TeAt μ1 (slotH h ((nx + 1) % 12) 0) T := by
    have es : slotH h ((nx + 1) % 12) 0 = h + 1 + 1 + 5 * nx := by
      unfold slotH
      congr 2
      omega
    rw [es]
    exact p1
  have hall : ∀ (μ2 : Mem), (∀ b, b ≠ h → μ2.1 b = μ1.1 b) → ∀ j T', ((T :: hist).take 12)[j]? = some T' → TeAt μ2 (slotH h ((nx + 1) % 12) j) T' ∧ WT T' := by
    intro μ2 hm j T' hj
    rw [List.getElem?_take] at hj
    split at hj
    · next hj12 =>
      have key : TeAt μ1 (slotH h ((nx + 1) % 12) j) T' ∧ WT T' := by
        cases j with
        | zero =>
          simp at hj
          subst hj
          exact ⟨hnew, hw⟩
        | succ j => exact hsl j T' (by simpa using hj) (by omega)
      refine ⟨key.1.fr (fun b hb => hm b ?_), key.2⟩
      unfold slotH at hb
      simp at hb
      omega
    · cases hj
  have hfi : Fri h (h + 62) μ μ1 := p2.te.mono (by omega) (by omega)
  simp (disch := omega) only [e0, h2, h3, nI_add, nx_rem, up_n2, nx_le]
  refine ⟨fun z => ⟨rfl, ⟨(nx + 1) % 12, by omega, by rw [up_at], ?_, ?_, ?_⟩, hfi.up (by omega)⟩, fun z => ⟨rfl, ⟨(nx + 1) % 12, by omega, ?_, ?_, ?_, ?_⟩, (hfi.up (by omega)).up (by omega)⟩⟩
  · rw [up_n2 (by omega), e0, h3]
    congr 1
    simp
    omega
  · simp
    omega
  · exact hall _ (fun b hb => up_cell hb)
  · rw [up_n2 (by omega), up_at]
  · rw [up_at]
    congr 1
    simp
    omega
  · simp
    omega
  · exact hall _ (fun b hb => (up_cell hb).trans (up_cell hb))
theorem takeBack_no {lay : List Nat} (hwf : wfB lay = true) (d : Nat) {μ : Mem} {h u : Nat} (hh : HiAt μ h []) : Rn lay (d + 1) mHi_takeBack [rf 10 h, rf 13 u] μ (Pv (nI 0) μ) := by
  obtain ⟨nx, h1, h2, h3, h4, h5⟩ := hh
  refine Rn_intro ok_Hi_takeBack hwf rfl (fun G hC => g_Hi_takeBack_0 hC ?_)
  rw [h3, nx_0, nx_lt (by omega) (by simp)]
  exact ⟨fun z => absurd z (by simp), fun _ => pv_e rfl⟩
theorem takeBack_ok {lay : List Nat} (hwf : wfB lay = true) (d : Nat) {μ : Mem} {h u : Nat} {hist : List TS} {T : TS} (hh : HiAt μ h (T :: hist)) (hd : u + 5 ≤ h ∨ h + 62 ≤ u) : Rn lay (d + 1) mHi_takeBack [rf 10 h, rf 13 u] μ (Pq fun x μ1 => x = nI 1 ∧ TeAt μ1 u T ∧ WT T ∧ HiAt μ1 h hist ∧ (∀ b, (b < u ∨ u + 5 ≤ b) → b ≠ h → μ1.1 b = μ.1 b) ∧ μ1.2 = μ.2) := by
  obtain ⟨nx, h1, h2, h3, h4, h5⟩ := hh
  have hl : hist.length + 1 ≤ 12 := by simpa using h4
  rw [List.length_cons] at h3
  obtain ⟨q1, q2⟩ := h5 0 T rfl
  refine Rn_intro ok_Hi_takeBack hwf rfl (fun G hC => g_Hi_takeBack_0 hC ?_)
  -- the rest, once the place of the newest is known
  have fin : ∀ (ny : Nat) (μ' : Mem), ny = (nx + 11) % 12 → μ' = upI μ h 1 (nI ny) → vp_in (nI ny) 12 ∧ (∃ P52 : PT, Rn lay d mTe_copy [rf 13 u, rf 13 (h + 1 + 1 + 5 * (nI ny).toNatClampNeg)] μ' P52 ∧ ∀ μ52 : Mem, P52 none μ52 → (Pq fun x μ1 => x = nI 1 ∧ TeAt μ1 u T ∧ WT T ∧ HiAt μ1 h hist ∧ (∀ b, (b < u ∨ u + 5 ≤ b) → b ≠ h → μ1.1 b = μ.1 b) ∧ μ1.2 = μ.2) (some (vi (nI 1))) (upI μ52 h 2 ((μ52.1 h 2) - (nI 1)))) := by
    intro ny μ' hny hμ
    have hny2 : ny < 12 := by omega
    rw [nx_cl (by omega), nx_in' (by omega) (by omega)]
    have es : slotH h nx 0 = h + 1 + 1 + 5 * ny := by
      unfold slotH
      congr 2
      omega
    have hs : TeAt μ' (h + 1 + 1 + 5 * ny) T := by
      rw [← es, hμ]
      refine q1.fr (fun b hb => up_cell ?_)
      rw [es] at hb
      simp at hb
      omega
    refine ⟨hny2, useN (copy_ok hwf d hs q2 (by omega)) (fun μ1 hp => ?_)⟩
    obtain ⟨p1, p2⟩ := hp
    have e0 := p2.1 h (by simp; omega)
    have e1 : μ1.1 h 1 = nI ny := by rw [e0, hμ, up_at]
    have e2 : μ1.1 h 2 = nI (hist.length + 1) := by rw [e0, hμ, up_n2 (by omega)]; exact h3
    refine ⟨nI 1, rfl, rfl, p1.fr (fun b hb => up_cell (by simp at hb; omega)), q2, ⟨ny, hny2, by rw [up_n2 (by omega)]; exact e1, by rw [up_at, e2, nx_sub (by omega)]; rfl, by omega, fun j T' hj => ?_⟩, fun b hb hb2 => ?_, ?_⟩
    · obtain ⟨r1, r2⟩ := h5 (j + 1) T' (by simpa using hj)
      have es2 : slotH h ny j = slotH h nx (j + 1) := by
        have : j < hist.length := (List.getElem?_eq_some_iff.mp hj).1
        unfold slotH
        congr 2
        omega
      rw [es2]
      refine ⟨r1.fr (fun b hb => ?_), r2⟩
      unfold slotH at hb
      simp at hb
      rw [up_cell (by omega), p2.1 b (by simp; omega), hμ, up_cell (by omega)]
    · rw [up_cell hb2, p2.1 b (by simp; omega), hμ, up_cell hb2]
    · show μ1.2 = μ.2
      rw [p2.2, hμ]
      rfl
  rw [h3, h2]
  simp only [up_at]
  refine ⟨fun _ => ⟨fun z => ?_, fun z => ?_⟩, fun z => absurd (by rw [nx_0, nx_lt (by omega) (by omega)]; omega) z⟩
  · rw [nx_0, nx_lt (by omega) (by omega)] at z
    rw [nx_sub (by omega), nx_lt (by omega) (by omega)]
    exact ⟨fun _ => fin (nx - 1) _ (by omega) rfl, fun w => absurd (by omega) w⟩
  · rw [nx_0, nx_lt (by omega) (by omega)] at z
    rw [nx_lt (by omega) (by omega)]
    exact ⟨fun _ => fin 11 _ (by omega) rfl, fun w => absurd (by omega) w⟩
end
section
/-! Stack: a row of ranges as one number -/
def enc : List Nat → Nat
  | [] => 0
  | r :: l => (r + 1) + 16 * enc l
/-- the k-th of a stack, and 1; 0: it has fewer -/
def dig (l : List Nat) (k : Nat) : Nat := match l[k]? with
  | some r => r + 1
  | none => 0
def oks (l : List Nat) : Prop := l.length ≤ 5 ∧ ∀ r ∈ l, r < 8
theorem dig_le {l : List Nat} (h : ∀ r ∈ l, r < 8) (k : Nat) : dig l k ≤ 8 := by
  unfold dig
  split
  · next r hr => exact h r (List.mem_of_getElem? hr)
  · omega
theorem enc_dig : ∀ (l : List Nat) (k : Nat), (∀ r ∈ l, r < 8) → enc l / 16 ^ k % 16 = dig l k
  | [], k, _ => by simp [enc, dig]
  | r :: l, 0, h => by
    have := h r List.mem_cons_self
    simp only [enc, dig, Nat.pow_zero, Nat.div_one, List.getElem?_cons_zero]
    omega
  | r :: l, k + 1, h => by
    have hr := h r List.mem_cons_self
    have ih := enc_dig l k (fun x hx => h x (List.mem_cons_of_mem _ hx))
    rw [Nat.pow_succ, Nat.mul_comm, ← Nat.div_div_eq_div_mul]
    have e : enc (r :: l) / 16 = enc l := by simp only [enc]; omega
    rw [e, ih]
    simp [dig]
theorem enc_lt : ∀ (l : List Nat), (∀ r ∈ l, r < 8) → enc l < 16 ^ l.length
  | [], _ => by simp [enc]
  | r :: l, h => by
    have hr := h r List.mem_cons_self
    have ih := enc_lt l (fun x hx => h x (List.mem_cons_of_mem _ hx))
    simp only [enc, List.length_cons, Nat.pow_succ]
    omega
theorem enc_small {l : List Nat} (h : oks l) : enc l < 1048576 := Nat.lt_of_lt_of_le (enc_lt l h.2) (by
  have := Nat.pow_le_pow_right (show 0 < 16 by omega) h.1
  exact this)
theorem enc_app : ∀ (l : List Nat) (r : Nat), enc (l ++ [r]) = enc l + (r + 1) * 16 ^ l.length
  | [], r => by simp [enc]
  | x :: l, r => by
    simp only [List.cons_append, enc, enc_app l r, List.length_cons, Nat.pow_succ, Nat.mul_add]
    rw [show (r + 1) * (16 ^ l.length * 16) = 16 * ((r + 1) * 16 ^ l.length) by rw [← Nat.mul_assoc, Nat.mul_comm]]
    omega
/-- what 'at' answers -/
def atI (l : List Nat) (k : Nat) : Int32 := match l[k]? with
  | some r => nI r
  | none => mI 0
theorem dig_atI (l : List Nat) (k : Nat) : nI (dig l k) - nI 1 = atI l k := by
  unfold dig atI
  split
  · exact nx_sub (by omega)
  · decide
theorem shr4 : ∀ k, k < 5 → ((nI (4 * k) &&& 31).toBitVec.smod 32).toNat = 4 * k := by decide
theorem at_val {l : List Nat} (h : oks l) {k : Nat} (hk : k < 5) : ((nI (enc l) >>> ((nI 4 * nI k) &&& 31)) &&& nI 15) - nI 1 = atI l k := by
  have hs := enc_small h
  rw [pk_mul, pk_shrN (by omega) _ (4 * k) (shr4 k hk), nx_and]
  have e : enc l / 2 ^ (4 * k) &&& 15 = dig l k := by
    rw [show (15 : Nat) = 2 ^ 4 - 1 by decide, Nat.and_two_pow_sub_one_eq_mod, Nat.pow_mul, show (2 : Nat) ^ 4 = 16 by decide]
    exact enc_dig l k h.2
  rw [e, dig_atI]
theorem at_ok {lay : List Nat} (hwf : wfB lay = true) (d : Nat) {l : List Nat} (h : oks l) {k : Nat} (hk : k < 2147483648) (μ : Mem) : Rn lay d mSt_at [vi (nI (enc l)), vi (nI k)] μ (Pv (atI l k) μ) := by
  refine Rn_intro ok_St_at hwf rfl (fun G hC => g_St_at_0 hC ?_)
  rw [nx_0, nx_lt (by omega) (by omega), nx_lt (by omega) (by omega)]
  refine ⟨fun z => absurd z (by omega), fun _ => ⟨fun z => pv_e (at_val h z), fun z => pv_e ?_⟩⟩
  unfold atI
  rw [List.getElem?_eq_none (by have := h.1; omega)]
theorem shl4 : ∀ k, k < 5 → ∀ r, r < 8 → (nI (r + 1)) <<< ((nI 4 * nI k) &&& 31) = nI ((r + 1) * 16 ^ k) := by decide
theorem with_ok {lay : List Nat} (hwf : wfB lay = true) (d : Nat) {l : List Nat} (h : oks l) (hl : l.length < 5) {r : Nat} (hr : r < 8) (μ : Mem) : Rn lay d mSt_with [vi (nI (enc l)), vi (nI l.length), vi (nI r)] μ (Pv (nI (enc (l ++ [r]))) μ) := by
  refine Rn_intro ok_St_with hwf rfl (fun G hC => g_St_with_0 hC ?_)
  rw [nx_0, nx_lt (by omega) (by omega), nx_lt (by omega) (by omega), nI_add, shl4 _ hl r hr, nx_or]
  refine ⟨fun z => absurd z (by omega), fun _ => ⟨fun _ => pv_e ?_, fun z => absurd hl z⟩⟩
  congr 1
  rw [enc_app, Nat.or_comm, show (16 : Nat) ^ l.length = 2 ^ (4 * l.length) by rw [Nat.pow_mul], Nat.mul_comm (r + 1)]
  have hlt : enc l < 2 ^ (4 * l.length) := by
    rw [Nat.pow_mul]
    exact enc_lt l h.2
  rw [← Nat.two_pow_add_eq_or_of_lt hlt (r + 1), Nat.add_comm]
def alk : List Nat → List Nat → Nat
  | x :: l, y :: m => if x = y then alk l m + 1 else 0
  | _, _ => 0
theorem alk_le : ∀ (l m : List Nat), alk l m ≤ l.length ∧ alk l m ≤ m.length
  | [], m => by simp [alk]
  | x :: l, [] => by simp [alk]
  | x :: l, y :: m => by
    have := alk_le l m
    simp only [alk, List.length_cons]
    split <;> omega
theorem alk_drop : ∀ (k : Nat) (l m : List Nat), (∀ i, i < k → ∃ x, l[i]? = some x ∧ m[i]? = some x) → alk l m = k + alk (l.drop k) (m.drop k)
  | 0, l, m, _ => by simp
  | k + 1, l, m, h => by
    obtain ⟨x, h1, h2⟩ := h 0 (by omega)
    cases l with
    | nil => simp at h1
    | cons a l =>
      cases m with
      | nil => simp at h2
      | cons b m =>
        simp at h1 h2
        subst h1
        subst h2
        have := alk_drop k l m (fun i hi => by
          have := h (i + 1) (by omega)
          simpa using this)
        simp only [alk, if_true, List.drop_succ_cons]
        omega
theorem alike_ok {lay : List Nat} (hwf : wfB lay = true) (d : Nat) {l m : List Nat} (h : oks l) (h2 : oks m) (μ : Mem) : Rn lay (d + 1) mSt_alike [vi (nI (enc l)), vi (nI (enc m))] μ (Pv (nI (alk l m)) μ) := by
  refine Rn_intro ok_St_alike hwf rfl (fun G hC => g_St_alike_0 hC ?_)
  have loop : ∀ n k, k + n = 5 → (∀ i, i < k → ∃ x, l[i]? = some x ∧ m[i]? = some x) → G 2 [vi (nI (enc l)), vi (nI (enc m)), vi (nI k), un] [] μ := by
    intro n
    induction n with
    | zero =>
      intro k hk hp
      refine g_St_alike_2 hC ?_
      rw [nx_le (by omega) (by omega)]
      refine ⟨fun _ => pv_e ?_, fun z => absurd (by omega) z⟩
      have e := alk_drop k l m hp
      have := (alk_le l m).1
      have := h.1
      congr 1
      omega
    | succ n ih =>
      intro k hk hp
      have e := alk_drop k l m hp
      refine g_St_alike_2 hC ?_
      rw [nx_le (by omega) (by omega)]
      refine ⟨fun z => absurd z (by omega), fun _ => ?_⟩
      refine useV (at_ok hwf d h (by omega) μ) ?_
      unfold atI
      cases hl : l[k]? with
      | none =>
        refine ⟨fun _ => pv_e ?_, fun z => absurd rfl z⟩
        rw [List.drop_eq_nil_of_le (by simpa using hl)] at e
        simp only [alk] at e
        rw [e]
        rfl
      | some x =>
        have hx : x < 8 := h.2 x (List.mem_of_getElem? hl)
        refine ⟨fun z => absurd z.symm (mI_ne (by omega) (by omega)), fun _ => ?_⟩
        refine useV (at_ok hwf d h2 (by omega) μ) ?_
        unfold atI
        cases hm : m[k]? with
        | none =>
          refine ⟨fun z => absurd z.symm (mI_ne (by omega) (by omega)), fun _ => pv_e ?_⟩
          rw [List.drop_eq_nil_of_le (show m.length ≤ k by simpa using hm)] at e
          have : alk (l.drop k) [] = 0 := by cases l.drop k <;> rfl
          rw [e, this]
          rfl
        | some y =>
          have hy : y < 8 := h2.2 y (List.mem_of_getElem? hm)
          rw [nx_eq (by omega) (by omega), nI_add]
          refine ⟨fun z => ih (k + 1) (by omega) (fun i hi => ?_), fun z => pv_e ?_⟩
          · rcases Nat.lt_or_ge i k with q | q
            · exact hp i q
            · rw [show i = k by omega]
              exact ⟨x, hl, by rw [hm, z]⟩
          · have hl2 : l.drop k = x :: l.drop (k + 1) := by
              rw [List.drop_eq_getElem_cons (by exact (List.getElem?_eq_some_iff.mp hl).1), (List.getElem?_eq_some_iff.mp hl).2]
            have hm2 : m.drop k = y :: m.drop (k + 1) := by
              rw [List.drop_eq_getElem_cons (by exact (List.getElem?_eq_some_iff.mp hm).1), (List.getElem?_eq_some_iff.mp hm).2]
            rw [hl2, hm2] at e
            simp only [alk, if_neg z] at e
            rw [e]
            rfl
  exact loop 5 0 (by omega) (fun i hi => by omega)
end
section
/-! Sections: cuts, which ranges cover what lies between them -/
def posC (l : List Nat) (p : Nat) : Nat := (l.takeWhile (fun c => decide (c < p))).length
def insC (l : List Nat) (p : Nat) : List Nat := if l[posC l p]? = some p then l else l.take (posC l p) ++ p :: l.drop (posC l p)
theorem posC_le (l : List Nat) (p : Nat) : posC l p ≤ l.length := by
  unfold posC
  exact (List.takeWhile_sublist _).length_le
theorem posC_lt {l : List Nat} {p i : Nat} (h : i < posC l p) : l.getD i 0 < p := by
  have hl : i < l.length := Nat.lt_of_lt_of_le h (posC_le l p)
  unfold posC at h
  have h2 : (l.takeWhile (fun c => decide (c < p)))[i]? = l[i]? := by
    have hp := List.takeWhile_prefix (l := l) (fun c => decide (c < p))
    obtain ⟨t, ht⟩ := hp
    conv => rhs; rw [← ht]
    rw [List.getElem?_append_left h]
  have h3 : (l.takeWhile (fun c => decide (c < p)))[i] ∈ l.takeWhile (fun c => decide (c < p)) := List.getElem_mem h
  have h4 := List.all_takeWhile (l := l) (p := fun c => decide (c < p))
  have h5 := List.all_eq_true.mp h4 _ h3
  rw [List.getElem?_eq_getElem h] at h2
  rw [List.getD, ← h2]
  exact of_decide_eq_true h5
theorem posC_stop : ∀ {l : List Nat} {p k : Nat}, (∀ i, i < k → l.getD i 0 < p) → k ≤ l.length → (k < l.length → ¬ l.getD k 0 < p) → posC l p = k
  | [], p, k, _, h2, _ => by
    simp at h2
    subst h2
    rfl
  | c :: l, p, 0, h1, h2, h3 => by
    have := h3 (by simp)
    simp at this
    unfold posC
    rw [List.takeWhile_cons_of_neg (by simp; omega)]
    rfl
  | c :: l, p, k + 1, h1, h2, h3 => by
    have h0 := h1 0 (by omega)
    simp at h0
    have := posC_stop (l := l) (p := p) (k := k) (fun i hi => by simpa using h1 (i + 1) (by omega)) (by simpa using h2) (fun hk => by simpa using h3 (by simpa using hk))
    unfold posC at this ⊢
    rw [List.takeWhile_cons_of_pos (by simpa using h0), List.length_cons, this]
theorem insC_len {l : List Nat} {p : Nat} : (insC l p).length ≤ l.length + 1 := by
  unfold insC
  split
  · omega
  · simp
    have := posC_le l p
    omega
def CuAt (μ : Mem) (s : Nat) (l : List Nat) : Prop := μ.1 s 3 = nI l.length ∧ ∀ i, i < l.length → μ.1 (s + 1) i = nI (l.getD i 0)
theorem addCut_ok {lay : List Nat} (hwf : wfB lay = true) (d : Nat) {μ : Mem} {s : Nat} {l : List Nat} (hC : CuAt μ s l) (hl : l.length < 16) (hb : ∀ c ∈ l, c ≤ 90) {p : Nat} (hp : p ≤ 90) : Rn lay d mSe_addCut [rf 12 s, vi (nI p)] μ (Pn fun μ1 => CuAt μ1 s (insC l p) ∧ Fr [s, s + 1] μ μ1) := by
  obtain ⟨hc, hi⟩ := hC
  have hbd : ∀ i, l.getD i 0 ≤ 90 := fun i => by
    rw [List.getD]
    cases hq : l[i]? with
    | none => simp
    | some c => exact hb c (List.mem_of_getElem? hq)
  refine Rn_intro ok_Se_addCut hwf rfl (fun G hG => g_Se_addCut_0 hG ?_)
  -- the place is found
  have f105 : ∀ (μ' : Mem) (k : Nat), k = posC l p → ¬ l[k]? = some p → μ'.1 s 3 = nI l.length → (∀ i, i < k → μ'.1 (s + 1) i = nI (l.getD i 0)) → (∀ i, k < i → i ≤ l.length → μ'.1 (s + 1) i = nI (l.getD (i - 1) 0)) → Fr [s, s + 1] μ μ' → G 105 [rf 12 s, vi (nI p), vi (nI k), un] [] μ' := by
    intro μ' k hk hne h3 hlo hhi hf
    have hkl : k ≤ l.length := by rw [hk]; exact posC_le l p
    have e : insC l p = l.take k ++ p :: l.drop k := by
      unfold insC
      rw [← hk, if_neg hne]
    refine g_Se_addCut_105 hG ?_
    simp (disch := omega) only [nx_cl, nx_in', up_n1, h3, nI_add]
    refine ⟨by omega, rfl, ⟨?_, fun i hi2 => ?_⟩, (hf.up (by simp)).up (by simp)⟩
    · rw [up_at, e]
      congr 1
      simp
      omega
    · rw [e] at hi2 ⊢
      have hi3 : i ≤ l.length := by
        simp at hi2
        omega
      rw [up_n1 (by omega)]
      by_cases h1 : i = k
      · subst h1
        rw [up_at, List.getD, List.getElem?_append_right (by simp; omega)]
        simp [Nat.min_eq_left hkl]
      · rw [up_n2 h1]
        rcases Nat.lt_or_ge i k with q | q
        · rw [hlo i q, List.getD, List.getD, List.getElem?_append_left (by simp; omega), List.getElem?_take, if_pos q]
        · rw [hhi i (by omega) hi3, List.getD, List.getD, List.getElem?_append_right (by simp; omega)]
          congr 2
          rw [List.length_take, Nat.min_eq_left hkl, show i - k = (i - k - 1) + 1 by omega, List.getElem?_cons_succ, List.getElem?_drop]
          congr 1
          omega
  have f80 : ∀ n (μ' : Mem) (k : Nat), k = posC l p → ¬ l[k]? = some p → k + n ≤ l.length → μ'.1 s 3 = nI l.length → (∀ i, i < k + n → μ'.1 (s + 1) i = nI (l.getD i 0)) → (∀ i, k + n < i → i ≤ l.length → μ'.1 (s + 1) i = nI (l.getD (i - 1) 0)) → Fr [s, s + 1] μ μ' → G 80 [rf 12 s, vi (nI p), vi (nI k), vi (nI (k + n))] [] μ' := by
    intro n
    induction n with
    | zero =>
      intro μ' k hk hne hkn h3 hlo hhi hf
      refine g_Se_addCut_80 hG ?_
      rw [nx_le (by omega) (by omega)]
      exact ⟨fun _ => f105 μ' k hk hne h3 hlo hhi hf, fun z => absurd (by omega) z⟩
    | succ n ih =>
      intro μ' k hk hne hkn h3 hlo hhi hf
      refine g_Se_addCut_80 hG ?_
      rw [show k + (n + 1) = (k + n) + 1 by omega] at hlo hhi ⊢
      rw [nx_le (by omega) (by omega), nx_dec, nx_sub (by omega), Nat.add_sub_cancel]
      simp (disch := omega) only [nx_cl, nx_in']
      refine ⟨fun z => absurd z (by omega), fun _ => ⟨by omega, by omega, ih _ k hk hne (by omega) ?_ (fun i hi2 => ?_) (fun i hi2 hi3 => ?_) (hf.up (by simp))⟩⟩
      · rw [up_n1 (by omega)]; exact h3
      · rw [up_n2 (by omega)]; exact hlo i (by omega)
      · by_cases e : i = k + n + 1
        · subst e
          rw [up_at, Nat.add_sub_cancel]
          exact hlo (k + n) (by omega)
        · rw [up_n2 e]
          exact hhi i (by omega) hi3
  have f32 : ∀ k, k ≤ l.length → k = posC l p → G 32 [rf 12 s, vi (nI p), vi (nI k), un] [] μ := by
    intro k hkl hk
    refine g_Se_addCut_32 hG ?_
    rw [hc]
    have tail : ¬ l[k]? = some p → ((nI l.length < nI k → (Pn fun μ1 => CuAt μ1 s (insC l p) ∧ Fr [s, s + 1] μ μ1) none μ) ∧ (¬ nI l.length < nI k → ((nI l.length < nI 16 → G 80 [rf 12 s, vi (nI p), vi (nI k), vi (nI l.length)] [] μ) ∧ (¬ nI l.length < nI 16 → (Pn fun μ1 => CuAt μ1 s (insC l p) ∧ Fr [s, s + 1] μ μ1) none μ)))) := by
      intro hne
      rw [nx_lt (by omega) (by omega), nx_lt (by omega) (by omega)]
      refine ⟨fun z => absurd z (by omega), fun _ => ⟨fun _ => ?_, fun z => absurd hl z⟩⟩
      have := f80 (l.length - k) μ k hk hne (by omega) hc (fun i hi2 => hi i (by omega)) (fun i hi2 hi3 => by omega) (Fr.rf _ _)
      rw [show k + (l.length - k) = l.length by omega] at this
      exact this
    refine ⟨fun z => tail ?_, fun z => ⟨fun z2 => ?_, fun z2 => ?_⟩⟩
    · rw [nx_le (by omega) (by omega)] at z
      rw [List.getElem?_eq_none z]
      simp
    · rw [nx_le (by omega) (by omega)] at z2
      omega
    · rw [nx_le (by omega) (by omega)] at z
      have hkl2 : k < l.length := by omega
      have hg : l[k]? = some (l.getD k 0) := by rw [List.getD, List.getElem?_eq_getElem hkl2]; rfl
      rw [nx_in' (by omega) (by omega), nx_cl (by omega), hi k hkl2, nx_eq (by have := hbd k; omega) (by omega)]
      refine ⟨by omega, fun z3 => tail (by rw [hg]; simp; exact z3), fun z3 => ⟨rfl, ?_, Fr.rf _ _⟩⟩
      unfold insC
      rw [← hk, if_pos (by rw [hg, z3])]
      exact ⟨hc, hi⟩
  have f2 : ∀ n k, k + n = l.length → (∀ i, i < k → l.getD i 0 < p) → G 2 [rf 12 s, vi (nI p), vi (nI k), un] [] μ := by
    intro n
    induction n with
    | zero =>
      intro k hk hlt
      refine g_Se_addCut_2 hG ?_
      rw [hc, nx_le (by omega) (by omega)]
      exact ⟨fun _ => f32 k (by omega) (posC_stop hlt (by omega) (fun q => by omega)).symm, fun z => absurd (by omega) z⟩
    | succ n ih =>
      intro k hk hlt
      have := hbd k
      refine g_Se_addCut_2 hG ?_
      simp (disch := omega) only [hc, nx_le, nx_cl, nx_in', hi k (by omega), nI_add]
      refine ⟨fun z => absurd z (by omega), fun _ => ⟨fun z => absurd z (by omega), fun _ => ⟨by omega, fun z => ?_, fun z => ?_⟩⟩⟩
      · exact f32 k (by omega) (posC_stop hlt (by omega) (fun q => by omega)).symm
      · refine ih (k + 1) (by omega) (fun i hi2 => ?_)
        rcases Nat.lt_or_ge i k with q | q
        · exact hlt i q
        · rw [show i = k by omega]; omega
  exact f2 l.length 0 (by omega) (fun i hi2 => by omega)
end
section
/-! Sections: all cuts, all covers -/
def cutU (rs : List RG) (sk : Nat) : Nat → List Nat
  | 0 => []
  | i + 1 => if i = sk ∨ ra rs i = rb rs i then cutU rs sk i else insC (insC (cutU rs sk i) (ra rs i)) (rb rs i)
def cutsOf (rs : List RG) (sk : Nat) : List Nat := cutU rs sk rs.length
theorem insC_in {l : List Nat} {p c : Nat} (h : c ∈ insC l p) : c = p ∨ c ∈ l := by
  unfold insC at h
  split at h
  · exact Or.inr h
  · rcases List.mem_append.mp h with h | h
    · exact Or.inr (List.mem_of_mem_take h)
    · rcases List.mem_cons.mp h with h | h
      · exact Or.inl h
      · exact Or.inr (List.mem_of_mem_drop h)
theorem cutU_len (rs : List RG) (sk : Nat) : ∀ i, (cutU rs sk i).length ≤ 2 * i
  | 0 => by simp [cutU]
  | i + 1 => by
    have ih := cutU_len rs sk i
    unfold cutU
    split
    · omega
    · have h1 := insC_len (l := cutU rs sk i) (p := ra rs i)
      have h2 := insC_len (l := insC (cutU rs sk i) (ra rs i)) (p := rb rs i)
      omega
theorem cutU_le {L : Nat} {rs : List RG} (h : WR L rs) (sk : Nat) : ∀ i, i ≤ rs.length → ∀ c ∈ cutU rs sk i, c ≤ L
  | 0, _, c, hc => by simp [cutU] at hc
  | i + 1, hi, c, hc => by
    have ih := cutU_le h sk i (by omega)
    obtain ⟨-, a2, a3⟩ := h.at (show i < rs.length by omega)
    unfold cutU at hc
    split at hc
    · exact ih c hc
    · rcases insC_in hc with e | e
      · omega
      · rcases insC_in e with e | e
        · omega
        · exact ih c e
/-- a range that is left out, as a number; 8 and above: none -/
def skI (sk : Nat) : Int32 := if sk < 8 then nI sk else mI 0
theorem skI_eq {sk i : Nat} (hi : i < 8) : (nI i = skI sk) = (i = sk) := by
  unfold skI
  split
  · rw [nx_eq (by omega) (by omega)]
  · exact propext ⟨fun h => absurd h.symm (mI_ne (by omega) (by omega)), fun h => by omega⟩
def clr (c sk : Nat) : Nat := if sk < 8 then c &&& (255 - 2 ^ sk) else c
theorem clr_and : ∀ sk, sk < 8 → ∀ c, c < 256 → nI c &&& (((nI 1) <<< (nI sk &&& 31)) ^^^ (mI 0)) = nI (c &&& (255 - 2 ^ sk)) := by decide +kernel
theorem clr_m1 : ∀ c, c < 256 → nI c &&& mI 0 = nI c := by decide +kernel
theorem clr_lt {c sk : Nat} (h : c < 256) : clr c sk < 256 := by
  unfold clr
  split
  · exact Nat.lt_of_le_of_lt Nat.and_le_left h
  · exact h
def cvL (rs : List RG) (sk : Nat) (cs : List Nat) : List Nat := (List.range (cs.length - 1)).map fun i => clr (cov rs (cs.getD i 0)) sk
def SeAt (μ : Mem) (s : Nat) (cs cv : List Nat) : Prop := CuAt μ s cs ∧ μ.1 s 4 = nI cv.length ∧ (∀ i, i < cv.length → μ.1 (s + 2) i = nI (cv.getD i 0)) ∧ ∀ i, i + 1 < cv.length → μ.1 (s + 3) i = nI (popN (cv.getD i 0 &&& cv.getD (i + 1) 0))
theorem cvL_len (rs : List RG) (sk : Nat) (cs : List Nat) : (cvL rs sk cs).length = cs.length - 1 := by simp [cvL]
theorem cvL_at {rs : List RG} {sk i : Nat} {cs : List Nat} (h : i < cs.length - 1) : (cvL rs sk cs).getD i 0 = clr (cov rs (cs.getD i 0)) sk := by
  unfold cvL
  rw [List.getD, List.getElem?_map, List.getElem?_range h]
  rfl
abbrev seC (s : Nat) : List Nat := [s, s + 1, s + 2, s + 3]
theorem cover_ok {lay : List Nat} (hwf : wfB lay = true) (d : Nat) {μ : Mem} {s t : Nat} {T : TS} {cs : List Nat} {sk : Nat} (hC : CuAt μ s cs) (h4 : μ.1 s 4 = nI (cs.length - 1)) (hl : cs.length ≤ 16) (hb : ∀ c ∈ cs, c ≤ 90) (hT : TeAt μ t T) (hw : WT T) (hd : t + 5 ≤ s ∨ s + 4 ≤ t) : Rn lay (d + 1) mSe_cover [rf 12 s, rf 13 t, vi (skI sk)] μ (Pn fun μ1 => SeAt μ1 s cs (cvL T.1 sk cs) ∧ Fr [s + 2, s + 3] μ μ1) := by
  obtain ⟨hc, hi⟩ := hC
  have hn := hw.1.1
  have hbd : ∀ i, cs.getD i 0 ≤ 90 := fun i => by
    rw [List.getD]
    cases hq : cs[i]? with
    | none => simp
    | some c => exact hb c (List.mem_of_getElem? hq)
  refine Rn_intro ok_Se_cover hwf rfl (fun G hG => g_Se_cover_0 hG ?_)
  have loop : ∀ (mk : Int32), (∀ c, c < 256 → nI c &&& mk = nI (clr c sk)) → ∀ n i (μ' : Mem), i + n = cs.length - 1 → (∀ j, j < i → μ'.1 (s + 2) j = nI (clr (cov T.1 (cs.getD j 0)) sk)) → (∀ j, j + 1 < i → μ'.1 (s + 3) j = nI (popN (clr (cov T.1 (cs.getD j 0)) sk &&& clr (cov T.1 (cs.getD (j + 1) 0)) sk))) → Fr [s + 2, s + 3] μ μ' → G 17 [rf 12 s, rf 13 t, un, vi mk, vi (nI i)] [] μ' := by
    intro mk hmk n
    induction n with
    | zero =>
      intro i μ' hin hcv hsh hf
      have e0 := hf.1 s (by simp)
      have e1 := hf.1 (s + 1) (by simp)
      refine g_Se_cover_17 hG ?_
      rw [e0, h4, nx_le (by omega) (by omega)]
      refine ⟨fun _ => ⟨rfl, ⟨⟨by rw [e0]; exact hc, fun j hj => by rw [e1]; exact hi j hj⟩, by rw [e0, cvL_len]; exact h4, fun j hj => ?_, fun j hj => ?_⟩, hf⟩, fun z => absurd (by omega) z⟩
      · rw [cvL_len] at hj
        rw [cvL_at hj]
        exact hcv j (by omega)
      · rw [cvL_len] at hj
        rw [cvL_at (by omega), cvL_at hj]
        exact hsh j (by omega)
    | succ n ih =>
      intro i μ' hin hcv hsh hf
      have e0 := hf.1 s (by simp)
      have e1 := hf.1 (s + 1) (by simp)
      have hb1 := hbd i
      have hT' : TeAt μ' t T := hT.far hf (fun b hb2 hb3 => by simp at hb2 hb3; omega)
      have hcl : ∀ p, clr (cov T.1 p) sk < 256 := fun p => clr_lt (cov_lt hn)
      refine g_Se_cover_17 hG ?_
      simp (disch := omega) only [e0, e1, h4, nx_le, nx_cl, nx_in', hi i (by omega), nI_add]
      refine ⟨fun z => absurd z (by omega), fun _ => ⟨fun z => absurd z (by omega), fun _ => ⟨by omega, ?_⟩⟩⟩
      refine useV (coverAt_ok hwf d hT' hw (by omega)) ?_
      rw [hmk _ (cov_lt hn)]
      refine ⟨by omega, by omega, fun z => ?_, fun z => ?_⟩
      · rw [nx_0, nx_le (by omega) (by omega)] at z
        refine ih (i + 1) _ (by omega) (fun j hj => ?_) (fun j hj => by omega) ((hf.up (by simp)).up (by simp))
        rw [show j = i by omega, up_n1 (by omega), up_at]
      · rw [nx_0, nx_le (by omega) (by omega)] at z
        rw [nx_sub (by omega)]
        simp (disch := omega) only [nx_cl, nx_in', up_n1, up_n2, up_at, hcv (i - 1) (by omega), nx_and]
        refine ⟨by omega, by omega, ?_⟩
        refine useV (bitCount_ok hwf d (Nat.lt_of_le_of_lt Nat.and_le_left (hcl _)) _) ?_
        refine ⟨by omega, ih (i + 1) _ (by omega) (fun j hj => ?_) (fun j hj => ?_) (((hf.up (by simp)).up (by simp)).up (by simp))⟩
        · by_cases e : j = i
          · subst e
            simp (disch := omega) only [up_n1, up_at]
          · simp (disch := omega) only [up_n1, up_n2]
            exact hcv j (by omega)
        · by_cases e : j = i - 1
          · subst e
            rw [up_at, show i - 1 + 1 = i by omega]
          · rw [up_n2 e, up_n2 (by omega), up_n1 (by omega)]
            exact hsh j (by omega)
  unfold skI
  by_cases hsk : sk < 8
  · rw [if_pos hsk]
    refine ⟨fun _ => loop _ (fun c hcl => ?_) (cs.length - 1) 0 μ (by omega) (fun j hj => by omega) (fun j hj => by omega) (Fr.rf _ _), fun z => absurd (nI_pos' (by omega)) z⟩
    rw [clr_and sk hsk c hcl, clr, if_pos hsk]
  · rw [if_neg hsk]
    refine ⟨fun z => absurd z (by decide), fun _ => loop _ (fun c hcl => ?_) (cs.length - 1) 0 μ (by omega) (fun j hj => by omega) (fun j hj => by omega) (Fr.rf _ _)⟩
    rw [clr_m1 c hcl, clr, if_neg hsk]
theorem cut_ok {lay : List Nat} (hwf : wfB lay = true) (d : Nat) {μ : Mem} {s t : Nat} {T : TS} {sk : Nat} (hT : TeAt μ t T) (hw : WT T) (hd : t + 5 ≤ s ∨ s + 4 ≤ t) : Rn lay (d + 2) mSe_cut [rf 12 s, rf 13 t, vi (skI sk)] μ (Pn fun μ1 => SeAt μ1 s (cutsOf T.1 sk) (cvL T.1 sk (cutsOf T.1 sk)) ∧ Fr (seC s) μ μ1) := by
  have hn := hw.1.1
  have hL := hw.2.1
  refine Rn_intro ok_Se_cut hwf rfl (fun G hG => g_Se_cut_0 hG ?_)
  have f60 : ∀ (μ' : Mem), CuAt μ' s (cutsOf T.1 sk) → Fr (seC s) μ μ' → G 60 [rf 12 s, rf 13 t, vi (skI sk), un] [] μ' := by
    intro μ' hc hf
    have hl := cutU_len T.1 sk T.1.length
    have hle := cutU_le hw.1 sk T.1.length (Nat.le_refl _)
    refine g_Se_cut_60 hG ?_
    have hsz : (if nI 0 < (μ'.1 s 3) - (nI 1) then (μ'.1 s 3) - (nI 1) else nI 0) = nI ((cutsOf T.1 sk).length - 1) := by
      rw [hc.1]
      rcases Nat.eq_zero_or_pos (cutsOf T.1 sk).length with q | q
      · rw [q]
        decide
      · have : (cutsOf T.1 sk).length ≤ 16 := by unfold cutsOf; omega
        rw [nx_sub (by omega)]
        rcases Nat.eq_zero_or_pos ((cutsOf T.1 sk).length - 1) with q2 | q2
        · rw [q2]
          decide
        · rw [if_pos (by rw [nx_lt (by omega) (by omega)]; exact q2)]
    rw [hsz]
    have hT' : TeAt μ' t T := hT.far hf (fun b hb2 hb3 => by simp at hb2 hb3; omega)
    refine useN (cover_ok hwf d (cs := cutsOf T.1 sk) (T := T) ⟨by rw [up_n2 (by omega)]; exact hc.1, fun i hi => by rw [up_n1 (by omega)]; exact hc.2 i hi⟩ (by rw [up_at]) (by unfold cutsOf; omega) (fun c hc2 => Nat.le_trans (hle c hc2) hL) (hT'.fr (fun b hb => up_cell (by simp at hb; omega))) hw hd) (fun μ1 hp => ?_)
    exact ⟨rfl, hp.1, (hf.up (by simp)).tr (hp.2.mono (by simp))⟩
  have loop : ∀ n i (μ' : Mem), i + n = T.1.length → CuAt μ' s (cutU T.1 sk i) → Fr (seC s) μ μ' → G 7 [rf 12 s, rf 13 t, vi (skI sk), vi (nI i)] [] μ' := by
    intro n
    induction n with
    | zero =>
      intro i μ' hi hc hf
      have e0 := hf.1 t (by simp; omega)
      have hi2 : i = T.1.length := by omega
      subst hi2
      refine g_Se_cut_7 hG ?_
      rw [e0, hT.1, nx_le (by omega) (by omega)]
      exact ⟨fun _ => f60 μ' hc hf, fun z => absurd (by omega) z⟩
    | succ n ih =>
      intro i μ' hi hc hf
      have hil : i < T.1.length := by omega
      have e0 := hf.1 t (by simp; omega)
      have hT' : TeAt μ' t T := hT.far hf (fun b hb2 hb3 => by simp at hb2 hb3; omega)
      obtain ⟨e1, e2, e3⟩ := hT'.2.2.1 i hil
      obtain ⟨a1, a2, a3⟩ := hw.1.at hil
      have hl := cutU_len T.1 sk i
      have hle := cutU_le hw.1 sk i (by omega)
      refine g_Se_cut_7 hG ?_
      simp (disch := omega) only [e0, hT.1, nx_le, nI_add, skI_eq, nx_cl, nx_in']
      refine ⟨fun z => absurd z (by omega), fun _ => ⟨fun z => absurd z (by omega), fun _ => ⟨fun z => ?_, fun z => ?_⟩⟩⟩
      · refine ih (i + 1) μ' (by omega) ?_ hf
        unfold cutU
        rw [if_pos (Or.inl z)]
        exact hc
      · refine useV (isEmpty_ok hwf d hT' hw hil) ?_
        rw [bI_eq0, e2]
        refine ⟨fun z2 => ?_, fun z2 => ⟨by omega, ?_⟩⟩
        · refine ih (i + 1) μ' (by omega) ?_ hf
          unfold cutU
          rw [if_pos (Or.inr (Decidable.not_not.mp z2))]
          exact hc
        · refine useN (addCut_ok hwf (d + 1) hc (by omega) (fun c hc2 => Nat.le_trans (hle c hc2) hL) (by omega)) (fun μ1 hp => ?_)
          obtain ⟨p1, p2⟩ := hp
          have g3 : μ1.1 (t + 3) i = nI (rb T.1 i) := by
            rw [p2.1 (t + 3) (by simp; omega)]
            exact e3
          rw [g3]
          refine ⟨by omega, ?_⟩
          have hl2 := insC_len (l := cutU T.1 sk i) (p := ra T.1 i)
          refine useN (addCut_ok hwf (d + 1) p1 (by omega) (fun c hc2 => ?_) (by omega)) (fun μ2 hp2 => ?_)
          · rcases insC_in hc2 with e | e
            · omega
            · exact Nat.le_trans (hle c e) hL
          · obtain ⟨p3, p4⟩ := hp2
            refine ih (i + 1) μ2 (by omega) ?_ ((hf.tr (p2.mono (by simp))).tr (p4.mono (by simp)))
            have ecut : cutU T.1 sk (i + 1) = insC (insC (cutU T.1 sk i) (ra T.1 i)) (rb T.1 i) := by
              conv => lhs; unfold cutU
              rw [if_neg (fun w => w.elim z z2)]
            rw [ecut]
            exact p3
  refine loop T.1.length 0 _ (by omega) ⟨by rw [up_at]; rfl, fun i hi => by simp [cutU] at hi⟩ ((Fr.rf _ _).up (by simp))
theorem seHas_ok {lay : List Nat} (hwf : wfB lay = true) (d : Nat) {μ : Mem} {s : Nat} {cs cv : List Nat} (hS : SeAt μ s cs cv) (hl : cv.length ≤ 15) (x : Int32) : Rn lay d mSe_has [rf 12 s, vi x] μ (Pv (bI (0 ≤ x.toInt ∧ x.toInt < cv.length)) μ) := by
  refine Rn_intro ok_Se_has hwf rfl (fun G hC => g_Se_has_0 hC ?_)
  simp (disch := omega) only [hS.2.1, i_lt, i_le, i_0, nI_ti]
  repeat' first | exact pv_f (by omega) | exact pv_t (by omega) | refine ⟨fun _ => ?_, fun _ => ?_⟩
theorem isCut_ok {lay : List Nat} (hwf : wfB lay = true) (d : Nat) {μ : Mem} {s : Nat} {cs : List Nat} (hS : CuAt μ s cs) (hl : cs.length ≤ 16) (hb : ∀ c ∈ cs, c ≤ 90) {c p : Nat} (hc : c < 1000) (hp : p < 1000) : Rn lay d mSe_isCut [rf 12 s, vi (nI c), vi (nI p)] μ (Pv (bI (c < cs.length ∧ cs.getD c 0 = p)) μ) := by
  have hbd : ∀ i, cs.getD i 0 ≤ 90 := fun i => by
    rw [List.getD]
    cases hq : cs[i]? with
    | none => simp
    | some c => exact hb c (List.mem_of_getElem? hq)
  have := hbd c
  refine Rn_intro ok_Se_isCut hwf rfl (fun G hC => g_Se_isCut_0 hC ?_)
  rw [hS.1, nx_0, nx_lt (by omega) (by omega), nx_le (by omega) (by omega), nx_le (by omega) (by omega), nx_cl (by omega)]
  refine ⟨fun z => absurd z (by omega), fun _ => ⟨fun z => pv_f (by omega), fun z => ⟨fun z2 => absurd z2 (by omega), fun _ => ?_⟩⟩⟩
  rw [hS.2 c (by omega), nx_eq (by omega) (by omega), nx_in' (by omega) (by omega)]
  refine ⟨by omega, fun z2 => pv_f (fun w => z2 w.2), fun z2 => pv_t ⟨by omega, z2⟩⟩
end
section
/-! Weights: all stacks of a section -/
theorem bitz : ∀ i, i < 8 → ∀ c, c < 256 → ((nI c &&& ((nI 1) <<< (nI i &&& 31)) = 0) ↔ c.testBit i = false) := by decide +kernel
def RkAt (μ : Mem) (w : Nat) (rk : Nat → Nat) : Prop := ∀ r, r < 8 → μ.1 (w + 37) r = nI (rk r) ∧ rk r < 4
def mrU (rk : Nat → Nat) (c : Nat) : Nat → Nat
  | 0 => 4
  | i + 1 => if c.testBit i = false then mrU rk c i else if rk i < mrU rk c i then rk i else mrU rk c i
def mr (rk : Nat → Nat) (c : Nat) : Nat := mrU rk c 8
theorem mrU_le (rk : Nat → Nat) (c : Nat) : ∀ i, mrU rk c i ≤ 4
  | 0 => Nat.le_refl 4
  | i + 1 => by
    have := mrU_le rk c i
    unfold mrU
    split
    · exact this
    · split <;> omega
theorem outermost_ok {lay : List Nat} (hwf : wfB lay = true) (d : Nat) {μ : Mem} {w c : Nat} {rk : Nat → Nat} (hr : RkAt μ w rk) (hc : c < 256) : Rn lay d mWe_outermostRank [rf 14 w, vi (nI c)] μ (Pv (nI (mr rk c)) μ) := by
  refine Rn_intro ok_We_outermostRank hwf rfl (fun G hC => g_We_outermostRank_0 hC ?_)
  have loop : ∀ n i, i + n = 8 → G 4 [rf 14 w, vi (nI c), vi (nI (mrU rk c i)), vi (nI i)] [] μ := by
    intro n
    induction n with
    | zero =>
      intro i hi
      refine g_We_outermostRank_4 hC ?_
      rw [nx_le (by omega) (by omega)]
      exact ⟨fun _ => pv_e (by rw [show i = 8 by omega]; rfl), fun z => absurd (by omega) z⟩
    | succ n ih =>
      intro i hi
      have ih := ih (i + 1) (by omega)
      obtain ⟨h1, h2⟩ := hr i (by omega)
      have hm := mrU_le rk c i
      refine g_We_outermostRank_4 hC ?_
      simp (disch := omega) only [nx_le, bitz, nx_cl, nx_in', h1, nI_add, nx_lt]
      unfold mrU at ih
      refine ⟨fun z => absurd z (by omega), fun _ => ⟨fun z => ?_, fun z => ⟨by omega, ?_⟩⟩⟩
      · rw [if_pos z] at ih
        exact ih
      · rw [if_neg z] at ih
        by_cases q : rk i < mrU rk c i
        · rw [if_pos q] at ih ⊢
          exact ih
        · rw [if_neg q] at ih ⊢
          exact ih
  exact loop 8 0 (by omega)
def RowAt (μ : Mem) (w s : Nat) (xs : List (List Nat)) : Prop := μ.1 (w + 36) s = nI xs.length ∧ ∀ i, i < xs.length → μ.1 (w + 1 + 1 + 1 * s) i = nI (enc (xs.getD i []))
/-- only the row of section s and its count have changed -/
def FrS (w s : Nat) (μ μ1 : Mem) : Prop := (∀ b, b ≠ w + 36 → b ≠ w + 1 + 1 + 1 * s → μ1.1 b = μ.1 b) ∧ (∀ j, j ≠ s → μ1.1 (w + 36) j = μ.1 (w + 36) j) ∧ μ1.2 = μ.2
theorem FrS.rf (w s : Nat) (μ : Mem) : FrS w s μ μ := ⟨fun _ _ _ => rfl, fun _ _ => rfl, rfl⟩
theorem FrS.tr {w s : Nat} {μ μ1 μ2 : Mem} (h : FrS w s μ μ1) (h2 : FrS w s μ1 μ2) : FrS w s μ μ2 := ⟨fun b h3 h4 => (h2.1 b h3 h4).trans (h.1 b h3 h4), fun j hj => (h2.2.1 j hj).trans (h.2.1 j hj), h2.2.2.trans h.2.2⟩
theorem addStack_ok {lay : List Nat} (hwf : wfB lay = true) (d : Nat) {μ : Mem} {w s : Nat} {xs : List (List Nat)} {p : List Nat} (hs : s < 15) (hR : RowAt μ w s xs) (hl : xs.length < 120) : Rn lay d mWe_addStack [rf 14 w, vi (nI s), vi (nI (enc p))] μ (Pn fun μ1 => RowAt μ1 w s (xs ++ [p]) ∧ FrS w s μ μ1) := by
  obtain ⟨h1, h2⟩ := hR
  refine Rn_intro ok_We_addStack hwf rfl (fun G hC => g_We_addStack_0 hC ?_)
  simp (disch := omega) only [nx_cl, nx_in', h1, nx_0, nx_lt, nI_add]
  refine ⟨by omega, fun z => absurd z (by omega), fun _ => ⟨fun _ => ⟨by omega, by omega, by omega, rfl, ⟨?_, fun i hi => ?_⟩, fun b hb hb2 => ?_, fun j hj => ?_, rfl⟩, fun z => absurd hl z⟩⟩
  · rw [up_at]
    simp
  · rw [up_n1 (by omega)]
    rw [List.length_append, List.length_singleton] at hi
    by_cases e : i = xs.length
    · subst e
      rw [up_at, List.getD, List.getElem?_append_right (Nat.le_refl _)]
      simp
    · rw [up_n2 e, h2 i (by omega), List.getD, List.getD, List.getElem?_append_left (by omega)]
  · rw [up_cell hb, up_cell hb2]
  · rw [up_n2 hj, up_n1 (by omega)]
def dfsF (rk : Nat → Nat) : Nat → Nat → List Nat → List (List Nat)
  | 0, c, p => if c = 0 then [p] else []
  | f + 1, c, p => if c = 0 then [p] else (List.range 8).flatMap fun r => if c.testBit r = true ∧ rk r = mr rk c then dfsF rk f (clr c r) (p ++ [r]) else []
theorem flat_le {α β : Type} (F : α → List β) : ∀ (l m : List α), (l.flatMap F).length ≤ ((l ++ m).flatMap F).length := fun l m => by
  rw [List.flatMap_append, List.length_append]
  omega
theorem range_le {i n : Nat} (h : i ≤ n) : ∃ m, List.range n = List.range i ++ m := by
  refine ⟨(List.range n).drop i, ?_⟩
  have e : (List.range n).take i = List.range i := by
    rw [List.take_range, Nat.min_eq_left h]
  rw [← e, List.take_append_drop]
theorem addStacks_ok {lay : List Nat} (hwf : wfB lay = true) (d : Nat) {w s : Nat} {rk : Nat → Nat} (hs : s < 15) : ∀ (f : Nat) (c : Nat) (p : List Nat) (xs : List (List Nat)) (μ : Mem), p.length + f = 5 → oks p → c < 256 → RkAt μ w rk → RowAt μ w s xs → xs.length + (dfsF rk f c p).length ≤ 120 → Rn lay (d + f + 1) mWe_addStacks [rf 14 w, vi (nI s), vi (nI c), vi (nI p.length), vi (nI (enc p))] μ (Pn fun μ1 => RowAt μ1 w s (xs ++ dfsF rk f c p) ∧ FrS w s μ μ1) := by
  intro f
  induction f with
  | zero =>
    intro c p xs μ hpf hp hc hr hR hb
    refine Rn_intro ok_We_addStacks hwf rfl (fun G hC => g_We_addStacks_0 hC ?_)
    rw [nx_0, nx_eq (by omega) (by omega), nx_lt (by omega) (by omega)]
    refine ⟨fun z => ⟨fun z2 => absurd z2 (by omega), fun _ => ?_⟩, fun z => ?_⟩
    · refine ⟨rfl, ?_, FrS.rf _ _ _⟩
      unfold dfsF
      rw [if_neg z, List.append_nil]
      exact hR
    · unfold dfsF at hb ⊢
      rw [if_pos z] at hb ⊢
      refine useN (addStack_ok hwf _ hs hR (by simp at hb; omega)) (fun μ1 hp1 => ⟨rfl, hp1⟩)
  | succ f ih =>
    intro c p xs μ hpf hp hc hr hR hb
    refine Rn_intro ok_We_addStacks hwf rfl (fun G hC => g_We_addStacks_0 hC ?_)
    rw [nx_0, nx_eq (by omega) (by omega), nx_lt (by omega) (by omega)]
    refine ⟨fun z => ⟨fun _ => ?_, fun z2 => absurd (by omega) z2⟩, fun z => ?_⟩
    · refine useV (outermost_ok hwf _ hr hc) ?_
      unfold dfsF at hb
      rw [if_neg z] at hb
      have e : dfsF rk (f + 1) c p = (List.range 8).flatMap fun r => if c.testBit r = true ∧ rk r = mr rk c then dfsF rk f (clr c r) (p ++ [r]) else [] := by
        conv => lhs; unfold dfsF
        rw [if_neg z]
      rw [e] at hC
      generalize hF : (fun r => if c.testBit r = true ∧ rk r = mr rk c then dfsF rk f (clr c r) (p ++ [r]) else []) = F at hb hC
      have hFr : ∀ r, F r = if c.testBit r = true ∧ rk r = mr rk c then dfsF rk f (clr c r) (p ++ [r]) else [] := fun r => by rw [← hF]
      have hm := mrU_le rk c 8
      have loop : ∀ n i (μ' : Mem), i + n = 8 → RowAt μ' w s (xs ++ (List.range i).flatMap F) → FrS w s μ μ' → G 28 [rf 14 w, vi (nI s), vi (nI c), vi (nI p.length), vi (nI (enc p)), vi (nI (mr rk c)), vi (nI i), un] [] μ' := by
        intro n
        induction n with
        | zero =>
          intro i μ' hi hR' hf
          refine g_We_addStacks_28 hC ?_
          rw [nx_le (by omega) (by omega)]
          refine ⟨fun _ => ⟨rfl, ?_, hf⟩, fun z => absurd (by omega) z⟩
          rw [show i = 8 by omega] at hR'
          exact hR'
        | succ n ihn =>
          intro i μ' hi hR' hf
          have hr' : RkAt μ' w rk := fun r hr2 => by
            rw [hf.1 (w + 37) (by omega) (by omega)]
            exact hr r hr2
          obtain ⟨h1, h2⟩ := hr' i (by omega)
          have enx : (List.range (i + 1)).flatMap F = (List.range i).flatMap F ++ F i := by
            rw [List.range_succ, List.flatMap_append]
            simp
          have hle : ((List.range (i + 1)).flatMap F).length ≤ ((List.range 8).flatMap F).length := by
            obtain ⟨m, hm2⟩ := range_le (show i + 1 ≤ 8 by omega)
            rw [hm2]
            exact flat_le F _ m
          have skip : F i = [] → G 28 [rf 14 w, vi (nI s), vi (nI c), vi (nI p.length), vi (nI (enc p)), vi (nI (mr rk c)), vi (nI (i + 1)), un] [] μ' := fun q => by
            refine ihn (i + 1) μ' (by omega) ?_ hf
            rw [enx, q, List.append_nil]
            exact hR'
          refine g_We_addStacks_28 hC ?_
          have hcl : nI c &&& (((nI 1) <<< (nI i &&& 31)) ^^^ (mI 0)) = nI (clr c i) := by
            rw [clr_and i (by omega) c hc, clr, if_pos (by omega)]
          rw [hcl]
          have hmr : mr rk c ≤ 4 := hm
          simp (disch := omega) only [nx_le, bitz, nx_cl, nx_in', h1, nI_add, nx_eq]
          refine ⟨fun z => absurd z (by omega), fun _ => ⟨fun q => skip ?_, fun q => ⟨by omega, fun q2 => skip ?_, fun q2 => ?_⟩⟩⟩
          · rw [hFr, if_neg (by rw [q]; simp)]
          · rw [hFr, if_neg (fun w => q2 w.2)]
          · have hFi : F i = dfsF rk f (clr c i) (p ++ [i]) := by
              rw [hFr, if_pos ⟨by simpa using q, q2⟩]
            refine useV (with_ok hwf _ hp (by omega) (by omega) μ') ?_
            have hpl : (p ++ [i]).length = p.length + 1 := by simp
            have hok : oks (p ++ [i]) := ⟨by rw [hpl]; omega, fun r hr2 => by
              rcases List.mem_append.mp hr2 with z | z
              · exact hp.2 r z
              · simp at z
                omega⟩
            have hrec := ih (clr c i) (p ++ [i]) (xs ++ (List.range i).flatMap F) μ' (by rw [hpl]; omega) hok (clr_lt hc) hr' hR' (by
              rw [← hFi, List.length_append, Nat.add_assoc, ← List.length_append, ← enx]
              omega)
            rw [hpl] at hrec
            refine useN hrec (fun μ1 hp1 => ?_)
            refine ihn (i + 1) μ1 (by omega) ?_ (hf.tr hp1.2)
            rw [enx, hFi, ← List.append_assoc]
            exact hp1.1
      exact loop 8 0 μ (by omega) (by simpa using hR) (FrS.rf _ _ _)
    · have e : dfsF rk (f + 1) c p = [p] := by
        conv => lhs; unfold dfsF
        rw [if_pos z]
      rw [e] at hb hC
      refine useN (addStack_ok hwf _ hs hR (by simp at hb; omega)) (fun μ1 hp1 => ⟨rfl, ?_⟩)
      rw [e]
      exact hp1
end
section
/-! Weights: costs and manners of a section's stacks -/
theorem nx_and1 (s : Nat) : nI s &&& nI 1 = nI (s % 2) := by rw [nx_and, Nat.and_one_is_mod]
def CoAt (μ : Mem) (w s n : Nat) (cf : Nat → Nat) : Prop := ∀ i, i < n → μ.1 (w + 17 + 1 + 1 * s) i = nI (cf i)
def MaAt (μ : Mem) (w s n : Nat) (mf : Nat → Nat) : Prop := ∀ i, i < n → μ.1 (w + 33 + 1 + 1 * (s % 2)) i = nI (mf i)
/-- only costs and manners of section s have changed -/
def FrC (w s : Nat) (μ μ1 : Mem) : Prop := (∀ b, b ≠ w + 17 + 1 + 1 * s → b ≠ w + 33 + 1 + 1 * (s % 2) → μ1.1 b = μ.1 b) ∧ μ1.2 = μ.2
theorem FrC.rf (w s : Nat) (μ : Mem) : FrC w s μ μ := ⟨fun _ _ _ => rfl, rfl⟩
theorem FrC.tr {w s : Nat} {μ μ1 μ2 : Mem} (h : FrC w s μ μ1) (h2 : FrC w s μ1 μ2) : FrC w s μ μ2 := ⟨fun b h3 h4 => (h2.1 b h3 h4).trans (h.1 b h3 h4), h2.2.trans h.2⟩
theorem setAll_ok {lay : List Nat} (hwf : wfB lay = true) (d : Nat) {μ : Mem} {w s n c m : Nat} (hs : s < 15) (hn : n ≤ 120) (hc : μ.1 (w + 36) s = nI n) : Rn lay d mWe_setAll [rf 14 w, vi (nI s), vi (nI c), vi (nI m)] μ (Pn fun μ1 => CoAt μ1 w s n (fun _ => c) ∧ MaAt μ1 w s n (fun _ => m) ∧ FrC w s μ μ1) := by
  refine Rn_intro ok_We_setAll hwf rfl (fun G hC => g_We_setAll_0 hC ?_)
  have loop : ∀ k i (μ' : Mem), i + k = n → CoAt μ' w s i (fun _ => c) → MaAt μ' w s i (fun _ => m) → FrC w s μ μ' → G 3 [rf 14 w, vi (nI s), vi (nI c), vi (nI m), vi (nI i)] [] μ' := by
    intro k
    induction k with
    | zero =>
      intro i μ' hi h1 h2 hf
      have e := hf.1 (w + 36) (by omega) (by omega)
      refine g_We_setAll_3 hC ?_
      simp (disch := omega) only [nx_cl, nx_in', e, hc, nx_le]
      rw [show n = i by omega]
      exact ⟨by omega, fun _ => ⟨rfl, h1, h2, hf⟩, fun z => absurd (by omega) z⟩
    | succ k ih =>
      intro i μ' hi h1 h2 hf
      have e := hf.1 (w + 36) (by omega) (by omega)
      refine g_We_setAll_3 hC ?_
      simp (disch := omega) only [nx_and1, nx_cl, nx_in', e, hc, nx_le, nI_add]
      refine ⟨by omega, fun z => absurd z (by omega), fun _ => ⟨by omega, by omega, by omega, by omega, ih (i + 1) _ (by omega) (fun j hj => ?_) (fun j hj => ?_) (hf.tr ⟨fun b h3 h4 => by rw [up_cell h4, up_cell h3], rfl⟩)⟩⟩
      · rw [up_n1 (by omega)]
        by_cases q : j = i
        · subst q; rw [up_at]
        · rw [up_n2 q]; exact h1 j (by omega)
      · by_cases q : j = i
        · subst q; rw [up_at]
        · rw [up_n2 q, up_n1 (by omega)]; exact h2 j (by omega)
  exact loop n 0 μ (by omega) (fun j hj => by omega) (fun j hj => by omega) (FrC.rf _ _ _)
def chU (cf : Nat → Nat) (a : Nat) : Nat → Nat
  | 0 => 1000000
  | n + 1 => if cf (a + n) < chU cf a n then cf (a + n) else chU cf a n
theorem chU_le (cf : Nat → Nat) (a : Nat) : ∀ n, chU cf a n ≤ 1000000
  | 0 => Nat.le_refl _
  | n + 1 => by
    have := chU_le cf a n
    unfold chU
    split <;> omega
theorem cheapest_ok {lay : List Nat} (hwf : wfB lay = true) (d : Nat) {μ : Mem} {w s n a b : Nat} {cf : Nat → Nat} (hs : s < 15) (hn : n ≤ 120) (hc : CoAt μ w s n cf) (hcb : ∀ i, i < n → cf i < 2147483648) (hab : a ≤ b) (hb : b ≤ n) : Rn lay d mWe_cheapest [rf 14 w, vi (nI s), vi (nI a), vi (nI b)] μ (Pv (nI (chU cf a (b - a))) μ) := by
  refine Rn_intro ok_We_cheapest hwf rfl (fun G hC => g_We_cheapest_0 hC ?_)
  have loop : ∀ k i, i + k = b - a → G 7 [rf 14 w, vi (nI s), un, vi (nI b), vi (nI (chU cf a i)), vi (nI (a + i))] [] μ := by
    intro k
    induction k with
    | zero =>
      intro i hi
      refine g_We_cheapest_7 hC ?_
      rw [nx_le (by omega) (by omega)]
      exact ⟨fun _ => pv_e (by rw [show b - a = i by omega]), fun z => absurd (by omega) z⟩
    | succ k ih =>
      intro i hi
      have ih := ih (i + 1) (by omega)
      have h1 := chU_le cf a i
      have h2 := hcb (a + i) (by omega)
      refine g_We_cheapest_7 hC ?_
      simp (disch := omega) only [nx_le, nx_cl, nx_in', hc (a + i) (by omega), nI_add, nx_lt]
      refine ⟨fun z => absurd z (by omega), fun _ => ⟨by omega, by omega, ?_⟩⟩
      unfold chU at ih
      by_cases q : cf (a + i) < chU cf a i
      · rw [if_pos q] at ih ⊢
        exact ih
      · rw [if_neg q] at ih ⊢
        exact ih
  exact loop (b - a) 0 (by omega)
def mnU (cf mf : Nat → Nat) (a c : Nat) : Nat → Nat
  | 0 => 0
  | n + 1 => if cf (a + n) = c then (if mnU cf mf a c n + mf (a + n) < 1000000000 then mnU cf mf a c n + mf (a + n) else 1000000000) else mnU cf mf a c n
theorem mnU_le (cf mf : Nat → Nat) (a c : Nat) : ∀ n, mnU cf mf a c n ≤ 1000000000
  | 0 => by simp [mnU]
  | n + 1 => by
    have := mnU_le cf mf a c n
    unfold mnU
    split
    · split <;> omega
    · exact this
theorem mannersOf_ok {lay : List Nat} (hwf : wfB lay = true) (d : Nat) {μ : Mem} {w s n a b c : Nat} {cf mf : Nat → Nat} (hs : s < 15) (hn : n ≤ 120) (hc : CoAt μ w s n cf) (hcb : ∀ i, i < n → cf i < 2147483648) (hm : MaAt μ w s n mf) (hmb : ∀ i, i < n → mf i ≤ 1000000000) (hab : a ≤ b) (hb : b ≤ n) (hc2 : c < 2147483648) : Rn lay d mWe_mannersOf [rf 14 w, vi (nI s), vi (nI a), vi (nI b), vi (nI c)] μ (Pv (nI (mnU cf mf a c (b - a))) μ) := by
  refine Rn_intro ok_We_mannersOf hwf rfl (fun G hC => g_We_mannersOf_0 hC ?_)
  have loop : ∀ k i, i + k = b - a → G 16 [rf 14 w, vi (nI s), un, vi (nI b), vi (nI c), rf 10120 (w + 33 + 1 + 1 * (s % 2)), vi (nI (mnU cf mf a c i)), vi (nI (a + i))] [] μ := by
    intro k
    induction k with
    | zero =>
      intro i hi
      refine g_We_mannersOf_16 hC ?_
      rw [nx_le (by omega) (by omega)]
      exact ⟨fun _ => pv_e (by rw [show b - a = i by omega]), fun z => absurd (by omega) z⟩
    | succ k ih =>
      intro i hi
      have ih := ih (i + 1) (by omega)
      have h1 := mnU_le cf mf a c i
      have h2 := hcb (a + i) (by omega)
      have h3 := hmb (a + i) (by omega)
      refine g_We_mannersOf_16 hC ?_
      simp (disch := omega) only [nx_le, nx_cl, nx_in', hc (a + i) (by omega), hm (a + i) (by omega), nI_add, nx_lt, nx_eq]
      unfold mnU at ih
      refine ⟨fun z => absurd z (by omega), fun _ => ⟨by omega, by omega, fun z => ?_, fun z => ⟨by omega, ?_⟩⟩⟩
      · rw [if_neg z] at ih
        exact ih
      · rw [if_pos z] at ih
        by_cases q : mnU cf mf a c i + mf (a + i) < 1000000000
        · rw [if_pos q] at ih ⊢
          exact ih
        · rw [if_neg q] at ih ⊢
          exact ih
  simp (disch := omega) only [nx_and1, nx_cl, nx_in']
  exact ⟨by omega, loop (b - a) 0 (by omega)⟩
/-- one more way, at a cost, with as many manners -/
def offP (st : Nat × Nat) (v n : Nat) : Nat × Nat := if v < st.1 then (v, n) else if v = st.1 then (st.1, if st.2 + n < 1000000000 then st.2 + n else 1000000000) else st
def PrAt (μ : Mem) (w s n : Nat) (pf : Nat → Nat × Nat) : Prop := ∀ i, i < n → μ.1 (w + 17 + 1 + 1 * s) i = nI (pf i).1 ∧ μ.1 (w + 33 + 1 + 1 * (s % 2)) i = nI (pf i).2
theorem offer_ok {lay : List Nat} (hwf : wfB lay = true) (d : Nat) {μ : Mem} {w s n i v m : Nat} {pf : Nat → Nat × Nat} (hs : s < 15) (hn : n ≤ 120) (hp : PrAt μ w s n pf) (hi : i < n) (hb1 : (pf i).1 < 2147483648) (hb2 : (pf i).2 ≤ 1000000000) (hv : v < 2147483648) (hm : m ≤ 1000000000) : Rn lay d mWe_offer [rf 14 w, vi (nI s), vi (nI i), vi (nI v), vi (nI m)] μ (Pn fun μ1 => PrAt μ1 w s n (fun j => if j = i then offP (pf i) v m else pf j) ∧ FrC w s μ μ1) := by
  obtain ⟨h1, h2⟩ := hp i hi
  refine Rn_intro ok_We_offer hwf rfl (fun G hC => g_We_offer_0 hC ?_)
  have fin : ∀ (μ1 : Mem) (x : Nat × Nat), offP (pf i) v m = x → (∀ j, j ≠ i → μ1.1 (w + 17 + 1 + 1 * s) j = μ.1 (w + 17 + 1 + 1 * s) j ∧ μ1.1 (w + 33 + 1 + 1 * (s % 2)) j = μ.1 (w + 33 + 1 + 1 * (s % 2)) j) → μ1.1 (w + 17 + 1 + 1 * s) i = nI x.1 → μ1.1 (w + 33 + 1 + 1 * (s % 2)) i = nI x.2 → FrC w s μ μ1 → (Pn fun μ1 => PrAt μ1 w s n (fun j => if j = i then offP (pf i) v m else pf j) ∧ FrC w s μ μ1) none μ1 := by
    intro μ1 x hx ho ha hb hf
    refine ⟨rfl, fun j hj => ?_, hf⟩
    by_cases q : j = i
    · subst q
      simp only [if_true]
      rw [hx]
      exact ⟨ha, hb⟩
    · simp only [if_neg q]
      rw [(ho j q).1, (ho j q).2]
      exact hp j hj
  simp (disch := omega) only [nx_and1, nx_cl, nx_in', h1, h2, nx_le, nx_eq, nI_add, nx_lt]
  refine ⟨by omega, by omega, by omega, fun z => ⟨by omega, by omega, fun z2 => ?_, fun z2 => ⟨by omega, by omega, ?_⟩⟩, fun z => ⟨by omega, by omega, by omega, ?_⟩⟩
  · refine fin μ (pf i) ?_ (fun j _ => ⟨rfl, rfl⟩) h1 h2 (FrC.rf _ _ _)
    unfold offP
    rw [if_neg (by omega), if_neg z2]
  · refine fin _ ((pf i).1, if (pf i).2 + m < 1000000000 then (pf i).2 + m else 1000000000) ?_ (fun j hj => ?_) ?_ ?_ ⟨fun b h3 h4 => up_cell h4, rfl⟩
    · unfold offP
      rw [if_neg (by omega), if_pos z2]
    · rw [up_n1 (by omega), up_n2 hj]
      exact ⟨rfl, rfl⟩
    · rw [up_n1 (by omega)]
      exact h1
    · rw [up_at]
      dsimp only
      split <;> rfl
  · refine fin _ (v, m) ?_ (fun j hj => ?_) ?_ ?_ ⟨fun b h3 h4 => by rw [up_cell h4, up_cell h3], rfl⟩
    · unfold offP
      rw [if_pos (by omega)]
    · refine ⟨?_, ?_⟩
      · rw [up_n1 (by omega), up_n2 hj]
      · rw [up_n2 hj, up_n1 (by omega)]
    · rw [up_n1 (by omega), up_at]
    · rw [up_at]
theorem atI_eq {l m : List Nat} {k : Nat} (hl : ∀ r ∈ l, r < 8) (hm : ∀ r ∈ m, r < 8) : (atI l k = atI m k) = (dig l k = dig m k) := by
  unfold atI dig
  cases h1 : l[k]? with
  | none =>
    cases h2 : m[k]? with
    | none => simp
    | some y =>
      have := hm y (List.mem_of_getElem? h2)
      exact propext ⟨fun h => absurd h (mI_ne (by omega) (by omega)), fun h => by simp at h⟩
  | some x =>
    have hx := hl x (List.mem_of_getElem? h1)
    cases h2 : m[k]? with
    | none => exact propext ⟨fun h => absurd h.symm (mI_ne (by omega) (by omega)), fun h => by simp at h⟩
    | some y =>
      have := hm y (List.mem_of_getElem? h2)
      dsimp only
      rw [nx_eq (by omega) (by omega)]
      exact propext (by omega)
/-- from e on, as far as the k-th is g: where it ends -/
def eol (xs : List (List Nat)) (k g hi : Nat) : Nat → Nat → Nat
  | 0, e => e
  | n + 1, e => if e < hi ∧ dig (xs.getD e []) k = g then eol xs k g hi n (e + 1) else e
theorem endOfLike_ok {lay : List Nat} (hwf : wfB lay = true) (d : Nat) {μ : Mem} {w s i hi k : Nat} {xs : List (List Nat)} (hs : s < 15) (hn : xs.length ≤ 120) (hR : RowAt μ w s xs) (hok : ∀ x ∈ xs, oks x) (hih : i < hi) (hhl : hi ≤ xs.length) (hk : k < 2147483648) : Rn lay (d + 1) mWe_endOfLike [rf 14 w, vi (nI s), vi (nI i), vi (nI hi), vi (nI k)] μ (Pv (nI (eol xs k (dig (xs.getD i []) k) hi (hi - (i + 1)) (i + 1))) μ) := by
  have hxo : ∀ j, j < xs.length → oks (xs.getD j []) := fun j hj => by
    rw [List.getD, List.getElem?_eq_getElem hj]
    exact hok _ (List.getElem_mem hj)
  refine Rn_intro ok_We_endOfLike hwf rfl (fun G hC => g_We_endOfLike_0 hC ?_)
  have loop : ∀ n e, e + n = hi → eol xs k (dig (xs.getD i []) k) hi n e = eol xs k (dig (xs.getD i []) k) hi (hi - (i + 1)) (i + 1) → G 20 [rf 14 w, vi (nI s), un, vi (nI hi), vi (nI k), vi (atI (xs.getD i []) k), vi (nI e)] [] μ := by
    intro n
    induction n with
    | zero =>
      intro e he hq
      refine g_We_endOfLike_20 hC ?_
      rw [nx_le (by omega) (by omega)]
      exact ⟨fun _ => pv_e (by rw [← hq]; rfl), fun z => absurd (by omega) z⟩
    | succ n ih =>
      intro e he hq
      refine g_We_endOfLike_20 hC ?_
      simp (disch := omega) only [nx_le, nx_cl, nx_in', hR.2 e (by omega), nI_add]
      refine ⟨fun z => absurd z (by omega), fun _ => ⟨by omega, by omega, ?_⟩⟩
      refine useV (at_ok hwf d (hxo e (by omega)) hk μ) ?_
      rw [atI_eq (hxo e (by omega)).2 (hxo i (by omega)).2]
      rw [show eol xs k (dig (xs.getD i []) k) hi (n + 1) e = if e < hi ∧ dig (xs.getD e []) k = dig (xs.getD i []) k then eol xs k (dig (xs.getD i []) k) hi n (e + 1) else e from rfl] at hq
      refine ⟨fun z => pv_e ?_, fun z => ih (e + 1) (by omega) ?_⟩
      · rw [if_neg (fun q => z q.2)] at hq
        rw [← hq]
      · rw [if_pos ⟨by omega, z⟩] at hq
        exact hq
  simp (disch := omega) only [nx_cl, nx_in', hR.2 i (by omega), nI_add]
  refine ⟨by omega, by omega, ?_⟩
  refine useV (at_ok hwf d (hxo i (by omega)) hk μ) ?_
  exact loop (hi - (i + 1)) (i + 1) (by omega) rfl
end
section
/-! Weights.offerAlike -/
abbrev sx (xs : List (List Nat)) (i k : Nat) : Nat := dig (xs.getD i []) k
theorem eol_at {xs : List (List Nat)} {k g hi : Nat} : ∀ n e, e + n = hi → e ≤ eol xs k g hi n e ∧ eol xs k g hi n e ≤ hi ∧ (∀ q, e ≤ q → q < eol xs k g hi n e → sx xs q k = g) ∧ (eol xs k g hi n e < hi → sx xs (eol xs k g hi n e) k ≠ g)
  | 0, e, h => ⟨Nat.le_refl _, by simp [eol]; omega, fun q h1 h2 => by simp [eol] at h2; omega, fun h2 => by simp [eol] at h2; omega⟩
  | n + 1, e, h => by
    have ih := eol_at (xs := xs) (k := k) (g := g) (hi := hi) n (e + 1) (by omega)
    rw [show eol xs k g hi (n + 1) e = if e < hi ∧ dig (xs.getD e []) k = g then eol xs k g hi n (e + 1) else e from rfl]
    split
    · next hc =>
      obtain ⟨i1, i2, i3, i4⟩ := ih
      refine ⟨by omega, i2, fun q h1 h2 => ?_, i4⟩
      by_cases e2 : q = e
      · rw [e2]; exact hc.2
      · exact i3 q (by omega) h2
    · next hc => exact ⟨Nat.le_refl _, by omega, fun q h1 h2 => by omega, fun h2 h3 => hc ⟨h2, h3⟩⟩
def lexlt (l m : List Nat) : Prop := ∃ k, (∀ q, q < k → dig l q = dig m q) ∧ dig l k < dig m k
def Lx (xs : List (List Nat)) : Prop := ∀ i j, i < j → j < xs.length → lexlt (xs.getD i []) (xs.getD j [])
theorem Lx.mono {xs : List (List Nat)} (h : Lx xs) {lo hi k : Nat} (hc : ∀ i j, lo ≤ i → i < hi → lo ≤ j → j < hi → ∀ q, q < k → sx xs i q = sx xs j q) (hh : hi ≤ xs.length) {i j : Nat} (h1 : lo ≤ i) (h2 : i ≤ j) (h3 : j < hi) : sx xs i k ≤ sx xs j k := by
  rcases Nat.lt_or_ge i j with q | q
  · obtain ⟨m, m1, m2⟩ := h i j q (by omega)
    rcases Nat.lt_or_ge m k with z | z
    · have := hc i j h1 (by omega) (by omega) h3 m z
      unfold sx at this
      omega
    · rcases Nat.lt_or_ge k m with z2 | z2
      · exact Nat.le_of_eq (m1 k z2)
      · rw [show k = m by omega]
        exact Nat.le_of_lt m2
  · rw [show i = j by omega]
    exact Nat.le_refl _
theorem atI_ti {l : List Nat} {k : Nat} (hl : ∀ r ∈ l, r < 8) : (atI l k).toInt = (dig l k : Int) - 1 := by
  unfold atI dig
  cases h1 : l[k]? with
  | none => decide
  | some x =>
    have := hl x (List.mem_of_getElem? h1)
    dsimp only
    rw [nI_ti (by omega)]
    omega
/-- what the offers at depth dp and deeper make of a stack's cost and manners: f levels are left, the next section's stacks a to b begin alike with it for dp ranges -/
def OffR (ys : List (List Nat)) (cf mf : Nat → Nat) (sh : Nat) (x : List Nat) : Nat → Nat → Nat → Nat → Nat × Nat → Nat × Nat → Prop
  | 0, _, _, _, st, st' => st' = st
  | f + 1, dp, a, b, st, st' =>
    ((dig x dp = 0 ∨ ∀ j, a ≤ j → j < b → sx ys j dp ≠ dig x dp) ∧ st' = offP st (chU cf a (b - a) + sh - dp) (mnU cf mf a (chU cf a (b - a)) (b - a))) ∨
    (dig x dp ≠ 0 ∧ ∃ a' b', a ≤ a' ∧ a' < b' ∧ b' ≤ b ∧ (∀ j, a ≤ j → j < b → (sx ys j dp = dig x dp ↔ a' ≤ j ∧ j < b')) ∧ OffR ys cf mf sh x f (dp + 1) a' b' (offP st (chU cf a (b - a) + sh - dp) (mnU cf mf a (chU cf a (b - a)) (b - a))) st')
def bdP (p : Nat × Nat) : Prop := p.1 < 2147483648 ∧ p.2 ≤ 1000000000
theorem offP_bd {st : Nat × Nat} {v n : Nat} (h : bdP st) (hv : v < 2147483648) (hn : n ≤ 1000000000) : bdP (offP st v n) := by
  unfold offP
  split
  · exact ⟨hv, hn⟩
  · split
    · refine ⟨h.1, ?_⟩
      dsimp only
      split <;> omega
    · exact h
theorem FrC.row {w s : Nat} {μ μ1 : Mem} (hf : FrC w s μ μ1) {s' : Nat} (hs : s < 15) (hs' : s' < 15) {xs : List (List Nat)} (h : RowAt μ w s' xs) : RowAt μ1 w s' xs := by
  obtain ⟨h1, h2⟩ := h
  rw [← hf.1 (w + 36) (by omega) (by omega)] at h1
  refine ⟨h1, fun i hi => ?_⟩
  rw [hf.1 (w + 1 + 1 + 1 * s') (by omega) (by omega)]
  exact h2 i hi
def OffQ (xs ys : List (List Nat)) (cf mf : Nat → Nat) (sh w s f dp lo hi a b : Nat) (pf : Nat → Nat × Nat) (μ : Mem) : Mem → Prop := fun μ1 => ∃ pf' : Nat → Nat × Nat, PrAt μ1 w s xs.length pf' ∧ (∀ i, i < xs.length → bdP (pf' i)) ∧ (∀ i, lo ≤ i → i < hi → OffR ys cf mf sh (xs.getD i []) f dp a b (pf i) (pf' i)) ∧ (∀ i, ¬ (lo ≤ i ∧ i < hi) → pf' i = pf i) ∧ FrC w s μ μ1
/-- what is fixed over a section's offers -/
def OffW (xs ys : List (List Nat)) (cf mf : Nat → Nat) (sh w s : Nat) (μ : Mem) : Prop := RowAt μ w s xs ∧ RowAt μ w (s + 1) ys ∧ CoAt μ w (s + 1) ys.length cf ∧ MaAt μ w (s + 1) ys.length mf ∧ μ.1 w 5 = nI sh
theorem OffW.fr {xs ys : List (List Nat)} {cf mf : Nat → Nat} {sh w s : Nat} {μ μ1 : Mem} (h : OffW xs ys cf mf sh w s μ) (hf : FrC w s μ μ1) (hs : s + 1 < 15) : OffW xs ys cf mf sh w s μ1 := by
  obtain ⟨h1, h2, h3, h4, h5⟩ := h
  refine ⟨hf.row (by omega) (by omega) h1, hf.row (by omega) (by omega) h2, fun i hi => ?_, fun i hi => ?_, ?_⟩
  · rw [hf.1 _ (by omega) (by omega)]; exact h3 i hi
  · rw [hf.1 _ (by omega) (by omega)]; exact h4 i hi
  · rw [hf.1 _ (by omega) (by omega)]; exact h5
theorem off_body {lay : List Nat} (hwf : wfB lay = true) (d : Nat) {w s sh : Nat} {xs ys : List (List Nat)} {cf mf : Nat → Nat} (hs : s + 1 < 15) (hxl : xs.length ≤ 120) (hyl : ys.length ≤ 120) (hxo : ∀ x ∈ xs, oks x) (hyo : ∀ x ∈ ys, oks x) (hLx : Lx xs) (hLy : Lx ys) (hcb : ∀ i, i < ys.length → cf i < 2147483648) (hmb : ∀ i, i < ys.length → mf i ≤ 1000000000) (hsh8 : sh ≤ 8)
    (hsh : ∀ i j k, i < xs.length → j < ys.length → (∀ q, q < k → sx xs i q = sx ys j q ∧ sx xs i q ≠ 0) → k ≤ sh)
    (f dp : Nat) (hdf : dp + (f + 1) = 6)
    (hrec : dp < 5 → ∀ (lo hi a b : Nat) (μ : Mem) (pf : Nat → Nat × Nat), lo < hi → hi ≤ xs.length → a < b → b ≤ ys.length → (∀ i j, lo ≤ i → i < hi → a ≤ j → j < b → ∀ q, q < dp + 1 → sx xs i q = sx ys j q ∧ sx xs i q ≠ 0) → OffW xs ys cf mf sh w s μ → PrAt μ w s xs.length pf → (∀ i, i < xs.length → bdP (pf i)) →
      Rn lay (d + f + 1) mWe_offerAlike [rf 14 w, vi (nI s), vi (nI (dp + 1)), vi (nI lo), vi (nI hi), vi (nI a), vi (nI b)] μ (Pn (OffQ xs ys cf mf sh w s f (dp + 1) lo hi a b pf μ)))
    (lo hi a b : Nat) (μ : Mem) (pf : Nat → Nat × Nat) (hlh : lo < hi) (hhx : hi ≤ xs.length) (hab : a < b) (hby : b ≤ ys.length) (hcx : ∀ i j, lo ≤ i → i < hi → a ≤ j → j < b → ∀ q, q < dp → sx xs i q = sx ys j q ∧ sx xs i q ≠ 0) (hW : OffW xs ys cf mf sh w s μ) (hpr : PrAt μ w s xs.length pf) (hbd : ∀ i, i < xs.length → bdP (pf i)) :
    Rn lay (d + f + 2) mWe_offerAlike [rf 14 w, vi (nI s), vi (nI dp), vi (nI lo), vi (nI hi), vi (nI a), vi (nI b)] μ (Pn (OffQ xs ys cf mf sh w s (f + 1) dp lo hi a b pf μ)) := by
  have hX : ∀ i, i < xs.length → oks (xs.getD i []) := fun i hi => by
    rw [List.getD, List.getElem?_eq_getElem hi]
    exact hxo _ (List.getElem_mem hi)
  have hY : ∀ i, i < ys.length → oks (ys.getD i []) := fun i hi => by
    rw [List.getD, List.getElem?_eq_getElem hi]
    exact hyo _ (List.getElem_mem hi)
  have hcpx : ∀ i j, lo ≤ i → i < hi → lo ≤ j → j < hi → ∀ q, q < dp → sx xs i q = sx xs j q := fun i j h1 h2 h3 h4 q hq => (hcx i a h1 h2 (Nat.le_refl _) hab q hq).1.trans (hcx j a h3 h4 (Nat.le_refl _) hab q hq).1.symm
  have hcpy : ∀ i j, a ≤ i → i < b → a ≤ j → j < b → ∀ q, q < dp → sx ys i q = sx ys j q := fun i j h1 h2 h3 h4 q hq => (hcx lo i (Nat.le_refl _) hlh h1 h2 q hq).1.symm.trans (hcx lo j (Nat.le_refl _) hlh h3 h4 q hq).1
  have mX : ∀ {i j : Nat}, lo ≤ i → i ≤ j → j < hi → sx xs i dp ≤ sx xs j dp := fun h1 h2 h3 => hLx.mono hcpx hhx h1 h2 h3
  have mY : ∀ {i j : Nat}, a ≤ i → i ≤ j → j < b → sx ys i dp ≤ sx ys j dp := fun h1 h2 h3 => hLy.mono hcpy hby h1 h2 h3
  have hdsh : dp ≤ sh := hsh lo a dp (by omega) (by omega) (fun q hq => hcx lo a (Nat.le_refl _) hlh (Nat.le_refl _) hab q hq)
  obtain ⟨-, hRy, hco, hma, h5⟩ := id hW
  have hch := chU_le cf a (b - a)
  have hmn := mnU_le cf mf a (chU cf a (b - a)) (b - a)
  refine Rn_intro ok_We_offerAlike hwf rfl (fun G hC => g_We_offerAlike_0 hC ?_)
  rw [nx_0, nI_add, nx_lt (by omega) (by omega), nx_lt (by omega) (by omega), nx_lt (by omega) (by omega)]
  refine ⟨fun z => absurd z (by omega), fun _ => ⟨fun z => absurd z (by omega), fun _ => ⟨fun _ => ?_, fun z => absurd hs z⟩⟩⟩
  refine useV (cheapest_ok hwf _ hs hyl hco hcb (Nat.le_of_lt hab) hby) ?_
  refine useV (mannersOf_ok hwf _ hs hyl hco hcb hma hmb (Nat.le_of_lt hab) hby (by omega)) ?_
  generalize hcost : chU cf a (b - a) = cost at hch hmn ⊢
  generalize hmany : mnU cf mf a cost (b - a) = many at hmn ⊢
  have hOff1 : ∀ (x : List Nat) (st : Nat × Nat), (dig x dp = 0 ∨ ∀ j, a ≤ j → j < b → sx ys j dp ≠ dig x dp) → OffR ys cf mf sh x (f + 1) dp a b st (offP st (cost + sh - dp) many) := fun x st h => by
    refine Or.inl ⟨h, ?_⟩
    rw [hcost, hmany]
  -- the merge
  have l90 : ∀ n i j st (μ' : Mem) (pfc : Nat → Nat × Nat), (hi - i) + (b - j) ≤ n → lo ≤ i → i ≤ hi → a ≤ j → j ≤ b → st ≤ (i - lo) + (j - a) → FrC w s μ μ' → PrAt μ' w s xs.length pfc → (∀ q, q < xs.length → bdP (pfc q)) → (∀ q, lo ≤ q → q < i → OffR ys cf mf sh (xs.getD q []) (f + 1) dp a b (pf q) (pfc q)) → (∀ q, i ≤ q → q < hi → pfc q = offP (pf q) (cost + sh - dp) many) → (∀ q, ¬ (lo ≤ q ∧ q < hi) → pfc q = pf q) → (∀ y q, a ≤ y → y < j → i ≤ q → q < hi → sx ys y dp < sx xs q dp) → G 90 [rf 14 w, vi (nI s), vi (nI dp), un, vi (nI hi), un, vi (nI b), un, un, vi (nI i), vi (nI j), vi (nI st), un, un, un, un] [] μ' := by
    intro n
    induction n with
    | zero =>
      intro i j st μ' pfc hn h1 h2 h3 h4 hst hf hp hb hdone hrest hout hlow
      refine g_We_offerAlike_90 hC ?_
      have fin : (Pn (OffQ xs ys cf mf sh w s (f + 1) dp lo hi a b pf μ)) none μ' := ⟨rfl, pfc, hp, hb, fun q q1 q2 => hdone q q1 (by omega), hout, hf⟩
      rw [nx_le (by omega) (by omega), nx_le (by omega) (by omega)]
      exact ⟨fun _ => fin, fun _ => ⟨fun _ => fin, fun z => absurd (by omega) z⟩⟩
    | succ n ihn =>
      intro i j st μ' pfc hn h1 h2 h3 h4 hst hf hp hb hdone hrest hout hlow
      have fin : (i = hi ∨ j = b) → (Pn (OffQ xs ys cf mf sh w s (f + 1) dp lo hi a b pf μ)) none μ' := fun hij => by
        refine ⟨rfl, pfc, hp, hb, fun q q1 q2 => ?_, hout, hf⟩
        rcases Nat.lt_or_ge q i with z | z
        · exact hdone q q1 z
        · rcases hij with e | e
          · omega
          · rw [hrest q z q2]
            exact hOff1 _ _ (Or.inr (fun y y1 y2 y3 => by
              have := hlow y q y1 (by omega) z q2
              unfold sx at this y3
              omega))
      refine g_We_offerAlike_90 hC ?_
      rw [nx_le (by omega) (by omega), nx_le (by omega) (by omega), nx_le (by omega) (by omega)]
      refine ⟨fun z => fin (by omega), fun _ => ⟨fun z => fin (by omega), fun z1 => ⟨fun z => fin (by omega), fun z2 => ?_⟩⟩⟩
      have hi1 : i < hi := by omega
      have hj1 : j < b := by omega
      obtain ⟨hRx', hRy', -⟩ := id (hW.fr hf hs)
      simp (disch := omega) only [nx_cl, nx_in', hRx'.2 i (by omega)]
      refine ⟨by omega, by omega, ?_⟩
      refine useV (at_ok hwf _ (hX i (by omega)) (by omega) μ') ?_
      rw [nI_add]
      simp (disch := omega) only [nx_cl, nx_in', hRy'.2 j (by omega)]
      refine ⟨by omega, by omega, ?_⟩
      refine useV (at_ok hwf _ (hY j (by omega)) (by omega) μ') ?_
      have hEL := endOfLike_ok hwf (d + f) (μ := μ') (w := w) (s := s) (i := i) (hi := hi) (k := dp) (by omega) hxl hRx' hxo hi1 hhx (by omega)
      refine useV hEL ?_
      have hEL2 := endOfLike_ok hwf (d + f) (μ := μ') (w := w) (s := s + 1) (i := j) (hi := b) (k := dp) (by omega) hyl hRy' hyo hj1 hby (by omega)
      refine useV hEL2 ?_
      obtain ⟨x1, x2, x3, x4⟩ := eol_at (xs := xs) (k := dp) (g := sx xs i dp) (hi := hi) (hi - (i + 1)) (i + 1) (by omega)
      obtain ⟨y1, y2, y3, y4⟩ := eol_at (xs := ys) (k := dp) (g := sx ys j dp) (hi := b) (b - (j + 1)) (j + 1) (by omega)
      generalize hiE : eol xs dp (dig (xs.getD i []) dp) hi (hi - (i + 1)) (i + 1) = iE at x1 x2 x3 x4 ⊢
      generalize hjE : eol ys dp (dig (ys.getD j []) dp) b (b - (j + 1)) (j + 1) = jE at y1 y2 y3 y4 ⊢
      have gx : ∀ q, i ≤ q → q < iE → sx xs q dp = sx xs i dp := fun q q1 q2 => by
        rcases Nat.lt_or_ge i q with z | z
        · exact x3 q z q2
        · rw [show q = i by omega]
      have gx2 : ∀ q, iE ≤ q → q < hi → sx xs i dp < sx xs q dp := fun q q1 q2 => by
        have e1 := x4 (by omega)
        have e2 := mX (i := i) (j := iE) h1 (by omega) (by omega)
        have e3 := mX (i := iE) (j := q) (by omega) q1 q2
        omega
      have gy : ∀ q, j ≤ q → q < jE → sx ys q dp = sx ys j dp := fun q q1 q2 => by
        rcases Nat.lt_or_ge j q with z | z
        · exact y3 q z q2
        · rw [show q = j by omega]
      have gy2 : ∀ q, jE ≤ q → q < b → sx ys j dp < sx ys q dp := fun q q1 q2 => by
        have e1 := y4 (by omega)
        have e2 := mY (i := j) (j := jE) h3 (by omega) (by omega)
        have e3 := mY (i := jE) (j := q) (by omega) q1 q2
        omega
      -- the turn of the heads
      have turn : ∀ (μ2 : Mem) (pf2 : Nat → Nat × Nat), FrC w s μ μ2 → PrAt μ2 w s xs.length pf2 → (∀ q, q < xs.length → bdP (pf2 q)) → (∀ q, lo ≤ q → q < i → pf2 q = pfc q) → (∀ q, iE ≤ q → pf2 q = pfc q) → (∀ q, ¬ (lo ≤ q ∧ q < hi) → pf2 q = pf q) → (sx ys j dp < sx xs i dp → ∀ q, i ≤ q → q < iE → pf2 q = pfc q) → (¬ sx ys j dp < sx xs i dp → ∀ q, i ≤ q → q < iE → OffR ys cf mf sh (xs.getD q []) (f + 1) dp a b (pf q) (pf2 q)) → G 199 [rf 14 w, vi (nI s), vi (nI dp), un, vi (nI hi), un, vi (nI b), un, un, vi (nI i), vi (nI j), vi (nI st), vi (atI (xs.getD i []) dp), vi (atI (ys.getD j []) dp), vi (nI iE), vi (nI jE)] [] μ2 := by
        intro μ2 pf2 hf2 hp2 hb2 hlo2 hhi2 hout2 hk2 hd2
        refine g_We_offerAlike_199 hC ?_
        rw [i_lt, i_lt, atI_ti (hX i (by omega)).2, atI_ti (hY j (by omega)).2, nI_add]
        refine ⟨fun u1 => ⟨fun u2 => by omega, fun u2 => ?_⟩, fun u1 => ⟨fun u2 => ?_, fun u2 => ?_⟩⟩
        · have hlt : sx ys j dp < sx xs i dp := by unfold sx; omega
          refine ihn i jE (st + 1) μ2 pf2 (by omega) h1 h2 (by omega) y2 (by omega) hf2 hp2 hb2 (fun q q1 q2 => by rw [hlo2 q q1 q2]; exact hdone q q1 q2) (fun q q1 q2 => ?_) hout2 (fun y q yy1 yy2 q1 q2 => ?_)
          · rcases Nat.lt_or_ge q iE with z | z
            · rw [hk2 hlt q q1 z]; exact hrest q q1 q2
            · rw [hhi2 q z]; exact hrest q q1 q2
          · rcases Nat.lt_or_ge y j with z | z
            · exact hlow y q yy1 z q1 q2
            · have e1 := gy y z yy2
              have e2 := mX (i := i) (j := q) h1 q1 q2
              omega
        · have hnl : ¬ sx ys j dp < sx xs i dp := by unfold sx; omega
          refine ihn iE j (st + 1) μ2 pf2 (by omega) (by omega) x2 h3 h4 (by omega) hf2 hp2 hb2 (fun q q1 q2 => ?_) (fun q q1 q2 => by rw [hhi2 q q1]; exact hrest q (by omega) q2) hout2 (fun y q yy1 yy2 q1 q2 => hlow y q yy1 yy2 (by omega) q2)
          rcases Nat.lt_or_ge q i with z | z
          · rw [hlo2 q q1 z]; exact hdone q q1 z
          · exact hd2 hnl q z q2
        · have hnl : ¬ sx ys j dp < sx xs i dp := by unfold sx; omega
          have heq : sx ys j dp = sx xs i dp := by unfold sx; omega
          refine ihn iE jE (st + 1) μ2 pf2 (by omega) (by omega) x2 (by omega) y2 (by omega) hf2 hp2 hb2 (fun q q1 q2 => ?_) (fun q q1 q2 => by rw [hhi2 q q1]; exact hrest q (by omega) q2) hout2 (fun y q yy1 yy2 q1 q2 => ?_)
          · rcases Nat.lt_or_ge q i with z | z
            · rw [hlo2 q q1 z]; exact hdone q q1 z
            · exact hd2 hnl q z q2
          · have e1 := gx2 q q1 q2
            rcases Nat.lt_or_ge y j with z | z
            · have := hlow y i yy1 z (Nat.le_refl _) hi1
              omega
            · have := gy y z yy2
              omega
      -- no going deeper
      have plain : (sx ys j dp ≠ sx xs i dp ∨ sx xs i dp = 0) → G 199 [rf 14 w, vi (nI s), vi (nI dp), un, vi (nI hi), un, vi (nI b), un, un, vi (nI i), vi (nI j), vi (nI st), vi (atI (xs.getD i []) dp), vi (atI (ys.getD j []) dp), vi (nI iE), vi (nI jE)] [] μ' := fun hne => by
        refine turn μ' pfc hf hp hb (fun _ _ _ => rfl) (fun _ _ => rfl) hout (fun _ _ _ _ => rfl) (fun hnl q q1 q2 => ?_)
        rw [hrest q q1 (by omega)]
        refine hOff1 _ _ ?_
        have e1 := gx q q1 q2
        rcases hne with hne | hne
        · refine Or.inr (fun y yy1 yy2 yy3 => ?_)
          have e3 : sx ys y dp = sx xs i dp := by unfold sx at *; omega
          rcases Nat.lt_or_ge y j with z | z
          · have := hlow y i yy1 z (Nat.le_refl _) hi1
            omega
          · have := mY (i := j) (j := y) h3 z yy2
            omega
        · refine Or.inl ?_
          unfold sx at *
          omega
      rw [atI_eq (hX i (by omega)).2 (hY j (by omega)).2]
      refine ⟨fun u => plain (Or.inl (fun e => u e.symm)), fun u => ⟨fun u2 => plain (Or.inr ?_), fun u2 => ?_⟩⟩
      · have := atI_ti (k := dp) (hX i (by omega)).2
        rw [u2] at this
        have e0 : (mI 0).toInt = -1 := by decide
        unfold sx
        omega
      · have hd0 : sx xs i dp ≠ 0 := fun e => u2 (by
          unfold sx dig at e
          unfold atI
          split at e
          · omega
          · next hq => rfl)
        have hdp5 : dp < 5 := by
          rcases Nat.lt_or_ge dp 5 with q | q
          · exact q
          · exfalso
            apply hd0
            unfold sx dig
            rw [List.getElem?_eq_none (by have := (hX i (by omega)).1; omega)]
        have heq : sx ys j dp = sx xs i dp := u.symm
        have hr := hrec hdp5 i iE j jE μ' pfc (by omega) (by omega) (by omega) (by omega) (fun q y q1 q2 yy1 yy2 k hk => by
          rcases Nat.lt_or_ge k dp with z | z
          · exact hcx q y (by omega) (by omega) (by omega) (by omega) k z
          · rw [show k = dp by omega, gx q q1 q2, gy y yy1 yy2]
            exact ⟨heq.symm, hd0⟩) (hW.fr hf hs) hp hb
        rw [← nI_add] at hr
        refine useN hr (fun μ2 hq => ?_)
        obtain ⟨pf2, r1, r2, r3, r4, r5⟩ := hq
        refine turn μ2 pf2 (hf.tr r5) r1 r2 (fun q q1 q2 => r4 q (by omega)) (fun q q1 => r4 q (by omega)) (fun q hq => by rw [r4 q (by omega)]; exact hout q hq) (fun hlt => by omega) (fun _ q q1 q2 => ?_)
        have := r3 q q1 q2
        rw [hrest q q1 (by omega)] at this
        have e1 := gx q q1 q2
        refine Or.inr ⟨by unfold sx at *; omega, j, jE, h3, by omega, y2, fun y yy1 yy2 => ⟨fun e => ?_, fun e => ?_⟩, ?_⟩
        · have e3 : sx ys y dp = sx xs i dp := by unfold sx at *; omega
          refine ⟨?_, ?_⟩
          · rcases Nat.lt_or_ge y j with z | z
            · have := hlow y i yy1 z (Nat.le_refl _) hi1
              omega
            · exact z
          · rcases Nat.lt_or_ge y jE with z | z
            · exact z
            · have := gy2 y z yy2
              omega
        · have := gy y e.1 e.2
          unfold sx at *
          omega
        · rw [hcost, hmany]
          exact this
  -- the offers at this depth
  have l49 : ∀ n i (μ' : Mem) (pfc : Nat → Nat × Nat), i + n = hi → lo ≤ i → FrC w s μ μ' → PrAt μ' w s xs.length pfc → (∀ q, q < xs.length → bdP (pfc q)) → (∀ q, lo ≤ q → q < i → pfc q = offP (pf q) (cost + sh - dp) many) → (∀ q, ¬ (lo ≤ q ∧ q < i) → pfc q = pf q) → G 49 [rf 14 w, vi (nI s), vi (nI dp), vi (nI lo), vi (nI hi), vi (nI a), vi (nI b), vi (nI cost), vi (nI many), vi (nI i), un, un, un, un, un, un] [] μ' := by
    intro n
    induction n with
    | zero =>
      intro i μ' pfc hn h1 hf hp hb hdn hot
      refine g_We_offerAlike_49 hC ?_
      rw [nx_le (by omega) (by omega)]
      refine ⟨fun _ => ?_, fun z => absurd (by omega) z⟩
      exact l90 _ lo a 0 μ' pfc (Nat.le_refl _) (Nat.le_refl _) (by omega) (Nat.le_refl _) (by omega) (by omega) hf hp hb (fun q q1 q2 => by omega) (fun q q1 q2 => hdn q q1 (by omega)) (fun q hq => hot q (by omega)) (fun y q y1 y2 => by omega)
    | succ n ihn =>
      intro i μ' pfc hn h1 hf hp hb hdn hot
      have h5' : μ'.1 w 5 = nI sh := (hW.fr hf hs).2.2.2.2
      obtain ⟨c1, c2⟩ := hb i (by omega)
      refine g_We_offerAlike_49 hC ?_
      rw [nx_le (by omega) (by omega), h5', nI_add, nx_sub (by omega), nI_add]
      refine ⟨fun z => absurd z (by omega), fun _ => ?_⟩
      refine useN (offer_ok hwf _ (by omega) hxl hp (by omega) c1 c2 (by omega) hmn) (fun μ1 hq => ?_)
      obtain ⟨q1, q2⟩ := hq
      have epi : pfc i = pf i := hot i (by omega)
      refine ihn (i + 1) μ1 _ (by omega) (by omega) (hf.tr q2) q1 (fun q hq => ?_) (fun q r1 r2 => ?_) (fun q hq => ?_)
      · split
        · exact offP_bd (hb i (by omega)) (by omega) hmn
        · exact hb q hq
      · split
        · next e => rw [e, epi]
        · exact hdn q r1 (by omega)
      · rw [if_neg (by omega)]
        exact hot q (by omega)
  exact l49 (hi - lo) lo μ pf (by omega) (Nat.le_refl _) (FrC.rf _ _ _) hpr hbd (fun q q1 q2 => by omega) (fun q hq => rfl)
theorem offerAlike_ok {lay : List Nat} (hwf : wfB lay = true) (d : Nat) {w s sh : Nat} {xs ys : List (List Nat)} {cf mf : Nat → Nat} (hs : s + 1 < 15) (hxl : xs.length ≤ 120) (hyl : ys.length ≤ 120) (hxo : ∀ x ∈ xs, oks x) (hyo : ∀ x ∈ ys, oks x) (hLx : Lx xs) (hLy : Lx ys) (hcb : ∀ i, i < ys.length → cf i < 2147483648) (hmb : ∀ i, i < ys.length → mf i ≤ 1000000000) (hsh8 : sh ≤ 8)
    (hsh : ∀ i j k, i < xs.length → j < ys.length → (∀ q, q < k → sx xs i q = sx ys j q ∧ sx xs i q ≠ 0) → k ≤ sh) :
    ∀ (f dp lo hi a b : Nat) (μ : Mem) (pf : Nat → Nat × Nat), dp + (f + 1) = 6 → lo < hi → hi ≤ xs.length → a < b → b ≤ ys.length → (∀ i j, lo ≤ i → i < hi → a ≤ j → j < b → ∀ q, q < dp → sx xs i q = sx ys j q ∧ sx xs i q ≠ 0) → OffW xs ys cf mf sh w s μ → PrAt μ w s xs.length pf → (∀ i, i < xs.length → bdP (pf i)) →
      Rn lay (d + f + 2) mWe_offerAlike [rf 14 w, vi (nI s), vi (nI dp), vi (nI lo), vi (nI hi), vi (nI a), vi (nI b)] μ (Pn (OffQ xs ys cf mf sh w s (f + 1) dp lo hi a b pf μ)) := by
  intro f
  induction f with
  | zero =>
    intro dp lo hi a b μ pf hdf h1 h2 h3 h4 h5 h6 h7 h8
    exact off_body hwf d hs hxl hyl hxo hyo hLx hLy hcb hmb hsh8 hsh 0 dp hdf (fun q => by omega) lo hi a b μ pf h1 h2 h3 h4 h5 h6 h7 h8
  | succ f ih =>
    intro dp lo hi a b μ pf hdf h1 h2 h3 h4 h5 h6 h7 h8
    exact off_body hwf d hs hxl hyl hxo hyo hLx hLy hcb hmb hsh8 hsh (f + 1) dp hdf (fun _ lo hi a b μ pf => ih (dp + 1) lo hi a b μ pf (by omega)) lo hi a b μ pf h1 h2 h3 h4 h5 h6 h7 h8
end
section
/-! all stacks of a set of ranges, by ranks: what the list of them is -/
theorem nd_le {l m : List Nat} (hl : l.Nodup) (h : ∀ x ∈ l, x ∈ m) : l.length ≤ m.length := by
  induction l generalizing m with
  | nil => simp
  | cons a l ih =>
    have ha := h a List.mem_cons_self
    obtain ⟨h1, h2⟩ := List.nodup_cons.mp hl
    have := ih (m := m.erase a) h2 (fun x hx => (List.mem_erase_of_ne (show x ≠ a from fun e => h1 (by rw [← e]; exact hx))).mpr (h x (List.mem_cons_of_mem _ hx)))
    rw [List.length_erase_of_mem ha] at this
    have hp := List.length_pos_of_mem ha
    simp only [List.length_cons]
    omega
def bts (c : Nat) : List Nat := (List.range 8).filter (fun j => c.testBit j)
theorem bts_mem {c r : Nat} : r ∈ bts c ↔ r < 8 ∧ c.testBit r = true := by
  unfold bts
  rw [List.mem_filter, List.mem_range]
theorem bts_nd (c : Nat) : (bts c).Nodup := (List.nodup_range (n := 8)).sublist List.filter_sublist
theorem popN_bts (c : Nat) : popN c = (bts c).length := rfl
theorem clr_bit : ∀ r, r < 8 → ∀ c, c < 256 → ∀ j, j < 8 → ((clr c r).testBit j = true ↔ c.testBit j = true ∧ j ≠ r) := by decide +kernel
theorem popN_clr : ∀ r, r < 8 → ∀ c, c < 256 → c.testBit r = true → popN (clr c r) + 1 = popN c := by decide +kernel
theorem popN_0 : ∀ c, c < 256 → (popN c = 0 ↔ c = 0) := by decide +kernel
/-- a stack of all ranges of c, in any order -/
def isSt (c : Nat) (t : List Nat) : Prop := t.Nodup ∧ ∀ r, r ∈ t ↔ r < 8 ∧ c.testBit r = true
theorem isSt.len {c : Nat} {t : List Nat} (h : isSt c t) : t.length = popN c := Nat.le_antisymm (nd_le h.1 (fun x hx => bts_mem.mpr ((h.2 x).mp hx))) (nd_le (bts_nd c) (fun x hx => (h.2 x).mpr (bts_mem.mp hx)))
theorem isSt.ok {c : Nat} {t : List Nat} (h : isSt c t) (hp : popN c ≤ 5) : oks t := ⟨by rw [h.len]; exact hp, fun r hr => ((h.2 r).mp hr).1⟩
theorem dfs_mem (rk : Nat → Nat) : ∀ (f c : Nat) (p z : List Nat), c < 256 → z ∈ dfsF rk f c p → ∃ t, z = p ++ t ∧ isSt c t
  | 0, c, p, z, hc, h => by
    unfold dfsF at h
    split at h
    · next e =>
      subst e
      simp at h
      exact ⟨[], by simp [h], List.nodup_nil, fun r => by simp⟩
    · cases h
  | f + 1, c, p, z, hc, h => by
    unfold dfsF at h
    split at h
    · next e =>
      subst e
      simp at h
      exact ⟨[], by simp [h], List.nodup_nil, fun r => by simp⟩
    · obtain ⟨r, hr, h⟩ := List.mem_flatMap.mp h
      have hr := List.mem_range.mp hr
      split at h
      · next hb =>
        obtain ⟨t, h1, h2, h3⟩ := dfs_mem rk f (clr c r) (p ++ [r]) z (clr_lt hc) h
        refine ⟨r :: t, by rw [h1]; simp, List.nodup_cons.mpr ⟨fun q => ?_, h2⟩, fun q => ?_⟩
        · have := (h3 r).mp q
          exact ((clr_bit r hr c hc r hr).mp this.2).2 rfl
        · constructor
          · intro hq
            rcases List.mem_cons.mp hq with e | e
            · rw [e]; exact ⟨hr, hb.1⟩
            · have := (h3 q).mp e
              exact ⟨this.1, ((clr_bit r hr c hc q this.1).mp this.2).1⟩
          · rintro ⟨q1, q2⟩
            by_cases e : q = r
            · rw [e]; exact List.mem_cons_self
            · exact List.mem_cons_of_mem _ ((h3 q).mpr ⟨q1, (clr_bit r hr c hc q q1).mpr ⟨q2, e⟩⟩)
      · cases h
theorem mrU_at {rk : Nat → Nat} (hrk : ∀ r, r < 8 → rk r < 4) (c : Nat) : ∀ i, i ≤ 8 → (∀ r, r < i → c.testBit r = true → mrU rk c i ≤ rk r) ∧ ((∃ r, r < i ∧ c.testBit r = true) → ∃ r, r < i ∧ c.testBit r = true ∧ rk r = mrU rk c i)
  | 0, _ => ⟨fun r hr => by omega, fun ⟨r, hr, _⟩ => by omega⟩
  | i + 1, hi => by
    obtain ⟨h1, h2⟩ := mrU_at hrk c i (by omega)
    unfold mrU
    split
    · next hb =>
      refine ⟨fun r hr hr2 => ?_, fun ⟨r, hr, hr2⟩ => ?_⟩
      · by_cases e : r = i
        · rw [e, hb] at hr2; cases hr2
        · exact h1 r (by omega) hr2
      · have hri : r ≠ i := fun e => by rw [e, hb] at hr2; cases hr2
        obtain ⟨q, q1, q2, q3⟩ := h2 ⟨r, by omega, hr2⟩
        exact ⟨q, by omega, q2, q3⟩
    · next hb =>
      have hb2 : c.testBit i = true := by simpa using hb
      split
      · next hlt =>
        refine ⟨fun r hr hr2 => ?_, fun _ => ⟨i, by omega, hb2, rfl⟩⟩
        by_cases e : r = i
        · rw [e]; exact Nat.le_refl _
        · have := h1 r (by omega) hr2
          omega
      · next hlt =>
        refine ⟨fun r hr hr2 => ?_, fun _ => ?_⟩
        · by_cases e : r = i
          · rw [e]; omega
          · exact h1 r (by omega) hr2
        · by_cases hex : ∃ r, r < i ∧ c.testBit r = true
          · obtain ⟨q, q1, q2, q3⟩ := h2 hex
            exact ⟨q, by omega, q2, q3⟩
          · refine ⟨i, by omega, hb2, ?_⟩
            have hz : ∀ j, j ≤ i → mrU rk c j = 4 := by
              intro j
              induction j with
              | zero => intro _; rfl
              | succ j ihj =>
                intro hj
                unfold mrU
                have hbj : c.testBit j = false := by
                  cases hq : c.testBit j with
                  | false => rfl
                  | true => exact absurd ⟨j, by omega, hq⟩ hex
                rw [if_pos hbj]
                exact ihj (by omega)
            have := hz i (Nat.le_refl _)
            have := hrk i (by omega)
            omega
theorem ne0_bit : ∀ c, c < 256 → c ≠ 0 → ∃ r, r < 8 ∧ c.testBit r = true := by decide +kernel
theorem dfs_ne {rk : Nat → Nat} (hrk : ∀ r, r < 8 → rk r < 4) : ∀ (f c : Nat) (p : List Nat), c < 256 → popN c ≤ f → 0 < (dfsF rk f c p).length
  | 0, c, p, hc, h => by
    unfold dfsF
    rw [if_pos ((popN_0 c hc).mp (by omega))]
    simp
  | f + 1, c, p, hc, h => by
    unfold dfsF
    split
    · simp
    · next h0 =>
      obtain ⟨r, h1, h2, h3⟩ := (mrU_at hrk c 8 (Nat.le_refl _)).2 (ne0_bit c hc h0)
      have hp := popN_clr r h1 c hc h2
      have ih := dfs_ne hrk f (clr c r) (p ++ [r]) (clr_lt hc) (by omega)
      obtain ⟨z, hz⟩ : ∃ z, z ∈ dfsF rk f (clr c r) (p ++ [r]) := by
        cases hd : dfsF rk f (clr c r) (p ++ [r]) with
        | nil => rw [hd] at ih; simp at ih
        | cons z l => exact ⟨z, List.mem_cons_self⟩
      exact List.length_pos_of_mem (List.mem_flatMap.mpr ⟨r, List.mem_range.mpr h1, by rw [if_pos ⟨h2, h3⟩]; exact hz⟩)
def fac : Nat → Nat
  | 0 => 1
  | n + 1 => (n + 1) * fac n
theorem flat_len {P : Nat → Bool} {F : Nat → List (List Nat)} {B : Nat} : ∀ l : List Nat, (∀ r, r ∈ l → P r = true → (F r).length ≤ B) → (∀ r, r ∈ l → P r = false → F r = []) → (l.flatMap F).length ≤ (l.filter P).length * B
  | [], _, _ => by simp
  | a :: l, h1, h2 => by
    have ih := flat_len (P := P) (F := F) (B := B) l (fun r hr => h1 r (List.mem_cons_of_mem _ hr)) (fun r hr => h2 r (List.mem_cons_of_mem _ hr))
    rw [List.flatMap_cons, List.length_append]
    cases hp : P a with
    | true =>
      rw [List.filter_cons_of_pos hp, List.length_cons, Nat.succ_mul]
      have := h1 a List.mem_cons_self hp
      omega
    | false =>
      rw [List.filter_cons_of_neg (by rw [hp]; simp), h2 a List.mem_cons_self hp]
      simpa using ih
theorem dfs_len (rk : Nat → Nat) : ∀ (f c : Nat) (p : List Nat), c < 256 → (dfsF rk f c p).length ≤ fac (popN c)
  | 0, c, p, hc => by
    unfold dfsF
    split
    · next e =>
      rw [e]
      exact (by decide : 1 ≤ fac (popN 0))
    · simp
  | f + 1, c, p, hc => by
    unfold dfsF
    split
    · next e =>
      rw [e]
      exact (by decide : 1 ≤ fac (popN 0))
    · next h0 =>
      have hpos : popN c ≠ 0 := fun q => h0 ((popN_0 c hc).mp q)
      have h := flat_len (P := fun j => c.testBit j) (F := fun r => if c.testBit r = true ∧ rk r = mr rk c then dfsF rk f (clr c r) (p ++ [r]) else []) (B := fac (popN c - 1)) (List.range 8) (fun r hr hb => by
        split
        · have := dfs_len rk f (clr c r) (p ++ [r]) (clr_lt hc)
          have hq := popN_clr r (List.mem_range.mp hr) c hc hb
          rw [show popN c - 1 = popN (clr c r) by omega]
          exact this
        · simp) (fun r hr hb => by
        rw [if_neg (by rw [hb]; simp)])
      have e : fac (popN c) = popN c * fac (popN c - 1) := by
        rw [show popN c = (popN c - 1) + 1 by omega]
        rfl
      rw [e]
      exact h
theorem lex_pre {p x y : List Nat} {a b : Nat} (h : a < b) : lexlt (p ++ [a] ++ x) (p ++ [b] ++ y) := by
  refine ⟨p.length, fun q hq => ?_, ?_⟩
  · unfold dig
    rw [List.append_assoc, List.append_assoc, List.getElem?_append_left hq, List.getElem?_append_left hq]
  · unfold dig
    simp
    exact h
theorem dfs_lex (rk : Nat → Nat) : ∀ (f c : Nat) (p : List Nat), c < 256 → (dfsF rk f c p).Pairwise lexlt
  | 0, c, p, hc => by
    unfold dfsF
    split <;> simp
  | f + 1, c, p, hc => by
    unfold dfsF
    split
    · simp
    · refine List.pairwise_flatMap.mpr ⟨fun r hr => ?_, ?_⟩
      · split
        · exact dfs_lex rk f _ _ (clr_lt hc)
        · exact List.Pairwise.nil
      · refine List.Pairwise.imp ?_ List.pairwise_lt_range
        intro a b hab x hx y hy
        split at hx
        · split at hy
          · obtain ⟨t, h1, -⟩ := dfs_mem rk f _ _ x (clr_lt hc) hx
            obtain ⟨u, h2, -⟩ := dfs_mem rk f _ _ y (clr_lt hc) hy
            rw [h1, h2]
            exact lex_pre hab
          · cases hy
        · cases hx
/-- the stacks of the ranges of c -/
def stk (rk : Nat → Nat) (c : Nat) : List (List Nat) := dfsF rk 5 c []
theorem stk_st {rk : Nat → Nat} {c : Nat} (hc : c < 256) {x : List Nat} (h : x ∈ stk rk c) : isSt c x := by
  obtain ⟨t, h1, h2⟩ := dfs_mem rk 5 c [] x hc h
  rw [h1]
  exact h2
theorem stk_len {rk : Nat → Nat} {c : Nat} (hc : c < 256) (hp : popN c ≤ 5) : (stk rk c).length ≤ 120 := by
  have := dfs_len rk 5 c [] hc
  have h2 : ∀ n, n ≤ 5 → fac n ≤ 120 := by decide
  exact Nat.le_trans this (h2 _ hp)
theorem stk_pos {rk : Nat → Nat} (hrk : ∀ r, r < 8 → rk r < 4) {c : Nat} (hc : c < 256) (hp : popN c ≤ 5) : 0 < (stk rk c).length := dfs_ne hrk 5 c [] hc hp
theorem stk_lex {rk : Nat → Nat} {c : Nat} (hc : c < 256) : Lx (stk rk c) := by
  intro i j hij hj
  have h := List.pairwise_iff_getElem.mp (dfs_lex rk 5 c [] hc) i j (by show i < (stk rk c).length; omega) hj hij
  rw [List.getD, List.getD, List.getElem?_eq_getElem (show i < (stk rk c).length by omega), List.getElem?_eq_getElem hj]
  exact h
theorem stk_get {rk : Nat → Nat} {c i : Nat} (hi : i < (stk rk c).length) : (stk rk c).getD i [] ∈ stk rk c := by
  rw [List.getD, List.getElem?_eq_getElem hi]
  exact List.getElem_mem hi
theorem dig_at {l : List Nat} {k : Nat} (h : dig l k ≠ 0) : ∃ r, l[k]? = some r ∧ dig l k = r + 1 := by
  unfold dig at h ⊢
  cases hq : l[k]? with
  | none => rw [hq] at h; exact absurd rfl h
  | some r => exact ⟨r, rfl, rfl⟩
/-- with as many ranges two stacks can begin alike at most -/
theorem st_share {c c' : Nat} {x y : List Nat} (hx : isSt c x) (hy : isSt c' y) {k : Nat} (h : ∀ q, q < k → dig x q = dig y q ∧ dig x q ≠ 0) : k ≤ popN (c &&& c') := by
  have hkl : k ≤ x.length := by
    rcases Nat.lt_or_ge x.length k with q | q
    · obtain ⟨r, h1, -⟩ := dig_at (h x.length q).2
      rw [List.getElem?_eq_none (Nat.le_refl _)] at h1
      cases h1
    · exact q
  have hn : (x.take k).Nodup := hx.1.sublist (List.take_sublist k x)
  have := nd_le hn (m := bts (c &&& c')) (fun r hr => by
    obtain ⟨q, hq⟩ := List.getElem?_of_mem hr
    rw [List.getElem?_take] at hq
    split at hq
    · next hqk =>
      have hd : dig x q = r + 1 := by unfold dig; rw [hq]
      have hd2 := (h q hqk).1
      obtain ⟨r2, e1, e2⟩ := dig_at (l := y) (k := q) (by omega)
      have hr2 : r2 = r := by omega
      subst hr2
      have m1 := (hx.2 r2).mp (List.mem_of_getElem? hq)
      have m2 := (hy.2 r2).mp (List.mem_of_getElem? e1)
      exact bts_mem.mpr ⟨m1.1, by rw [Nat.testBit_and, m1.2, m2.2]; rfl⟩
    · cases hq)
  rw [List.length_take, Nat.min_eq_left hkl] at this
  exact this
end
section
/-! what all offers together come to: the least cost, and all manners that have it -/
def cap (x : Nat) : Nat := if x < 1000000000 then x else 1000000000
theorem cap_le (x : Nat) : cap x ≤ 1000000000 := by unfold cap; split <;> omega
theorem cap_cap (a b : Nat) : cap (cap a + cap b) = cap (a + b) := by
  unfold cap
  repeat' split
  all_goals omega
theorem cap_l (a b : Nat) : cap (cap a + b) = cap (a + b) := by
  unfold cap
  repeat' split
  all_goals omega
theorem cap_r (a b : Nat) : cap (a + cap b) = cap (a + b) := by
  unfold cap
  repeat' split
  all_goals omega
def smN (p : Nat → Bool) (mf : Nat → Nat) : Nat → Nat
  | 0 => 0
  | n + 1 => smN p mf n + (if p n = true then mf n else 0)
theorem smN_cong {p q : Nat → Bool} {mf : Nat → Nat} : ∀ {n : Nat}, (∀ j, j < n → p j = q j) → smN p mf n = smN q mf n
  | 0, _ => rfl
  | n + 1, h => by
    unfold smN
    rw [smN_cong (fun j hj => h j (by omega)), h n (by omega)]
theorem smN_or {p q r : Nat → Bool} {mf : Nat → Nat} : ∀ {n : Nat}, (∀ j, j < n → (p j = true ↔ (q j = true ∨ r j = true)) ∧ ¬ (q j = true ∧ r j = true)) → smN p mf n = smN q mf n + smN r mf n
  | 0, _ => rfl
  | n + 1, h => by
    have ih := smN_or (p := p) (q := q) (r := r) (mf := mf) (n := n) (fun j hj => h j (by omega))
    obtain ⟨h1, h2⟩ := h n (by omega)
    unfold smN
    rw [ih]
    by_cases a : q n = true
    · have b : ¬ r n = true := fun z => h2 ⟨a, z⟩
      rw [if_pos a, if_neg b, if_pos (h1.mpr (Or.inl a))]
      omega
    · by_cases b : r n = true
      · rw [if_neg a, if_pos b, if_pos (h1.mpr (Or.inr b))]
        omega
      · rw [if_neg a, if_neg b, if_neg (fun z => (h1.mp z).elim a b)]
        omega
theorem smN_none {p : Nat → Bool} {mf : Nat → Nat} : ∀ {n : Nat}, (∀ j, j < n → p j = false) → smN p mf n = 0
  | 0, _ => rfl
  | n + 1, h => by
    unfold smN
    rw [smN_none (fun j hj => h j (by omega)), h n (by omega)]
    rfl
/-- within a to b, with value v -/
def inV (F : Nat → Nat) (a b v : Nat) : Nat → Bool := fun j => decide (a ≤ j ∧ j < b ∧ F j = v)
theorem inV_t {F : Nat → Nat} {a b v j : Nat} : inV F a b v j = true ↔ a ≤ j ∧ j < b ∧ F j = v := by unfold inV; rw [decide_eq_true_eq]
theorem mnU_sm (cf mf : Nat → Nat) (a c : Nat) {L : Nat} : ∀ n, a + n ≤ L → mnU cf mf a c n = cap (smN (inV cf a (a + n) c) mf L)
  | 0, h => by
    rw [smN_none (fun j _ => by unfold inV; rw [decide_eq_false_iff_not]; omega)]
    rfl
  | n + 1, h => by
    have ih := mnU_sm cf mf a c (L := L) n (by omega)
    unfold mnU
    by_cases e : cf (a + n) = c
    · rw [if_pos e, ih]
      have hs : smN (inV cf a (a + (n + 1)) c) mf L = smN (inV cf a (a + n) c) mf L + smN (fun j => decide (j = a + n)) mf L := smN_or (fun j hj => by
        rw [inV_t, inV_t, decide_eq_true_eq]
        constructor
        · constructor
          · intro q
            by_cases z : j = a + n
            · exact Or.inr z
            · exact Or.inl ⟨q.1, by omega, q.2.2⟩
          · rintro (q | q)
            · exact ⟨q.1, by omega, q.2.2⟩
            · rw [q]; exact ⟨by omega, by omega, e⟩
        · omega)
      have h1 : ∀ m, m ≤ a + n → smN (fun j => decide (j = a + n)) mf m = 0 := fun m hm => smN_none (fun j hj => by rw [decide_eq_false_iff_not]; omega)
      have h2 : ∀ m, a + n < m → smN (fun j => decide (j = a + n)) mf m = mf (a + n) := by
        intro m
        induction m with
        | zero => intro q; omega
        | succ m ihm =>
          intro q
          unfold smN
          by_cases z : m = a + n
          · rw [z, h1 _ (Nat.le_refl _)]
            simp
          · rw [ihm (by omega), if_neg (by rw [decide_eq_true_eq]; exact z)]
            omega
      rw [hs, h2 L (by omega), ← cap_l]
      rfl
    · rw [if_neg e, ih]
      congr 1
      exact smN_cong (fun j hj => by
        unfold inV
        rw [decide_eq_decide]
        constructor
        · intro q; exact ⟨q.1, by omega, q.2.2⟩
        · intro q
          refine ⟨q.1, ?_, q.2.2⟩
          rcases Nat.lt_or_ge j (a + n) with z | z
          · exact z
          · exact absurd (by rw [show a + n = j by omega]; exact q.2.2) e)
/-- v is the least of F over a to b -/
def isMn (F : Nat → Nat) (a b v : Nat) : Prop := (∃ j, a ≤ j ∧ j < b ∧ F j = v) ∧ ∀ j, a ≤ j → j < b → v ≤ F j
theorem isMn.one {F : Nat → Nat} {a b v v' : Nat} (h : isMn F a b v) (h' : isMn F a b v') : v = v' := by
  obtain ⟨⟨j, j1, j2, j3⟩, hl⟩ := h
  obtain ⟨⟨i, i1, i2, i3⟩, hl'⟩ := h'
  have := hl i i1 i2
  have := hl' j j1 j2
  omega
theorem chU_mn {cf : Nat → Nat} {a : Nat} : ∀ n, 0 < n → (∀ j, a ≤ j → j < a + n → cf j < 1000000) → isMn cf a (a + n) (chU cf a n)
  | 0, h, _ => by omega
  | 1, _, h => by
    have := h a (Nat.le_refl _) (by omega)
    rw [show chU cf a 1 = cf a from if_pos this]
    exact ⟨⟨a, by omega, by omega, rfl⟩, fun j h1 h2 => by rw [show j = a by omega]; exact Nat.le_refl _⟩
  | n + 2, _, h => by
    obtain ⟨⟨j, j1, j2, j3⟩, hl⟩ := chU_mn (n + 1) (by omega) (fun j h1 h2 => h j h1 (by omega))
    rw [show chU cf a (n + 2) = if cf (a + (n + 1)) < chU cf a (n + 1) then cf (a + (n + 1)) else chU cf a (n + 1) from rfl]
    split
    · next q =>
      refine ⟨⟨a + (n + 1), by omega, by omega, rfl⟩, fun i h1 h2 => ?_⟩
      rcases Nat.lt_or_ge i (a + (n + 1)) with z | z
      · have := hl i h1 z
        omega
      · rw [show i = a + (n + 1) by omega]
        exact Nat.le_refl _
    · next q =>
      refine ⟨⟨j, j1, by omega, j3⟩, fun i h1 h2 => ?_⟩
      rcases Nat.lt_or_ge i (a + (n + 1)) with z | z
      · exact hl i h1 z
      · rw [show i = a + (n + 1) by omega]
        omega
theorem alk_ge : ∀ {k : Nat} {x y : List Nat}, (∀ q, q < k → dig x q = dig y q ∧ dig x q ≠ 0) → k ≤ alk x y
  | 0, _, _, _ => Nat.zero_le _
  | k + 1, x, y, h => by
    obtain ⟨r, h1, h2⟩ := dig_at (h 0 (by omega)).2
    obtain ⟨r2, h3, h4⟩ := dig_at (l := y) (k := 0) (by rw [← (h 0 (by omega)).1]; exact (h 0 (by omega)).2)
    have e : r = r2 := by have := (h 0 (by omega)).1; omega
    cases x with
    | nil => simp at h1
    | cons a x =>
      cases y with
      | nil => simp at h3
      | cons b y =>
        simp at h1 h3
        subst h1; subst h3; subst e
        have := alk_ge (k := k) (x := x) (y := y) (fun q hq => by
          have := h (q + 1) (by omega)
          simpa [dig] using this)
        simp only [alk, if_true]
        omega
theorem alk_eq {k : Nat} {x y : List Nat} (h : ∀ q, q < k → dig x q = dig y q ∧ dig x q ≠ 0) (h2 : dig x k = 0 ∨ dig y k ≠ dig x k) : alk x y = k := by
  have h1 := alk_ge h
  rcases Nat.lt_or_ge k (alk x y) with q | q
  · exfalso
    have hp : ∀ (m : Nat) (l u : List Nat), m < alk l u → dig l m = dig u m ∧ dig l m ≠ 0 := by
      intro m
      induction m with
      | zero =>
        intro l u hq
        cases l with
        | nil => simp [alk] at hq
        | cons a l =>
          cases u with
          | nil => simp [alk] at hq
          | cons b u =>
            simp only [alk] at hq
            split at hq
            · next e => subst e; simp [dig]
            · omega
      | succ m ihm =>
        intro l u hq
        cases l with
        | nil => simp [alk] at hq
        | cons a l =>
          cases u with
          | nil => simp [alk] at hq
          | cons b u =>
            simp only [alk] at hq
            split at hq
            · have := ihm l u (by omega)
              simpa [dig] using this
            · omega
    have := hp k x y q
    rcases h2 with z | z
    · exact this.2 z
    · exact z this.1.symm
  · omega
theorem offP_def (st : Nat × Nat) (v n : Nat) : offP st v n = if v < st.1 then (v, n) else if v = st.1 then (st.1, cap (st.2 + n)) else st := rfl
theorem isMn_ex (F : Nat → Nat) {a : Nat} : ∀ n, ∃ V, isMn F a (a + (n + 1)) V
  | 0 => ⟨F a, ⟨a, by omega, by omega, rfl⟩, fun j h1 h2 => by rw [show j = a by omega]; exact Nat.le_refl _⟩
  | n + 1 => by
    obtain ⟨V, ⟨j, j1, j2, j3⟩, hl⟩ := isMn_ex F (a := a) n
    rcases Nat.lt_or_ge (F (a + (n + 1))) V with q | q
    · refine ⟨F (a + (n + 1)), ⟨_, by omega, by omega, rfl⟩, fun i h1 h2 => ?_⟩
      rcases Nat.lt_or_ge i (a + (n + 1)) with z | z
      · have := hl i h1 z
        omega
      · rw [show i = a + (n + 1) by omega]; exact Nat.le_refl _
    · refine ⟨V, ⟨j, j1, by omega, j3⟩, fun i h1 h2 => ?_⟩
      rcases Nat.lt_or_ge i (a + (n + 1)) with z | z
      · exact hl i h1 z
      · rw [show i = a + (n + 1) by omega]; exact q
theorem off_2 {st : Nat × Nat} {v n V N : Nat} (h : V < v) : offP (offP st v n) V N = offP st V N := by
  simp only [offP_def]
  repeat' split
  all_goals first | rfl | (exfalso; simp at *; omega)
theorem off_3 {st : Nat × Nat} {v n V N : Nat} (h : v < V) : offP (offP st v n) V N = offP st v n := by
  simp only [offP_def]
  repeat' split
  all_goals first | rfl | (exfalso; simp at *; omega)
theorem off_4 {st : Nat × Nat} {v n N : Nat} : offP (offP st v n) v N = offP st v (cap (n + N)) := by
  simp only [offP_def]
  by_cases h1 : v < st.1
  · simp [h1]
  · by_cases h2 : v = st.1
    · simp only [h1, h2, if_true, if_false, Nat.lt_irrefl]
      rw [cap_l, cap_r, Nat.add_assoc]
    · simp [h1, h2]
theorem offR_leaf {ys : List (List Nat)} {cf mf F : Nat → Nat} {sh dp a b : Nat} {st : Nat × Nat} (hcf : ∀ j, j < ys.length → cf j < 1000000) (hab : a < b) (hby : b ≤ ys.length) (hdsh : dp ≤ sh) (hF : ∀ j, a ≤ j → j < b → F j = cf j + sh - dp) {V : Nat} (hV : isMn F a b V) : offP st (chU cf a (b - a) + sh - dp) (mnU cf mf a (chU cf a (b - a)) (b - a)) = offP st V (cap (smN (inV F a b V) mf ys.length)) := by
  have hm := chU_mn (cf := cf) (a := a) (b - a) (by omega) (fun j j1 j2 => hcf j (by omega))
  rw [show a + (b - a) = b by omega] at hm
  obtain ⟨⟨j, j1, j2, j3⟩, hl⟩ := hm
  have hV2 : isMn F a b (chU cf a (b - a) + sh - dp) := ⟨⟨j, j1, j2, by rw [hF j j1 j2, j3]⟩, fun i i1 i2 => by rw [hF i i1 i2]; have := hl i i1 i2; omega⟩
  rw [hV.one hV2, mnU_sm cf mf a _ (L := ys.length) (b - a) (by omega), show a + (b - a) = b by omega]
  congr 2
  exact smN_cong (fun i hi => by
    unfold inV
    rw [decide_eq_decide]
    constructor
    · rintro ⟨i1, i2, i3⟩
      exact ⟨i1, i2, by rw [hF i i1 i2, i3]⟩
    · rintro ⟨i1, i2, i3⟩
      refine ⟨i1, i2, ?_⟩
      rw [hF i i1 i2] at i3
      omega)
theorem offR_val {ys : List (List Nat)} {cf mf F : Nat → Nat} {sh : Nat} {x : List Nat} (hcf : ∀ j, j < ys.length → cf j < 1000000) (hsh : ∀ j, j < ys.length → alk x (ys.getD j []) ≤ sh) (hF : ∀ j, F j = cf j + sh - alk x (ys.getD j [])) :
    ∀ (f dp a b : Nat) (st st' : Nat × Nat), dp + (f + 1) = 6 → x.length ≤ 5 → a < b → b ≤ ys.length → (∀ j, a ≤ j → j < b → ∀ q, q < dp → dig x q = sx ys j q ∧ dig x q ≠ 0) → OffR ys cf mf sh x (f + 1) dp a b st st' → ∀ V, isMn F a b V → st' = offP st V (cap (smN (inV F a b V) mf ys.length)) := by
  intro f
  induction f with
  | zero =>
    intro dp a b st st' hdf hx5 hab hby hpre hO V hV
    have h0 : dig x dp = 0 := by
      unfold dig
      rw [List.getElem?_eq_none (by omega)]
    have hdsh : dp ≤ sh := Nat.le_trans (alk_ge (hpre a (Nat.le_refl _) hab)) (hsh a (by omega))
    rcases hO with ⟨-, hO⟩ | ⟨hO, -⟩
    · rw [hO]
      exact offR_leaf hcf hab hby hdsh (fun j j1 j2 => by rw [hF, alk_eq (hpre j j1 j2) (Or.inl h0)]) hV
    · exact absurd h0 hO
  | succ f ih =>
    intro dp a b st st' hdf hx5 hab hby hpre hO V hV
    have hdsh : dp ≤ sh := Nat.le_trans (alk_ge (hpre a (Nat.le_refl _) hab)) (hsh a (by omega))
    rcases hO with ⟨hno, hO⟩ | ⟨hd0, a', b', g1, g2, g3, g4, hO⟩
    · rw [hO]
      exact offR_leaf hcf hab hby hdsh (fun j j1 j2 => by rw [hF, alk_eq (hpre j j1 j2) (hno.elim Or.inl (fun q => Or.inr (q j j1 j2)))]) hV
    · have hm := chU_mn (cf := cf) (a := a) (b - a) (by omega) (fun j j1 j2 => hcf j (by omega))
      rw [show a + (b - a) = b by omega] at hm
      obtain ⟨⟨j0, k1, k2, k3⟩, hl⟩ := hm
      have hin : ∀ j, a' ≤ j → j < b' → ∀ q, q < dp + 1 → dig x q = sx ys j q ∧ dig x q ≠ 0 := fun j j1 j2 q hq => by
        rcases Nat.lt_or_ge q dp with z | z
        · exact hpre j (by omega) (by omega) q z
        · rw [show q = dp by omega]
          exact ⟨((g4 j (by omega) (by omega)).mpr ⟨j1, j2⟩).symm, hd0⟩
      have hI : ∀ j, a' ≤ j → j < b' → F j + (dp + 1) ≤ cf j + sh := fun j j1 j2 => by
        have := alk_ge (hin j j1 j2)
        have := hsh j (by omega)
        rw [hF]
        omega
      have hOu : ∀ j, a ≤ j → j < b → ¬ (a' ≤ j ∧ j < b') → F j = cf j + sh - dp := fun j j1 j2 j3 => by
        rw [hF, alk_eq (hpre j j1 j2) (Or.inr (fun e => j3 ((g4 j j1 j2).mp e)))]
      obtain ⟨V', hV'⟩ := isMn_ex F (a := a') (b' - a' - 1)
      rw [show a' + (b' - a' - 1 + 1) = b' by omega] at hV'
      have hr := ih (dp + 1) a' b' _ st' (by omega) hx5 g2 (by omega) hin hO V' hV'
      rw [hr, mnU_sm cf mf a _ (L := ys.length) (b - a) (by omega), show a + (b - a) = b by omega]
      generalize hmm : chU cf a (b - a) = m at k3 hl ⊢
      obtain ⟨⟨w, w1, w2, w3⟩, wl⟩ := hV'
      obtain ⟨⟨u, u1, u2, u3⟩, ul⟩ := hV
      have hw := ul w (by omega) (by omega)
      rcases Nat.lt_or_ge V' (m + sh - dp) with q | q
      · have hVV : V = V' := by
          by_cases z : a' ≤ u ∧ u < b'
          · have := wl u z.1 z.2
            omega
          · have e1 := hOu u u1 u2 z
            have e2 := hl u u1 u2
            omega
        rw [off_2 q, hVV]
        congr 2
        exact smN_cong (fun i hi => by
          unfold inV
          rw [decide_eq_decide]
          constructor
          · rintro ⟨i1, i2, i3⟩
            exact ⟨by omega, by omega, i3⟩
          · rintro ⟨i1, i2, i3⟩
            by_cases z : a' ≤ i ∧ i < b'
            · exact ⟨z.1, z.2, i3⟩
            · have e1 := hOu i i1 i2 z
              have e2 := hl i i1 i2
              omega)
      · have hnI : ∀ j, a' ≤ j → j < b' → cf j ≠ m := fun j j1 j2 e => by
          have e1 := hI j j1 j2
          have e2 := wl j j1 j2
          omega
        have hVv : V = m + sh - dp := by
          have e0 : F j0 = m + sh - dp := by
            rw [hOu j0 k1 k2 (fun z => hnI j0 z.1 z.2 k3), k3]
          have e1 := ul j0 k1 k2
          by_cases z : a' ≤ u ∧ u < b'
          · have := wl u z.1 z.2
            omega
          · have e3 := hOu u u1 u2 z
            have e2 := hl u u1 u2
            omega
        have hout : ∀ i, (inV cf a b m i = true ↔ a ≤ i ∧ i < b ∧ ¬ (a' ≤ i ∧ i < b') ∧ F i = V) := fun i => by
          rw [inV_t]
          constructor
          · rintro ⟨i1, i2, i3⟩
            have z : ¬ (a' ≤ i ∧ i < b') := fun z => hnI i z.1 z.2 i3
            exact ⟨i1, i2, z, by rw [hOu i i1 i2 z, i3, hVv]⟩
          · rintro ⟨i1, i2, i3, i4⟩
            rw [hOu i i1 i2 i3] at i4
            have := hl i i1 i2
            exact ⟨i1, i2, by omega⟩
        rcases Nat.lt_or_ge (m + sh - dp) V' with q2 | q2
        · rw [off_3 q2, hVv]
          congr 2
          exact smN_cong (fun i hi => by
            rw [Bool.eq_iff_iff, hout i, inV_t, hVv]
            constructor
            · rintro ⟨i1, i2, i3, i4⟩
              exact ⟨i1, i2, i4⟩
            · rintro ⟨i1, i2, i3⟩
              refine ⟨i1, i2, fun z => ?_, i3⟩
              have := wl i z.1 z.2
              omega)
        · have hV3 : V' = m + sh - dp := by omega
          rw [hV3, off_4, hVv]
          congr 1
          rw [cap_cap]
          congr 1
          refine (smN_or (fun i hi => ?_)).symm
          rw [hout i, inV_t, inV_t, hVv]
          constructor
          · constructor
            · rintro ⟨i1, i2, i3⟩
              by_cases z : a' ≤ i ∧ i < b'
              · exact Or.inr ⟨z.1, z.2, i3⟩
              · exact Or.inl ⟨i1, i2, z, i3⟩
            · rintro (⟨i1, i2, i3, i4⟩ | ⟨i1, i2, i3⟩)
              · exact ⟨i1, i2, i4⟩
              · exact ⟨by omega, by omega, i3⟩
          · rintro ⟨⟨i1, i2, i3, i4⟩, ⟨i5, i6, i7⟩⟩
            exact i3 ⟨i5, i6⟩
end
section
/-! Weights.weigh: costs and manners of all sections, from the last one back -/
def spF (rk : Nat → Nat) (c c' i : Nat) (cf : Nat → Nat) : Nat → Nat := fun j => cf j + popN (c &&& c') - alk ((stk rk c).getD i []) ((stk rk c').getD j [])
def dpc (rk : Nat → Nat) : List Nat → Nat → Nat
  | [], _ => 0
  | [_], _ => 0
  | c :: c' :: r, i => chU (spF rk c c' i (dpc rk (c' :: r))) 0 (stk rk c').length
def dpm (rk : Nat → Nat) : List Nat → Nat → Nat
  | [], _ => 1
  | [_], _ => 1
  | c :: c' :: r, i => mnU (spF rk c c' i (dpc rk (c' :: r))) (dpm rk (c' :: r)) 0 (dpc rk (c :: c' :: r) i) (stk rk c').length
def okC (cv : List Nat) : Prop := ∀ c ∈ cv, c < 256 ∧ popN c ≤ 5
theorem okC.tl {c : Nat} {cv : List Nat} (h : okC (c :: cv)) : okC cv := fun x hx => h x (List.mem_cons_of_mem _ hx)
theorem popN_and (a b : Nat) : popN (a &&& b) ≤ 8 := popN_le _
theorem dpc_le {rk : Nat → Nat} (hrk : ∀ r, r < 8 → rk r < 4) : ∀ (cv : List Nat), okC cv → ∀ i, dpc rk cv i ≤ 8 * cv.length
  | [], _, i => by simp [dpc]
  | [_], _, i => by simp [dpc]
  | c :: c' :: r, h, i => by
    have ih := dpc_le hrk (c' :: r) h.tl
    obtain ⟨hc1, hc2⟩ := h.tl c' List.mem_cons_self
    have hp := stk_pos hrk hc1 hc2
    unfold dpc
    have h0 : spF rk c c' i (dpc rk (c' :: r)) 0 ≤ 8 * (c :: c' :: r).length := by
      have := ih 0
      have := popN_and c c'
      unfold spF
      simp only [List.length_cons] at *
      omega
    have hle : ∀ n, 0 < n → chU (spF rk c c' i (dpc rk (c' :: r))) 0 n ≤ spF rk c c' i (dpc rk (c' :: r)) 0 := by
      intro n
      induction n with
      | zero => intro q; omega
      | succ n ihn =>
        intro _
        unfold chU
        rcases Nat.eq_zero_or_pos n with e | e
        · subst e
          rw [Nat.add_zero]
          split <;> (unfold chU at *; omega)
        · have := ihn e
          split <;> omega
    exact Nat.le_trans (hle _ hp) h0
theorem dpm_le (rk : Nat → Nat) : ∀ (cv : List Nat) (i : Nat), dpm rk cv i ≤ 1000000000
  | [], i => by simp [dpm]
  | [_], i => by simp [dpm]
  | c :: c' :: r, i => mnU_le _ _ _ _ _
theorem drop_cons {cv : List Nat} {s : Nat} (h : s < cv.length) : cv.drop s = cv.getD s 0 :: cv.drop (s + 1) := by
  rw [List.drop_eq_getElem_cons h]
  congr 1
  rw [List.getD, List.getElem?_eq_getElem h]
  rfl
theorem okC.at {cv : List Nat} (h : okC cv) {s : Nat} (hs : s < cv.length) : cv.getD s 0 < 256 ∧ popN (cv.getD s 0) ≤ 5 := h _ (by
  rw [List.getD, List.getElem?_eq_getElem hs]
  exact List.getElem_mem hs)
theorem okC.drop {cv : List Nat} (h : okC cv) (s : Nat) : okC (cv.drop s) := fun x hx => h x (List.mem_of_mem_drop hx)
def rkT (T : TS) (alike : Bool) (r : Nat) : Nat := if alike = true then 0 else if r < T.1.length then T.2.2.getD (kd T.1 r) 0 else 0
theorem rkT_lt {T : TS} (hw : WT T) (alike : Bool) (r : Nat) : rkT T alike r < 4 := by
  unfold rkT
  split
  · omega
  · split
    · exact hw.rk _
    · omega
def few (rk : Nat → Nat) (cv : List Nat) : Nat := match cv with
  | [] => 0
  | c :: r => chU (dpc rk (c :: r)) 0 (stk rk c).length
def asf (rk : Nat → Nat) (cv : List Nat) : Nat := match cv with
  | [] => 1
  | c :: r => mnU (dpc rk (c :: r)) (dpm rk (c :: r)) 0 (few rk (c :: r)) (stk rk c).length
/-- all rows of stacks and costs -/
def WeAt (μ : Mem) (w : Nat) (rk : Nat → Nat) (cv : List Nat) (k : Nat) : Prop := ∀ s, k ≤ s → s < cv.length → RowAt μ w s (stk rk (cv.getD s 0)) ∧ CoAt μ w s (stk rk (cv.getD s 0)).length (dpc rk (cv.drop s))
theorem alk_dig : ∀ (m : Nat) (l u : List Nat), m < alk l u → dig l m = dig u m ∧ dig l m ≠ 0
  | m, [], u, hq => by simp [alk] at hq
  | m, a :: l, [], hq => by simp [alk] at hq
  | 0, a :: l, b :: u, hq => by
    simp only [alk] at hq
    split at hq
    · next e => subst e; simp [dig]
    · omega
  | m + 1, a :: l, b :: u, hq => by
    simp only [alk] at hq
    split at hq
    · have := alk_dig m l u (by omega)
      simpa [dig] using this
    · omega
theorem sI_dec : nI 0 + mI 0 = mI 0 := by decide
def sI (k : Nat) : Int32 := match k with
  | 0 => mI 0
  | n + 1 => nI n
theorem sI_next (n : Nat) : nI n + mI 0 = sI n := by
  cases n with
  | zero => exact sI_dec
  | succ n => exact nx_dec n
theorem weigh_ok {lay : List Nat} (hwf : wfB lay = true) (d : Nat) {μ : Mem} {w t s : Nat} {T : TS} {cs cv : List Nat} {alike : Bool} (hT : TeAt μ t T) (hw : WT T) (hS : SeAt μ s cs cv) (hl : cv.length ≤ 15) (hok : okC cv) (hd1 : t + 5 ≤ w ∨ w + 38 ≤ t) (hd2 : s + 4 ≤ w ∨ w + 38 ≤ s) : Rn lay (d + 8) mWe_weigh [rf 14 w, rf 13 t, rf 12 s, vi (nI (if alike = true then 1 else 0))] μ (Pn fun μ1 => WeAt μ1 w (rkT T alike) cv 0 ∧ μ1.1 w 6 = nI (few (rkT T alike) cv) ∧ μ1.1 w 7 = nI (asf (rkT T alike) cv) ∧ Fri w (w + 38) μ μ1) := by
  have hrk : ∀ r, r < 8 → rkT T alike r < 4 := fun r _ => rkT_lt hw alike r
  generalize hrkE : rkT T alike = rk at hrk ⊢
  refine Rn_intro ok_We_weigh hwf rfl (fun G hC => g_We_weigh_0 hC ?_)
  have hSF : ∀ (μ' : Mem), Fri w (w + 38) μ μ' → SeAt μ' s cs cv := fun μ' hf => by
    obtain ⟨⟨c1, c2⟩, c3, c4, c5⟩ := hS
    have e0 := hf.1 s (by omega)
    have e1 := hf.1 (s + 1) (by omega)
    have e2 := hf.1 (s + 2) (by omega)
    have e3 := hf.1 (s + 3) (by omega)
    exact ⟨⟨by rw [e0]; exact c1, fun i hi => by rw [e1]; exact c2 i hi⟩, by rw [e0]; exact c3, fun i hi => by rw [e2]; exact c4 i hi, fun i hi => by rw [e3]; exact c5 i hi⟩
  -- the end
  have f172 : ∀ (μ' : Mem), Fri w (w + 38) μ μ' → WeAt μ' w rk cv 0 → (0 < cv.length → MaAt μ' w 0 (stk rk (cv.getD 0 0)).length (dpm rk cv)) → G 172 [rf 14 w, un, un, un, vi (nI cv.length), un, un] [] μ' := by
    intro μ' hf hwe hma
    refine g_We_weigh_172 hC ?_
    rw [nx_0, nx_eq (by omega) (by omega)]
    refine ⟨fun z => ?_, fun z => ⟨fun z2 => absurd z z2, fun _ => ?_⟩⟩
    · obtain ⟨hr0, hc0⟩ := hwe 0 (by omega) (by omega)
      obtain ⟨b1, b2⟩ := hok.at (show 0 < cv.length by omega)
      have hlen := stk_len (rk := rk) b1 b2
      have hm0 := hma (by omega)
      have hdl : ∀ i, dpc rk cv i < 2147483648 := fun i => by
        have := dpc_le hrk cv hok i
        omega
      rw [List.drop_zero] at hc0
      obtain ⟨c, r, hcv⟩ : ∃ c r, cv = c :: r := by
        cases cv with
        | nil => simp at z
        | cons c r => exact ⟨c, r, rfl⟩
      have efew : few rk cv = chU (dpc rk cv) 0 (stk rk (cv.getD 0 0)).length := by rw [hcv]; rfl
      have easf : asf rk cv = mnU (dpc rk cv) (dpm rk cv) 0 (few rk cv) (stk rk (cv.getD 0 0)).length := by rw [hcv]; rfl
      have hfl := chU_le (dpc rk cv) 0 (stk rk (cv.getD 0 0)).length
      have h36 : μ'.1 (w + 36) 0 = nI (stk rk (cv.getD 0 0)).length := hr0.1
      simp (disch := omega) only [nx_cl, nx_in', h36]
      refine ⟨by omega, ?_⟩
      refine useV (cheapest_ok hwf _ (by omega) hlen hc0 (fun i _ => hdl i) (Nat.zero_le _) (Nat.le_refl _)) ?_
      rw [Nat.sub_zero, ← efew]
      refine ⟨fun _ => ?_, fun z2 => absurd z2 z⟩
      simp (disch := omega) only [up_n1, up_at, h36]
      refine ⟨by omega, ?_⟩
      rw [← efew] at hfl
      refine useV (mannersOf_ok hwf _ (by omega) hlen (fun i hi => by rw [up_n1 (by omega)]; exact hc0 i hi) (fun i _ => hdl i) (fun i hi => by rw [up_n1 (by omega)]; exact hm0 i hi) (fun i _ => dpm_le rk cv i) (Nat.zero_le _) (Nat.le_refl _) (by omega)) ?_
      rw [Nat.sub_zero, ← easf]
      refine ⟨rfl, fun q q1 q2 => ?_, by rw [up_n2 (by omega), up_at], by rw [up_at], (hf.up (by omega)).up (by omega)⟩
      obtain ⟨⟨r1, r2⟩, r3⟩ := hwe q q1 q2
      refine ⟨⟨by simp (disch := omega) only [up_n1]; exact r1, fun i hi => by simp (disch := omega) only [up_n1]; exact r2 i hi⟩, fun i hi => by simp (disch := omega) only [up_n1]; exact r3 i hi⟩
    · have hcv : cv = [] := by
        cases cv with
        | nil => rfl
        | cons c r => simp at z
      subst hcv
      refine ⟨rfl, fun q q1 q2 => by simp at q2, ?_, by rw [up_at]; rfl, (hf.up (by omega)).up (by omega)⟩
      rw [up_n2 (by omega), up_at]
      rfl
  have loop : ∀ k (μ' : Mem), k ≤ cv.length → Fri w (w + 38) μ μ' → RkAt μ' w rk → WeAt μ' w rk cv k → (k < cv.length → MaAt μ' w k (stk rk (cv.getD k 0)).length (dpm rk (cv.drop k))) → G 54 [rf 14 w, un, rf 12 s, un, vi (nI cv.length), vi (sI k), un] [] μ' := by
    intro k
    induction k with
    | zero =>
      intro μ' hk hf hrkA hwe hma
      refine g_We_weigh_54 hC ?_
      refine ⟨fun _ => f172 μ' hf hwe hma, fun z => absurd (by decide) z⟩
    | succ k ih =>
      intro μ' hk hf hrkA hwe hma
      have hkl : k < cv.length := by omega
      obtain ⟨b1, b2⟩ := hok.at hkl
      have hlen := stk_len (rk := rk) b1 b2
      have hpos := stk_pos hrk b1 b2
      rw [show sI (k + 1) = nI k from rfl]
      refine g_We_weigh_54 hC ?_
      have hcvk : μ'.1 (s + 2) k = nI (cv.getD k 0) := (hSF μ' hf).2.2.1 k hkl
      rw [nx_0, nx_lt (by omega) (by omega)]
      refine ⟨fun z => absurd z (by omega), fun _ => ?_⟩
      simp (disch := omega) only [nx_cl, nx_in', up_n1, hcvk, nI_add, nx_lt]
      refine ⟨by omega, by omega, ?_⟩
      have hadd := addStacks_ok hwf (d + 1) (w := w) (s := k) (rk := rk) (by omega) 5 (cv.getD k 0) [] [] (upI μ' (w + 36) k (nI 0)) (by simp) ⟨by simp, by simp⟩ b1 (fun r hr => by rw [up_n1 (by omega)]; exact hrkA r hr) ⟨by rw [up_at]; rfl, fun i hi => by simp at hi⟩ (by simp; exact hlen)
      refine useN hadd (fun μ1 hp => ?_)
      obtain ⟨p1, p2⟩ := hp
      have p1 : RowAt μ1 w k (stk rk (cv.getD k 0)) := p1
      have hf1 : Fri w (w + 38) μ μ1 := (hf.up (a := w + 36) (k := k) (v := nI 0) (by omega)).tr ⟨fun b hb => p2.1 b (by omega) (by omega), p2.2.2⟩
      have hrk1 : RkAt μ1 w rk := fun r hr => by
        rw [p2.1 (w + 37) (by omega) (by omega), up_n1 (by omega)]
        exact hrkA r hr
      have hwe1 : WeAt μ1 w rk cv (k + 1) := fun q q1 q2 => by
        obtain ⟨⟨r1, r2⟩, r3⟩ := hwe q q1 q2
        refine ⟨⟨?_, fun i hi => ?_⟩, fun i hi => ?_⟩
        · rw [p2.2.1 q (by omega), up_n2 (by omega)]; exact r1
        · rw [p2.1 _ (by omega) (by omega), up_n1 (by omega)]; exact r2 i hi
        · rw [p2.1 _ (by omega) (by omega), up_n1 (by omega)]; exact r3 i hi
      have hma1 : k + 1 < cv.length → MaAt μ1 w (k + 1) (stk rk (cv.getD (k + 1) 0)).length (dpm rk (cv.drop (k + 1))) := fun hq i hi => by
        rw [p2.1 _ (by omega) (by omega), up_n1 (by omega)]
        exact hma hq i hi
      -- all set, then offers if it isn't the last
      have f112 : ∀ (last : Bool), (last = true ↔ ¬ k + 1 < cv.length) → G 112 [rf 14 w, un, rf 12 s, un, vi (nI cv.length), vi (nI k), vi (nI (if last = true then 1 else 0))] [vi (nI (if last = true then 0 else 1000000)), vi (nI k), rf 14 w] μ1 := by
        intro last hlast
        refine g_We_weigh_112 hC ?_
        have rest : ∀ (μ2 : Mem), CoAt μ2 w k (stk rk (cv.getD k 0)).length (fun _ => if last = true then 0 else 1000000) → MaAt μ2 w k (stk rk (cv.getD k 0)).length (fun _ => if last = true then 1 else 0) → FrC w k μ1 μ2 → vp_in (nI k) 15 ∧ ((¬ nI (if last = true then 1 else 0) = 0 → G 54 [rf 14 w, un, rf 12 s, un, vi (nI cv.length), vi (nI k + mI 0), un] [] (upI μ2 w 5 (μ2.1 (s + 3) (nI k).toNatClampNeg))) ∧ (nI (if last = true then 1 else 0) = 0 → (vp_in (nI k) 15 ∧ (vp_in (nI k + (nI 1)) 15 ∧ (∃ P163 : PT, Rn lay (d + 7) mWe_offerAlike [rf 14 w, vi (nI k), vi (nI 0), vi (nI 0), vi ((upI μ2 w 5 (μ2.1 (s + 3) (nI k).toNatClampNeg)).1 (w + 36) (nI k).toNatClampNeg), vi (nI 0), vi ((upI μ2 w 5 (μ2.1 (s + 3) (nI k).toNatClampNeg)).1 (w + 36) (nI k + (nI 1)).toNatClampNeg)] (upI μ2 w 5 (μ2.1 (s + 3) (nI k).toNatClampNeg)) P163 ∧ ∀ μ163 : Mem, P163 none μ163 → G 54 [rf 14 w, un, rf 12 s, un, vi (nI cv.length), vi (nI k + mI 0), un] [] μ163))))) := by
          intro μ2 hco hma2 hfc
          have hf2 : Fri w (w + 38) μ μ2 := hf1.tr ⟨fun b hb => hfc.1 b (by omega) (by omega), hfc.2⟩
          have hrow2 : RowAt μ2 w k (stk rk (cv.getD k 0)) := hfc.row (by omega) (by omega) p1
          have hrk2 : RkAt μ2 w rk := fun r hr => by rw [hfc.1 _ (by omega) (by omega)]; exact hrk1 r hr
          have hwe2 : WeAt μ2 w rk cv (k + 1) := fun q q1 q2 => by
            obtain ⟨r1, r3⟩ := hwe1 q q1 q2
            exact ⟨hfc.row (by omega) (by omega) r1, fun i hi => by rw [hfc.1 _ (by omega) (by omega)]; exact r3 i hi⟩
          have hma3 : k + 1 < cv.length → MaAt μ2 w (k + 1) (stk rk (cv.getD (k + 1) 0)).length (dpm rk (cv.drop (k + 1))) := fun hq i hi => by
            rw [hfc.1 _ (by omega) (by omega)]
            exact hma1 hq i hi
          rw [nx_cl (by omega), nx_in' (by omega) (by omega), sI_next]
          refine ⟨by omega, fun z => ?_, fun z => ?_⟩
          · have hl1 : last = true := by
              cases last with
              | true => rfl
              | false => exact absurd rfl z
            have hk1 : k + 1 = cv.length := by have := hlast.mp hl1; omega
            rw [hl1] at hco hma2
            simp only [if_true] at hco hma2
            have edrop : cv.drop k = [cv.getD k 0] := by rw [drop_cons hkl, hk1, List.drop_length]
            refine ih _ (by omega) (hf2.up (by omega)) (fun r hr => by rw [up_n1 (by omega)]; exact hrk2 r hr) (fun q q1 q2 => ?_) (fun _ i hi => ?_)
            · have hq : q = k := by omega
              subst hq
              refine ⟨⟨by rw [up_n1 (by omega)]; exact hrow2.1, fun i hi => by rw [up_n1 (by omega)]; exact hrow2.2 i hi⟩, fun i hi => ?_⟩
              rw [up_n1 (by omega), hco i hi, edrop]
              rfl
            · rw [up_n1 (by omega), hma2 i hi, edrop]
              rfl
          · have hl1 : last = false := by
              cases last with
              | true => exact absurd z (by decide)
              | false => rfl
            have hk1 : k + 1 < cv.length := Decidable.not_not.mp (fun q => by rw [hlast.mpr q] at hl1; cases hl1)
            rw [hl1] at hco hma2
            simp only [Bool.false_eq_true, if_false] at hco hma2
            obtain ⟨c1, c2⟩ := hok.at hk1
            have hlen' := stk_len (rk := rk) c1 c2
            have hpos' := stk_pos hrk c1 c2
            obtain ⟨hrowY, hcoY⟩ := hwe2 (k + 1) (by omega) hk1
            have hmaY := hma3 hk1
            have hshv : μ2.1 (s + 3) k = nI (popN (cv.getD k 0 &&& cv.getD (k + 1) 0)) := (hSF μ2 hf2).2.2.2 k hk1
            rw [nI_add, nx_cl (by omega), nx_in' (by omega) (by omega), hshv, up_n1 (by omega), up_n1 (by omega), hrow2.1, hrowY.1]
            refine ⟨by omega, by omega, ?_⟩
            have hdl : ∀ i, dpc rk (cv.drop (k + 1)) i < 1000000 := fun i => by
              have := dpc_le hrk (cv.drop (k + 1)) (hok.drop _) i
              have := List.length_drop (l := cv) (i := k + 1)
              omega
            have hoff := offerAlike_ok hwf d (w := w) (s := k) (sh := popN (cv.getD k 0 &&& cv.getD (k + 1) 0)) (xs := stk rk (cv.getD k 0)) (ys := stk rk (cv.getD (k + 1) 0)) (cf := dpc rk (cv.drop (k + 1))) (mf := dpm rk (cv.drop (k + 1))) (by omega) hlen hlen' (fun x hx => (stk_st b1 hx).ok b2) (fun x hx => (stk_st c1 hx).ok c2) (stk_lex b1) (stk_lex c1) (fun i _ => by have := hdl i; omega) (fun i _ => dpm_le rk _ i) (popN_and _ _)
              (fun i j q hi hj hq => st_share (stk_st b1 (stk_get hi)) (stk_st c1 (stk_get hj)) hq) 5 0 0 (stk rk (cv.getD k 0)).length 0 (stk rk (cv.getD (k + 1) 0)).length (upI μ2 w 5 (nI (popN (cv.getD k 0 &&& cv.getD (k + 1) 0)))) (fun _ => (1000000, 0)) (by omega) hpos (Nat.le_refl _) hpos' (Nat.le_refl _) (fun i j _ _ _ _ q hq => by omega)
              ⟨⟨by rw [up_n1 (by omega)]; exact hrow2.1, fun i hi => by rw [up_n1 (by omega)]; exact hrow2.2 i hi⟩, ⟨by rw [up_n1 (by omega)]; exact hrowY.1, fun i hi => by rw [up_n1 (by omega)]; exact hrowY.2 i hi⟩, fun i hi => by rw [up_n1 (by omega)]; exact hcoY i hi, fun i hi => by rw [up_n1 (by omega)]; exact hmaY i hi, by rw [up_at]⟩
              (fun i hi => ⟨by rw [up_n1 (by omega)]; exact hco i hi, by rw [up_n1 (by omega)]; exact hma2 i hi⟩) (fun i _ => ⟨by omega, by omega⟩)
            refine useN hoff (fun μ3 hq => ?_)
            obtain ⟨pf', q1, q2, q3, q4, q5⟩ := hq
            have hf3 : Fri w (w + 38) μ μ3 := (hf2.up (a := w) (k := 5) (v := nI (popN (cv.getD k 0 &&& cv.getD (k + 1) 0))) (by omega)).tr ⟨fun b hb => q5.1 b (by omega) (by omega), q5.2⟩
            have edrop : cv.drop k = cv.getD k 0 :: cv.getD (k + 1) 0 :: cv.drop (k + 1 + 1) := by rw [drop_cons hkl, drop_cons hk1]
            have edrop1 : cv.drop (k + 1) = cv.getD (k + 1) 0 :: cv.drop (k + 1 + 1) := drop_cons hk1
            have hval : ∀ i, i < (stk rk (cv.getD k 0)).length → pf' i = (dpc rk (cv.drop k) i, dpm rk (cv.drop k) i) := by
              intro i hi
              have hst := stk_st b1 (stk_get hi)
              have hshj : ∀ j, j < (stk rk (cv.getD (k + 1) 0)).length → alk ((stk rk (cv.getD k 0)).getD i []) ((stk rk (cv.getD (k + 1) 0)).getD j []) ≤ popN (cv.getD k 0 &&& cv.getD (k + 1) 0) := fun j hj => by
                refine st_share hst (stk_st c1 (stk_get hj)) (k := alk _ _) (fun q hq => ?_)
                exact alk_dig q _ _ hq
              have hFb : ∀ j, spF rk (cv.getD k 0) (cv.getD (k + 1) 0) i (dpc rk (cv.drop (k + 1))) j < 1000000 := fun j => by
                have h8 := dpc_le hrk (cv.drop (k + 1)) (hok.drop _) j
                have h9 := List.length_drop (l := cv) (i := k + 1)
                have h10 := popN_and (cv.getD k 0) (cv.getD (k + 1) 0)
                unfold spF
                omega
              have hmin := chU_mn (cf := spF rk (cv.getD k 0) (cv.getD (k + 1) 0) i (dpc rk (cv.drop (k + 1)))) (a := 0) (stk rk (cv.getD (k + 1) 0)).length hpos' (fun j _ _ => hFb j)
              rw [Nat.zero_add] at hmin
              have hres := offR_val (F := spF rk (cv.getD k 0) (cv.getD (k + 1) 0) i (dpc rk (cv.drop (k + 1)))) (fun j _ => hdl j) hshj (fun j => rfl) 5 0 0 (stk rk (cv.getD (k + 1) 0)).length _ _ (by omega) (hst.ok b2).1 hpos' (Nat.le_refl _) (fun j _ _ q hq => by omega) (q3 i (by omega) hi) _ hmin
              have hlt : chU (spF rk (cv.getD k 0) (cv.getD (k + 1) 0) i (dpc rk (cv.drop (k + 1)))) 0 (stk rk (cv.getD (k + 1) 0)).length < 1000000 := by
                obtain ⟨⟨j, -, -, j3⟩, -⟩ := hmin
                rw [← j3]
                exact hFb j
              rw [hres, offP_def, if_pos hlt]
              have ec : dpc rk (cv.drop k) i = chU (spF rk (cv.getD k 0) (cv.getD (k + 1) 0) i (dpc rk (cv.drop (k + 1)))) 0 (stk rk (cv.getD (k + 1) 0)).length := by
                rw [edrop, edrop1]
                rfl
              have em : dpm rk (cv.drop k) i = mnU (spF rk (cv.getD k 0) (cv.getD (k + 1) 0) i (dpc rk (cv.drop (k + 1)))) (dpm rk (cv.drop (k + 1))) 0 (dpc rk (cv.drop k) i) (stk rk (cv.getD (k + 1) 0)).length := by
                rw [edrop, edrop1]
                rfl
              rw [em, ec, mnU_sm _ _ 0 _ (L := (stk rk (cv.getD (k + 1) 0)).length) _ (by omega), Nat.zero_add]
            refine ih μ3 (by omega) hf3 (fun r hr => by rw [q5.1 _ (by omega) (by omega), up_n1 (by omega)]; exact hrk2 r hr) (fun q r1 r2 => ?_) (fun _ i hi => ?_)
            · by_cases hq : q = k
              · subst hq
                refine ⟨⟨by rw [q5.1 _ (by omega) (by omega), up_n1 (by omega)]; exact hrow2.1, fun i hi => by rw [q5.1 _ (by omega) (by omega), up_n1 (by omega)]; exact hrow2.2 i hi⟩, fun i hi => ?_⟩
                rw [(q1 i hi).1, hval i hi]
              · obtain ⟨⟨e1, e2⟩, e3⟩ := hwe2 q (by omega) r2
                refine ⟨⟨by rw [q5.1 _ (by omega) (by omega), up_n1 (by omega)]; exact e1, fun i hi => by rw [q5.1 _ (by omega) (by omega), up_n1 (by omega)]; exact e2 i hi⟩, fun i hi => by rw [q5.1 _ (by omega) (by omega), up_n1 (by omega)]; exact e3 i hi⟩
            · rw [(q1 i hi).2, hval i hi]
        have hcnt := p1.1
        cases last with
        | true => exact ⟨fun z => absurd z (by decide), fun _ => useN (setAll_ok hwf _ (by omega) hlen hcnt) (fun μ2 hq => rest μ2 hq.1 hq.2.1 hq.2.2)⟩
        | false => exact ⟨fun _ => useN (setAll_ok hwf _ (by omega) hlen hcnt) (fun μ2 hq => rest μ2 hq.1 hq.2.1 hq.2.2), fun z => absurd (by decide) z⟩
      exact ⟨fun z => f112 false (by simp; exact z), fun z => f112 true (by simp; omega)⟩
  have l3 : ∀ n i (μ' : Mem), i + n = 8 → Fri w (w + 38) μ μ' → (∀ r, r < i → μ'.1 (w + 37) r = nI (rk r)) → G 3 [rf 14 w, rf 13 t, rf 12 s, vi (nI (if alike = true then 1 else 0)), vi (nI i), un, un] [] μ' := by
    intro n
    induction n with
    | zero =>
      intro i μ' hi hf hr
      have h4 := (hSF μ' hf).2.1
      refine g_We_weigh_3 hC ?_
      have hmin : (if nI 15 < nI cv.length then nI 15 else nI cv.length) = nI cv.length := by
        rw [if_neg (by rw [nx_lt (by omega) (by omega)]; omega)]
      rw [nx_le (by omega) (by omega), h4, hmin]
      refine ⟨fun _ => ?_, fun z => absurd (by omega) z⟩
      have := loop cv.length μ' (Nat.le_refl _) hf (fun r hr2 => ⟨hr r (by omega), hrk r hr2⟩) (fun q q1 q2 => by omega) (fun q => by omega)
      have e : nI cv.length - nI 1 = sI cv.length := by
        cases hcl : cv.length with
        | zero => decide
        | succ m => rw [nx_sub (by omega)]; rfl
      rw [e]
      exact this
    | succ n ih =>
      intro i μ' hi hf hr
      have hT' : TeAt μ' t T := hT.fi hf hd1
      refine g_We_weigh_3 hC ?_
      simp (disch := omega) only [nx_le, nx_cl, nx_in', nI_add]
      refine ⟨fun z => absurd z (by omega), fun _ => ⟨fun z => ?_, fun z => ⟨by omega, ?_⟩⟩⟩
      · have ha : alike = false := by
          cases alike with
          | true => exact absurd z (by decide)
          | false => rfl
        refine useV (rankOf_ok hwf _ hT' hw (by omega)) ?_
        refine ⟨by omega, ih (i + 1) _ (by omega) (hf.up (by omega)) (fun r hr2 => ?_)⟩
        by_cases e : r = i
        · subst e
          rw [up_at, ← hrkE, rkT, ha]
          rfl
        · rw [up_n2 e]; exact hr r (by omega)
      · have ha : alike = true := by
          cases alike with
          | true => rfl
          | false => exact absurd rfl z
        refine ih (i + 1) _ (by omega) (hf.up (by omega)) (fun r hr2 => ?_)
        by_cases e : r = i
        · subst e
          rw [up_at, ← hrkE, rkT, ha]
          rfl
        · rw [up_n2 e]; exact hr r (by omega)
  exact l3 8 0 μ (by omega) (Fri.rf _ _ _) (fun r hr => by omega)
end
section
/-! Weights.choose, splitsOfFirst -/
def fstI (p : Nat → Bool) : Nat → Nat → Nat
  | 0, i => i
  | n + 1, i => if p i = true then i else fstI p n (i + 1)
theorem fstI_at {p : Nat → Bool} : ∀ (n i : Nat), (∃ j, i ≤ j ∧ j < i + n ∧ p j = true) → i ≤ fstI p n i ∧ fstI p n i < i + n ∧ p (fstI p n i) = true
  | 0, i, ⟨j, h1, h2, _⟩ => by omega
  | n + 1, i, ⟨j, h1, h2, h3⟩ => by
    unfold fstI
    split
    · next q => exact ⟨Nat.le_refl _, by omega, q⟩
    · next q =>
      have hj : j ≠ i := fun e => q (by rw [← e]; exact h3)
      obtain ⟨a, b, c⟩ := fstI_at (p := p) n (i + 1) ⟨j, by omega, by omega, h3⟩
      exact ⟨by omega, by omega, c⟩
theorem fstI_lt {p : Nat → Bool} : ∀ (n i j : Nat), i ≤ j → j < fstI p n i → ¬ p j = true
  | 0, i, j, h1, h2 => by simp [fstI] at h2; omega
  | n + 1, i, j, h1, h2 => by
    unfold fstI at h2
    split at h2
    · omega
    · next q =>
      by_cases e : j = i
      · rw [e]; exact q
      · exact fstI_lt n (i + 1) j (by omega) h2
def bef (pre : Option (Nat × List Nat)) (c : Nat) (x : List Nat) : Nat := match pre with
  | none => 0
  | some (c0, y) => popN (c0 &&& c) - alk y x
theorem bef_le (pre : Option (Nat × List Nat)) (c : Nat) (x : List Nat) : bef pre c x ≤ 8 := by
  rcases pre with _ | ⟨c0, y⟩
  · show 0 ≤ 8
    omega
  · have := popN_and c0 c
    show popN (c0 &&& c) - alk y x ≤ 8
    omega
def chI (rk : Nat → Nat) (c : Nat) (r : List Nat) (pre : Option (Nat × List Nat)) (left : Nat) : Nat := fstI (fun i => decide (bef pre c ((stk rk c).getD i []) + dpc rk (c :: r) i = left)) (stk rk c).length 0
def chs (rk : Nat → Nat) : List Nat → Option (Nat × List Nat) → Nat → List (List Nat)
  | [], _, _ => []
  | c :: r, pre, left => (stk rk c).getD (chI rk c r pre left) [] :: chs rk r (some (c, (stk rk c).getD (chI rk c r pre left) [])) (dpc rk (c :: r) (chI rk c r pre left))
theorem chs_len (rk : Nat → Nat) : ∀ (cv : List Nat) (pre : Option (Nat × List Nat)) (left : Nat), (chs rk cv pre left).length = cv.length
  | [], _, _ => rfl
  | c :: r, pre, left => by simp only [chs, List.length_cons, chs_len rk r]
/-- a stack of this section goes on with as few splits -/
def feas (rk : Nat → Nat) (cv : List Nat) (pre : Option (Nat × List Nat)) (left : Nat) : Prop := match cv with
  | [] => True
  | c :: r => ∃ i, i < (stk rk c).length ∧ bef pre c ((stk rk c).getD i []) + dpc rk (c :: r) i = left
def preOk (pre : Option (Nat × List Nat)) : Prop := match pre with
  | none => True
  | some (c0, y) => c0 < 256 ∧ popN c0 ≤ 5 ∧ isSt c0 y
theorem feas_step {rk : Nat → Nat} (hrk : ∀ r, r < 8 → rk r < 4) {c : Nat} {r : List Nat} (hok : okC (c :: r)) (hlen : r.length ≤ 100) {i : Nat} (hi : i < (stk rk c).length) : feas rk r (some (c, (stk rk c).getD i [])) (dpc rk (c :: r) i) := by
  cases r with
  | nil => trivial
  | cons c' r =>
    obtain ⟨c1, c2⟩ := hok.tl c' List.mem_cons_self
    obtain ⟨b1, b2⟩ := hok c List.mem_cons_self
    have hp := stk_pos hrk c1 c2
    have hm := chU_mn (cf := spF rk c c' i (dpc rk (c' :: r))) (a := 0) (stk rk c').length hp (fun j _ _ => by
      have h8 := dpc_le hrk (c' :: r) hok.tl j
      have h10 := popN_and c c'
      unfold spF
      simp only [List.length_cons] at *
      omega)
    obtain ⟨⟨j, -, j2, j3⟩, -⟩ := hm
    refine ⟨j, by omega, ?_⟩
    have hal : alk ((stk rk c).getD i []) ((stk rk c').getD j []) ≤ popN (c &&& c') := st_share (stk_st b1 (stk_get hi)) (stk_st c1 (stk_get (by omega))) (fun q hq => alk_dig q _ _ hq)
    have e : dpc rk (c :: c' :: r) i = spF rk c c' i (dpc rk (c' :: r)) j := j3.symm
    rw [e]
    unfold spF bef
    dsimp only
    omega
theorem feas_first {rk : Nat → Nat} (hrk : ∀ r, r < 8 → rk r < 4) {cv : List Nat} (hok : okC cv) (hlen : cv.length ≤ 100) : feas rk cv none (few rk cv) := by
  cases cv with
  | nil => trivial
  | cons c r =>
    obtain ⟨b1, b2⟩ := hok c List.mem_cons_self
    have hm := chU_mn (cf := dpc rk (c :: r)) (a := 0) (stk rk c).length (stk_pos hrk b1 b2) (fun j _ _ => by
      have h8 := dpc_le hrk (c :: r) hok j
      omega)
    obtain ⟨⟨j, -, j2, j3⟩, -⟩ := hm
    refine ⟨j, by omega, ?_⟩
    show 0 + dpc rk (c :: r) j = few rk (c :: r)
    rw [Nat.zero_add, j3]
    rfl
theorem chI_at {rk : Nat → Nat} {c : Nat} {r : List Nat} {pre : Option (Nat × List Nat)} {left : Nat} (h : feas rk (c :: r) pre left) : chI rk c r pre left < (stk rk c).length ∧ bef pre c ((stk rk c).getD (chI rk c r pre left) []) + dpc rk (c :: r) (chI rk c r pre left) = left := by
  obtain ⟨i, h1, h2⟩ := h
  obtain ⟨a, b, e⟩ := fstI_at (p := fun i => decide (bef pre c ((stk rk c).getD i []) + dpc rk (c :: r) i = left)) (stk rk c).length 0 ⟨i, Nat.zero_le _, by omega, decide_eq_true h2⟩
  exact ⟨by unfold chI; omega, of_decide_eq_true e⟩
/-- each of the chosen stacks is one of its section's -/
theorem chs_in {rk : Nat → Nat} (hrk : ∀ r, r < 8 → rk r < 4) : ∀ (cv : List Nat) (pre : Option (Nat × List Nat)) (left : Nat), okC cv → cv.length ≤ 100 → feas rk cv pre left → ∀ s, s < cv.length → (chs rk cv pre left).getD s [] ∈ stk rk (cv.getD s 0)
  | [], _, _, _, _, _, s, hs => by simp at hs
  | c :: r, pre, left, hok, hl, hf, s, hs => by
    obtain ⟨h1, h2⟩ := chI_at hf
    cases s with
    | zero => exact stk_get h1
    | succ s =>
      have hl2 : r.length ≤ 100 := by simp at hl; omega
      have := chs_in hrk r _ _ hok.tl hl2 (feas_step hrk hok hl2 h1) s (by simpa using hs)
      simpa [chs] using this
theorem choose_ok {lay : List Nat} (hwf : wfB lay = true) (d : Nat) {μ : Mem} {w se ch : Nat} {rk : Nat → Nat} {cs cv : List Nat} (hrk : ∀ r, r < 8 → rk r < 4) (hwe : WeAt μ w rk cv 0) (h6 : μ.1 w 6 = nI (few rk cv)) (hS : SeAt μ se cs cv) (hl : cv.length ≤ 15) (hok : okC cv) (hd1 : ch < w ∨ w + 38 ≤ ch) (hd2 : ch < se ∨ se + 4 ≤ ch) : Rn lay (d + 2) mWe_choose [rf 14 w, rf 12 se, rf 10015 ch] μ (Pn fun μ1 => (∀ s, s < cv.length → μ1.1 ch s = nI (enc ((chs rk cv none (few rk cv)).getD s []))) ∧ Fr [ch] μ μ1) := by
  refine Rn_intro ok_We_choose hwf rfl (fun G hC => g_We_choose_0 hC ?_)
  have hmin : (if nI 15 < nI cv.length then nI 15 else nI cv.length) = nI cv.length := by
    rw [if_neg (by rw [nx_lt (by omega) (by omega)]; omega)]
  rw [hS.2.1, hmin, h6]
  have loop : ∀ n s (μ' : Mem) (pre : Option (Nat × List Nat)) (left : Nat), s + n = cv.length → Fr [ch] μ μ' → (∀ q, q < s → μ'.1 ch q = nI (enc ((chs rk cv none (few rk cv)).getD q []))) → (∀ q, s + q < cv.length → (chs rk cv none (few rk cv)).getD (s + q) [] = (chs rk (cv.drop s) pre left).getD q []) → feas rk (cv.drop s) pre left → left < 1000000 → (s = 0 → pre = none) → (0 < s → ∃ y, pre = some (cv.getD (s - 1) 0, y) ∧ isSt (cv.getD (s - 1) 0) y ∧ y = (chs rk cv none (few rk cv)).getD (s - 1) []) → G 19 [rf 14 w, rf 12 se, rf 10015 ch, vi (nI left), vi (nI cv.length), vi (nI s), un, un] [] μ' := by
    intro n
    induction n with
    | zero =>
      intro s μ' pre left hn hf hdone hrest hfe hlt hp0 hp1
      refine g_We_choose_19 hC ?_
      rw [nx_le (by omega) (by omega)]
      exact ⟨fun _ => ⟨rfl, fun q hq => hdone q (by omega), hf⟩, fun z => absurd (by omega) z⟩
    | succ n ih =>
      intro s μ' pre left hn hf hdone hrest hfe hlt hp0 hp1
      have hsl : s < cv.length := by omega
      obtain ⟨b1, b2⟩ := hok.at hsl
      have hlen := stk_len (rk := rk) b1 b2
      have edrop := drop_cons hsl
      rw [edrop] at hfe
      obtain ⟨hx1, hx2⟩ := chI_at hfe
      obtain ⟨hrow, hcos⟩ := hwe s (by omega) hsl
      have eW : ∀ q, w ≤ q → q < w + 38 → μ'.1 q = μ.1 q := fun q q1 q2 => hf.1 q (by simp; omega)
      have eS : ∀ q, se ≤ q → q < se + 4 → μ'.1 q = μ.1 q := fun q q1 q2 => hf.1 q (by simp; omega)
      have hcnt : μ'.1 (w + 36) s = nI (stk rk (cv.getD s 0)).length := by rw [eW _ (by omega) (by omega)]; exact hrow.1
      have hdl : ∀ i, dpc rk (cv.drop s) i < 1000000 := fun i => by
        have := dpc_le hrk (cv.drop s) (hok.drop _) i
        have := List.length_drop (l := cv) (i := s)
        omega
      have hbef : ∀ i, bef pre (cv.getD s 0) ((stk rk (cv.getD s 0)).getD i []) ≤ 8 := fun i => bef_le _ _ _
      have to79 : ∀ i, i < (stk rk (cv.getD s 0)).length → G 79 [rf 14 w, rf 12 se, rf 10015 ch, vi (nI left), vi (nI cv.length), vi (nI s), vi (nI i), un] [vi (nI (bef pre (cv.getD s 0) ((stk rk (cv.getD s 0)).getD i [])))] μ' → G 29 [rf 14 w, rf 12 se, rf 10015 ch, vi (nI left), vi (nI cv.length), vi (nI s), vi (nI i), un] [] μ' := by
        intro i hil hg
        have hst : μ'.1 (w + 1 + 1 + 1 * s) i = nI (enc ((stk rk (cv.getD s 0)).getD i [])) := by rw [eW _ (by omega) (by omega)]; exact hrow.2 i hil
        refine g_We_choose_29 hC ?_
        rw [nx_0]
        simp (disch := omega) only [nx_cl, nx_in', hcnt, nx_le, nx_eq, hst]
        refine ⟨by omega, fun z => absurd z (by omega), fun _ => ⟨fun z => ?_, fun z => ?_⟩⟩
        · obtain ⟨y, hy1, hy2, hy3⟩ := hp1 (by omega)
          have hsh : μ'.1 (se + 3) (s - 1) = nI (popN (cv.getD (s - 1) 0 &&& cv.getD s 0)) := by
            rw [eS _ (by omega) (by omega)]
            have := hS.2.2.2 (s - 1) (by omega)
            rw [show s - 1 + 1 = s by omega] at this
            exact this
          have hch : μ'.1 ch (s - 1) = nI (enc y) := by rw [hdone (s - 1) (by omega), hy3]
          obtain ⟨d1, d2⟩ := hok.at (show s - 1 < cv.length by omega)
          have hsx := stk_st b1 (stk_get hil)
          have hal : alk y ((stk rk (cv.getD s 0)).getD i []) ≤ popN (cv.getD (s - 1) 0 &&& cv.getD s 0) := st_share hy2 hsx (fun q hq => alk_dig q _ _ hq)
          rw [nx_sub (by omega)]
          simp (disch := omega) only [nx_cl, nx_in', hsh, hch]
          refine ⟨by omega, by omega, by omega, by omega, ?_⟩
          refine useV (alike_ok hwf d (hy2.ok d2) (hsx.ok b2) μ') ?_
          rw [nx_sub hal]
          rw [hy1] at hg
          exact hg
        · rw [hp0 z] at hg
          exact hg
      -- the next section, once the stack is found
      have nxt : G 79 [rf 14 w, rf 12 se, rf 10015 ch, vi (nI left), vi (nI cv.length), vi (nI s), vi (nI (chI rk (cv.getD s 0) (cv.drop (s + 1)) pre left)), un] [vi (nI (bef pre (cv.getD s 0) ((stk rk (cv.getD s 0)).getD (chI rk (cv.getD s 0) (cv.drop (s + 1)) pre left) [])))] μ' := by
        generalize hi0 : chI rk (cv.getD s 0) (cv.drop (s + 1)) pre left = i0 at hx1 hx2
        have hco : μ'.1 (w + 17 + 1 + 1 * s) i0 = nI (dpc rk (cv.drop s) i0) := by rw [eW _ (by omega) (by omega)]; exact hcos i0 hx1
        have hst : μ'.1 (w + 1 + 1 + 1 * s) i0 = nI (enc ((stk rk (cv.getD s 0)).getD i0 [])) := by rw [eW _ (by omega) (by omega)]; exact hrow.2 i0 hx1
        rw [← edrop] at hx2
        refine g_We_choose_79 hC ?_
        have hd := hdl i0
        simp (disch := omega) only [nx_cl, nx_in', up_n1, hco, hst, nI_add, nx_eq]
        refine ⟨by omega, by omega, fun z => absurd hx2 z, fun _ => ⟨by omega, by omega, by omega, by omega, by omega, ?_⟩⟩
        have eh : (chs rk cv none (few rk cv)).getD s [] = (stk rk (cv.getD s 0)).getD i0 [] := by
          have := hrest 0 (by omega)
          rw [Nat.add_zero, edrop] at this
          rw [this]
          simp only [chs, hi0]
          rfl
        refine ih (s + 1) _ (some (cv.getD s 0, (stk rk (cv.getD s 0)).getD i0 [])) (dpc rk (cv.drop s) i0) (by omega) (hf.up (by simp)) (fun q hq => ?_) (fun q hq => ?_) ?_ hd (fun q => by omega) (fun _ => ⟨_, by rw [Nat.add_sub_cancel], by rw [Nat.add_sub_cancel]; exact stk_st b1 (stk_get hx1), by rw [Nat.add_sub_cancel]; exact eh.symm⟩)
        · by_cases e : q = s
          · subst e
            rw [up_at, eh]
          · rw [up_n2 e]; exact hdone q (by omega)
        · have := hrest (q + 1) (by omega)
          rw [show s + 1 + q = s + (q + 1) by omega, this, edrop]
          simp only [chs, hi0, List.getD_cons_succ]
        · have hok2 : okC (cv.getD s 0 :: cv.drop (s + 1)) := by rw [← edrop]; exact hok.drop s
          have := feas_step hrk hok2 (by simp; omega) hx1
          rw [edrop]
          exact this
      have l29 : ∀ m i, i + m = chI rk (cv.getD s 0) (cv.drop (s + 1)) pre left → G 29 [rf 14 w, rf 12 se, rf 10015 ch, vi (nI left), vi (nI cv.length), vi (nI s), vi (nI i), un] [] μ' := by
        intro m
        induction m with
        | zero =>
          intro i hi
          rw [Nat.add_zero] at hi
          subst hi
          exact to79 _ hx1 nxt
        | succ m ihm =>
          intro i hi
          have hil : i < (stk rk (cv.getD s 0)).length := by omega
          refine to79 i hil ?_
          have hne : ¬ bef pre (cv.getD s 0) ((stk rk (cv.getD s 0)).getD i []) + dpc rk (cv.drop s) i = left := fun e => by
            refine fstI_lt _ 0 i (Nat.zero_le _) (show i < chI rk (cv.getD s 0) (cv.drop (s + 1)) pre left by omega) (decide_eq_true ?_)
            rw [← edrop]
            exact e
          have hco : μ'.1 (w + 17 + 1 + 1 * s) i = nI (dpc rk (cv.drop s) i) := by rw [eW _ (by omega) (by omega)]; exact hcos i hil
          have hd := hdl i
          have hbl := hbef i
          refine g_We_choose_79 hC ?_
          simp (disch := omega) only [nx_cl, nx_in', hco, nI_add, nx_eq]
          exact ⟨by omega, by omega, fun _ => ihm (i + 1) (by omega), fun z => absurd z hne⟩
      refine g_We_choose_19 hC ?_
      rw [nx_le (by omega) (by omega)]
      exact ⟨fun z => absurd z (by omega), fun _ => l29 _ 0 (Nat.zero_add _)⟩
  have hfl : few rk cv < 1000000 := by
    have hfe := feas_first hrk hok (by omega)
    cases cv with
    | nil => simp [few]
    | cons c r =>
      obtain ⟨i, -, h2⟩ := hfe
      have := dpc_le hrk (c :: r) hok i
      have h3 : bef none c ((stk rk c).getD i []) = 0 := rfl
      simp only [List.length_cons] at *
      omega
  exact loop cv.length 0 μ none (few rk cv) (by omega) (Fr.rf _ _) (fun q hq => by omega) (fun q hq => by rw [Nat.zero_add, List.drop_zero]) (by rw [List.drop_zero]; exact feas_first hrk hok (by omega)) hfl (fun _ => rfl) (fun q => by omega)
def plU (rk : Nat → Nat) (cv : List Nat) : Nat → Nat
  | 0 => 0
  | s + 1 => plU rk cv s + (popN (cv.getD s 0 &&& cv.getD (s + 1) 0) - alk ((stk rk (cv.getD s 0)).getD 0 []) ((stk rk (cv.getD (s + 1) 0)).getD 0 []))
theorem plU_le (rk : Nat → Nat) (cv : List Nat) : ∀ s, plU rk cv s ≤ 8 * s
  | 0 => Nat.le_refl _
  | s + 1 => by
    have := plU_le rk cv s
    have := popN_and (cv.getD s 0) (cv.getD (s + 1) 0)
    unfold plU
    omega
theorem splitsOfFirst_ok {lay : List Nat} (hwf : wfB lay = true) (d : Nat) {μ : Mem} {w se : Nat} {rk : Nat → Nat} {cs cv : List Nat} (hrk : ∀ r, r < 8 → rk r < 4) (hwe : WeAt μ w rk cv 0) (hS : SeAt μ se cs cv) (hl : cv.length ≤ 15) (hok : okC cv) : Rn lay (d + 2) mWe_splitsOfFirst [rf 14 w, rf 12 se] μ (Pv (nI (plU rk cv (cv.length - 1))) μ) := by
  refine Rn_intro ok_We_splitsOfFirst hwf rfl (fun G hC => g_We_splitsOfFirst_0 hC ?_)
  have loop : ∀ n s, s + n = cv.length - 1 → G 4 [rf 14 w, rf 12 se, vi (nI (plU rk cv s)), vi (nI s)] [] μ := by
    intro n
    induction n with
    | zero =>
      intro s hn
      refine g_We_splitsOfFirst_4 hC ?_
      rw [hS.2.1, nI_add, nx_le (by omega) (by omega)]
      exact ⟨fun _ => pv_e (by rw [show cv.length - 1 = s by omega]), fun z => absurd (by omega) z⟩
    | succ n ih =>
      intro s hn
      have ih := ih (s + 1) (by omega)
      obtain ⟨b1, b2⟩ := hok.at (show s < cv.length by omega)
      obtain ⟨c1, c2⟩ := hok.at (show s + 1 < cv.length by omega)
      have hp := stk_pos hrk b1 b2
      have hp' := stk_pos hrk c1 c2
      obtain ⟨hrow, -⟩ := hwe s (by omega) (by omega)
      obtain ⟨hrow', -⟩ := hwe (s + 1) (by omega) (by omega)
      have hsx := stk_st b1 (stk_get hp)
      have hsy := stk_st c1 (stk_get hp')
      have hal : alk ((stk rk (cv.getD s 0)).getD 0 []) ((stk rk (cv.getD (s + 1) 0)).getD 0 []) ≤ popN (cv.getD s 0 &&& cv.getD (s + 1) 0) := st_share hsx hsy (fun q hq => alk_dig q _ _ hq)
      have hpl := plU_le rk cv s
      refine g_We_splitsOfFirst_4 hC ?_
      rw [nI_add]
      simp (disch := omega) only [hS.2.1, nx_le, nx_cl, nx_in', hrow.2 0 hp, hrow'.2 0 hp', hS.2.2.2 s (by omega)]
      refine ⟨fun z => absurd z (by omega), fun _ => ⟨fun z => absurd z (by omega), fun _ => ⟨by omega, by omega, by omega, by omega, by omega, ?_⟩⟩⟩
      refine useV (alike_ok hwf d (hsx.ok b2) (hsy.ok c2) μ) ?_
      rw [nx_sub hal, nI_add]
      exact ih
  exact loop (cv.length - 1) 0 (by omega)
end
section
/-! Nest: nodes (range, from, to, depth, the one in which it lies next) -/
abbrev Nd : Type := Nat × Nat × Nat × Nat × Option Nat
def nd0 : Nd := (0, 0, 0, 0, none)
def oI (x : Option Nat) : Int32 := match x with
  | none => mI 0
  | some k => nI k
def NdAt (μ : Mem) (o : Nat) (ns : List Nd) : Prop := μ.1 o 8 = nI ns.length ∧ ∀ k, k < ns.length → μ.1 (o + 6) k = nI (ns.getD k nd0).1 ∧ μ.1 (o + 7) k = nI (ns.getD k nd0).2.1 ∧ μ.1 (o + 8) k = nI (ns.getD k nd0).2.2.1 ∧ μ.1 (o + 9) k = nI (ns.getD k nd0).2.2.2.1 ∧ μ.1 (o + 10) k = oI (ns.getD k nd0).2.2.2.2
abbrev ndC (o : Nat) : List Nat := [o, o + 6, o + 7, o + 8, o + 9, o + 10]
/-- nothing but the cells of S has changed, and of the cell o only its place 8 -/
def Frn (o : Nat) (S : List Nat) (μ μ1 : Mem) : Prop := (∀ b, b ∉ S → μ1.1 b = μ.1 b) ∧ μ1.2 = μ.2 ∧ ∀ j, j ≠ 8 → μ1.1 o j = μ.1 o j
theorem Frn.rf (o : Nat) (S : List Nat) (μ : Mem) : Frn o S μ μ := ⟨fun _ _ => rfl, rfl, fun _ _ => rfl⟩
theorem Frn.tr {o : Nat} {S : List Nat} {μ μ1 μ2 : Mem} (h : Frn o S μ μ1) (h2 : Frn o S μ1 μ2) : Frn o S μ μ2 := ⟨fun b hb => (h2.1 b hb).trans (h.1 b hb), h2.2.1.trans h.2.1, fun j hj => (h2.2.2 j hj).trans (h.2.2 j hj)⟩
theorem Frn.up {o : Nat} {S : List Nat} {μ μ1 : Mem} {a k : Nat} {v : Int32} (h : Frn o S μ μ1) (ha : a ∈ S) (hk : a ≠ o ∨ k = 8) : Frn o S μ (upI μ1 a k v) := ⟨fun b hb => by
  rw [up_cell (show b ≠ a from fun e => hb (by rw [e]; exact ha))]
  exact h.1 b hb, h.2.1, fun j hj => by
  rw [up_ne (by omega)]
  exact h.2.2 j hj⟩
theorem Frn.mono {o : Nat} {S S' : List Nat} {μ μ1 : Mem} (h : Frn o S μ μ1) (hs : ∀ b ∈ S, b ∈ S') : Frn o S' μ μ1 := ⟨fun b hb => h.1 b (fun q => hb (hs b q)), h.2⟩
theorem Frn.fr {o : Nat} {S : List Nat} {μ μ1 : Mem} (h : Frn o S μ μ1) : Fr S μ μ1 := ⟨h.1, h.2.1⟩
theorem Frn.of {o : Nat} {S S' : List Nat} {μ μ1 : Mem} (h : Fr S μ μ1) (ho : o ∉ S) (hs : ∀ b ∈ S, b ∈ S') : Frn o S' μ μ1 := ⟨fun b hb => h.1 b (fun q => hb (hs b q)), h.2, fun j _ => by rw [h.1 o ho]⟩
theorem nd_app {ns : List Nd} {x : Nd} {k : Nat} (h : k < ns.length) : (ns ++ [x]).getD k nd0 = ns.getD k nd0 := by
  rw [List.getD, List.getD, List.getElem?_append_left h]
theorem nd_last {ns : List Nd} {x : Nd} : (ns ++ [x]).getD ns.length nd0 = x := by
  rw [List.getD, List.getElem?_append_right (Nat.le_refl _)]
  simp
theorem addNode_ok {lay : List Nat} (hwf : wfB lay = true) (d : Nat) {μ : Mem} {o : Nat} {ns : List Nd} {r b e dp q : Nat} (hN : NdAt μ o ns) (hl : ns.length < 83) (hdp : dp ≤ 5) (hq : 0 < dp → μ.1 (o + 11) (dp - 1) = nI q) : Rn lay d mNe_addNode [rf 11 o, vi (nI r), vi (nI b), vi (nI e), vi (nI dp)] μ (Pq fun x μ1 => x = nI ns.length ∧ NdAt μ1 o (ns ++ [(r, b, e, dp, if dp = 0 then none else some q)]) ∧ Frn o (ndC o) μ μ1) := by
  obtain ⟨h8, hn⟩ := hN
  refine Rn_intro ok_Ne_addNode hwf rfl (fun G hC => g_Ne_addNode_0 hC ?_)
  rw [h8, nx_0, nx_lt (by omega) (by omega), nx_lt (by omega) (by omega), nx_in' (by omega) (by omega), nx_cl (by omega)]
  refine ⟨fun z => absurd z (by omega), fun _ => ⟨fun _ => ⟨hl, ?_⟩, fun z => absurd hl z⟩⟩
  refine g_Ne_addNode_28 hC ?_
  simp (disch := omega) only [up_n1, h8, nx_cl, nx_in']
  refine ⟨hl, g_Ne_addNode_38 hC ?_⟩
  simp (disch := omega) only [up_n1, h8, nx_cl, nx_in']
  refine ⟨hl, g_Ne_addNode_48 hC ?_⟩
  simp (disch := omega) only [up_n1, h8, nx_cl, nx_in']
  refine ⟨hl, g_Ne_addNode_59 hC ?_⟩
  have fin : ∀ (ov : Int32), ov = oI (if dp = 0 then none else some q) → G 92 [rf 11 o, un, un, un, un] [] (upI (upI (upI (upI (upI μ (o + 6) ns.length (nI r)) (o + 7) ns.length (nI b)) (o + 8) ns.length (nI e)) (o + 9) ns.length (nI dp)) (o + 10) ns.length ov) := by
    intro ov hov
    refine g_Ne_addNode_92 hC ?_
    rw [up_at]
    simp (disch := omega) only [up_n1, h8, nI_add]
    rw [nx_sub (by omega), Nat.add_sub_cancel]
    refine ⟨_, rfl, rfl, ⟨by rw [up_at]; simp, fun k hk => ?_⟩, ((((((Frn.rf _ _ _).up (by simp) (by omega)).up (by simp) (by omega)).up (by simp) (by omega)).up (by simp) (by omega)).up (by simp) (by omega)).up (by simp) (Or.inr rfl)⟩
    rw [List.length_append, List.length_singleton] at hk
    by_cases e : k = ns.length
    · subst e
      rw [nd_last]
      simp (disch := omega) only [up_n1, up_at]
      exact ⟨trivial, trivial, trivial, trivial, hov⟩
    · rw [nd_app (by omega)]
      simp (disch := omega) only [up_n1, up_n2]
      exact hn k (by omega)
  simp (disch := omega) only [up_n1, h8, nx_cl, nx_in']
  rw [nx_0, nx_le (by omega) (by omega), nx_lt (by omega) (by omega)]
  refine ⟨fun z => ⟨hl, fin _ ?_⟩, fun z => ⟨fun z2 => absurd z2 (by omega), fun _ => ?_⟩⟩
  · rw [if_pos (by omega)]
    rfl
  · rw [nx_sub (by omega), nx_cl (by omega), nx_in' (by omega) (by omega), hq (by omega)]
    refine ⟨by omega, hl, fin _ ?_⟩
    rw [if_neg (by omega)]
    rfl
def setE (ns : List Nd) (k e : Nat) : List Nd := ns.set k ((ns.getD k nd0).1, (ns.getD k nd0).2.1, e, (ns.getD k nd0).2.2.2)
theorem setE_len (ns : List Nd) (k e : Nat) : (setE ns k e).length = ns.length := by simp [setE]
theorem setE_at {ns : List Nd} {k e j : Nat} (hk : k < ns.length) : (setE ns k e).getD j nd0 = if j = k then ((ns.getD k nd0).1, (ns.getD k nd0).2.1, e, (ns.getD k nd0).2.2.2) else ns.getD j nd0 := by
  unfold setE
  by_cases h : j = k
  · subst h
    rw [if_pos rfl, List.getD, List.getElem?_set_self hk]
    rfl
  · rw [if_neg h, List.getD, List.getElem?_set_ne (Ne.symm h)]
    rfl
theorem stretch_ok {lay : List Nat} (hwf : wfB lay = true) (d : Nat) {μ : Mem} {o : Nat} {ns : List Nd} {k e : Nat} (hN : NdAt μ o ns) (hl : ns.length ≤ 83) (hk : k < ns.length) : Rn lay d mNe_stretch [rf 11 o, vi (nI k), vi (nI e)] μ (Pn fun μ1 => NdAt μ1 o (setE ns k e) ∧ Fr [o + 8] μ μ1) := by
  obtain ⟨h8, hn⟩ := hN
  refine Rn_intro ok_Ne_stretch hwf rfl (fun G hC => g_Ne_stretch_0 hC ?_)
  rw [h8, nx_0, nx_lt (by omega) (by omega), nx_le (by omega) (by omega), nx_in' (by omega) (by omega), nx_cl (by omega)]
  refine ⟨fun z => absurd z (by omega), fun _ => ⟨fun z => absurd z (by omega), fun _ => ⟨by omega, rfl, ⟨by rw [up_n1 (by omega), setE_len]; exact h8, fun j hj => ?_⟩, (Fr.rf _ _).up (by simp)⟩⟩⟩
  rw [setE_len] at hj
  rw [setE_at hk]
  by_cases q : j = k
  · subst q
    rw [if_pos rfl]
    simp (disch := omega) only [up_n1, up_at]
    obtain ⟨a1, a2, a3, a4, a5⟩ := hn j hj
    exact ⟨a1, a2, trivial, a4, a5⟩
  · rw [if_neg q]
    simp (disch := omega) only [up_n1, up_n2]
    exact hn j hj
/-- the empty ones at a place, of the first i -/
def empU (rs : List RG) (p dp q : Nat) : Nat → List Nd
  | 0 => []
  | i + 1 => empU rs p dp q i ++ (if ra rs i = rb rs i ∧ ra rs i = p then [(i, p, p, dp, if dp = 0 then none else some q)] else [])
theorem empU_len (rs : List RG) (p dp q : Nat) : ∀ i, (empU rs p dp q i).length ≤ i
  | 0 => Nat.le_refl _
  | i + 1 => by
    have := empU_len rs p dp q i
    unfold empU
    rw [List.length_append]
    split <;> simp <;> omega
theorem addEmptyOnes_ok {lay : List Nat} (hwf : wfB lay = true) (d : Nat) {μ : Mem} {o t : Nat} {T : TS} {ns : List Nd} {p dp q : Nat} (hT : TeAt μ t T) (hw : WT T) (hd : t + 5 ≤ o ∨ o + 12 ≤ t) (hp : p ≤ 90) (hN : NdAt μ o ns) (hl : ns.length + (empU T.1 p dp q T.1.length).length ≤ 83) (hdp : dp ≤ 5) (hq : 0 < dp → μ.1 (o + 11) (dp - 1) = nI q) : Rn lay (d + 2) mNe_addEmptyOnes [rf 11 o, rf 13 t, vi (nI p), vi (nI dp)] μ (Pn fun μ1 => NdAt μ1 o (ns ++ empU T.1 p dp q T.1.length) ∧ Frn o (ndC o) μ μ1) := by
  have hn := hw.1.1
  have hL := hw.2.1
  refine Rn_intro ok_Ne_addEmptyOnes hwf rfl (fun G hC => g_Ne_addEmptyOnes_0 hC ?_)
  have mono : ∀ i, i ≤ T.1.length → (empU T.1 p dp q i).length ≤ (empU T.1 p dp q T.1.length).length := by
    have : ∀ m i, i + m = T.1.length → (empU T.1 p dp q i).length ≤ (empU T.1 p dp q T.1.length).length := by
      intro m
      induction m with
      | zero => intro i hi; rw [show T.1.length = i by omega]; exact Nat.le_refl _
      | succ m ih =>
        intro i hi
        have := ih (i + 1) (by omega)
        rw [show empU T.1 p dp q (i + 1) = empU T.1 p dp q i ++ (if ra T.1 i = rb T.1 i ∧ ra T.1 i = p then [(i, p, p, dp, if dp = 0 then none else some q)] else []) from rfl, List.length_append] at this
        omega
    intro i hi
    exact this (T.1.length - i) i (by omega)
  have loop : ∀ m i (μ' : Mem), i + m = T.1.length → NdAt μ' o (ns ++ empU T.1 p dp q i) → Frn o (ndC o) μ μ' → G 3 [rf 11 o, rf 13 t, vi (nI p), vi (nI dp), vi (nI i)] [] μ' := by
    intro m
    induction m with
    | zero =>
      intro i μ' hi hN' hf
      have e0 := hf.1 t (by simp; omega)
      refine g_Ne_addEmptyOnes_3 hC ?_
      rw [e0, hT.1, nx_le (by omega) (by omega)]
      rw [show i = T.1.length by omega] at hN'
      exact ⟨fun _ => ⟨rfl, hN', hf⟩, fun z => absurd (by omega) z⟩
    | succ m ih =>
      intro i μ' hi hN' hf
      have hil : i < T.1.length := by omega
      have hT' : TeAt μ' t T := hT.far hf.fr (fun b hb hb2 => by simp at hb hb2; omega)
      obtain ⟨-, e2, e3⟩ := hT'.2.2.1 i hil
      obtain ⟨-, a2, a3⟩ := hw.1.at hil
      have hm := mono (i + 1) (by omega)
      have enx : empU T.1 p dp q (i + 1) = empU T.1 p dp q i ++ (if ra T.1 i = rb T.1 i ∧ ra T.1 i = p then [(i, p, p, dp, if dp = 0 then none else some q)] else []) := rfl
      have skip : ¬ (ra T.1 i = rb T.1 i ∧ ra T.1 i = p) → G 3 [rf 11 o, rf 13 t, vi (nI p), vi (nI dp), vi (nI (i + 1))] [] μ' := fun z => by
        refine ih (i + 1) μ' (by omega) ?_ hf
        rw [enx, if_neg z, List.append_nil]
        exact hN'
      refine g_Ne_addEmptyOnes_3 hC ?_
      simp (disch := omega) only [hT'.1, nx_le, nI_add]
      refine ⟨fun z => absurd z (by omega), fun _ => ⟨fun z => absurd z (by omega), fun _ => ?_⟩⟩
      refine useV (isEmpty_ok hwf d hT' hw hil) ?_
      rw [bI_eq0]
      refine ⟨fun z => skip (fun w => z w.1), fun z => ?_⟩
      have z := Decidable.not_not.mp z
      rw [nx_cl (by omega), nx_in' (by omega) (by omega), e2, nx_eq (by omega) (by omega)]
      refine ⟨by omega, fun z2 => skip (fun w => z2 w.2), fun z2 => ?_⟩
      rw [enx, if_pos ⟨z, z2⟩, List.length_append, List.length_singleton] at hm
      refine useQ (addNode_ok hwf (d + 1) (q := q) hN' (by rw [List.length_append]; omega) hdp (fun h0 => by rw [hf.1 (o + 11) (by simp)]; exact hq h0)) (fun x μ1 hp1 => ?_)
      refine ih (i + 1) μ1 (by omega) ?_ (hf.tr hp1.2.2)
      rw [enx, if_pos ⟨z, z2⟩, ← List.append_assoc]
      exact hp1.2.1
  exact loop T.1.length 0 μ (by omega) (by simpa [empU] using hN) (Frn.rf _ _ _)
def goOn (zs : List (List Nat)) (c : Nat) : Nat := if 1 ≤ c ∧ c < zs.length then alk (zs.getD (c - 1) []) (zs.getD c []) else 0
theorem goOn_le {zs : List (List Nat)} (hz : ∀ z ∈ zs, oks z) (c : Nat) : goOn zs c ≤ 5 := by
  unfold goOn
  split
  · next h =>
    have h1 := (alk_le (zs.getD (c - 1) []) (zs.getD c [])).2
    have h2 : oks (zs.getD c []) := by
      rw [List.getD, List.getElem?_eq_getElem h.2]
      exact hz _ (List.getElem_mem h.2)
    have := h2.1
    omega
  · omega
theorem goingOnAt_ok {lay : List Nat} (hwf : wfB lay = true) (d : Nat) {μ : Mem} {o c : Nat} {cs cv : List Nat} {zs : List (List Nat)} (hS : SeAt μ (o + 1) cs cv) (hl : cv.length ≤ 15) (hzl : zs.length = cv.length) (hz : ∀ z ∈ zs, oks z) (hch : ∀ s, s < zs.length → μ.1 (o + 5) s = nI (enc (zs.getD s []))) (hc : c ≤ 100) : Rn lay (d + 2) mNe_goingOnAt [rf 11 o, vi (nI c)] μ (Pv (nI (goOn zs c)) μ) := by
  have hzo : ∀ s, s < zs.length → oks (zs.getD s []) := fun s hs => by
    rw [List.getD, List.getElem?_eq_getElem hs]
    exact hz _ (List.getElem_mem hs)
  refine Rn_intro ok_Ne_goingOnAt hwf rfl (fun G hC => g_Ne_goingOnAt_0 hC ?_)
  have e1 : (nI c - nI 1).toInt = (c : Int) - 1 := by
    rw [pk_sub_toInt (by omega) (by omega)]
    omega
  refine useV (seHas_ok hwf _ hS hl _) ?_
  rw [bI_eq0, e1]
  refine ⟨fun z => pv_e ?_, fun z => ?_⟩
  · unfold goOn
    rw [if_neg (by omega)]
  · refine useV (seHas_ok hwf _ hS hl _) ?_
    rw [bI_eq0, nI_ti (by omega)]
    refine ⟨fun z2 => ?_, fun z2 => pv_e ?_⟩
    · have h1 : 1 ≤ c ∧ c < zs.length := by omega
      rw [nx_sub h1.1]
      simp (disch := omega) only [nx_cl, nx_in', hch c h1.2, hch (c - 1) (by omega)]
      refine ⟨by omega, by omega, ?_⟩
      refine useV (alike_ok hwf d (hzo (c - 1) (by omega)) (hzo c h1.2) μ) (pv_e ?_)
      unfold goOn
      rw [if_pos h1]
    · unfold goOn
      rw [if_neg (by omega)]
end
section
/-! Nest: pieces of a section; all nodes, place by place -/
def pcs (x : List Nat) (b e g : Nat) : Nat → List Nd × (Nat → Nat) → List Nd × (Nat → Nat)
  | 0, st => st
  | k + 1, st => if g ≤ k then ((pcs x b e g k st).1 ++ [(x.getD k 0, b, e, k, if k = 0 then none else some ((pcs x b e g k st).2 (k - 1)))], fun j => if j = k then (pcs x b e g k st).1.length else (pcs x b e g k st).2 j) else (setE (pcs x b e g k st).1 ((pcs x b e g k st).2 k) e, (pcs x b e g k st).2)
theorem pcs_len (x : List Nat) (b e g : Nat) (st : List Nd × (Nat → Nat)) : ∀ k, st.1.length ≤ (pcs x b e g k st).1.length ∧ (pcs x b e g k st).1.length ≤ st.1.length + k
  | 0 => ⟨Nat.le_refl _, Nat.le_refl _⟩
  | k + 1 => by
    have := pcs_len x b e g st k
    unfold pcs
    split
    · rw [List.length_append, List.length_singleton]
      omega
    · rw [setE_len]
      omega
theorem gd_in {l : List Nat} {k : Nat} (h : k < l.length) : l[k]? = some (l.getD k 0) := by
  rw [List.getD, List.getElem?_eq_getElem h]
  rfl
theorem setE_same {ns : List Nd} {r b e k : Nat} {u : Option Nat} : setE (ns ++ [(r, b, e, k, u)]) ns.length e = ns ++ [(r, b, e, k, u)] := by
  unfold setE
  rw [nd_last]
  refine List.ext_getElem? (fun j => ?_)
  by_cases h : j = ns.length
  · subst h
    rw [List.getElem?_set_self (by simp)]
    simp
  · rw [List.getElem?_set_ne (Ne.symm h)]
abbrev npC (o : Nat) : List Nat := [o, o + 6, o + 7, o + 8, o + 9, o + 10, o + 11]
theorem SeAt.fr {μ μ1 : Mem} {s : Nat} {cs cv : List Nat} (h : SeAt μ s cs cv) (h0 : ∀ b ∈ seC s, μ1.1 b = μ.1 b) : SeAt μ1 s cs cv := by
  obtain ⟨⟨c1, c2⟩, c3, c4, c5⟩ := h
  have e0 := h0 s (by simp)
  have e1 := h0 (s + 1) (by simp)
  have e2 := h0 (s + 2) (by simp)
  have e3 := h0 (s + 3) (by simp)
  exact ⟨⟨by rw [e0]; exact c1, fun i hi => by rw [e1]; exact c2 i hi⟩, by rw [e0]; exact c3, fun i hi => by rw [e2]; exact c4 i hi, fun i hi => by rw [e3]; exact c5 i hi⟩
theorem addPieces_ok {lay : List Nat} (hwf : wfB lay = true) (d : Nat) {μ : Mem} {o s g : Nat} {cs cv : List Nat} {zs : List (List Nat)} {ns : List Nd} {op : Nat → Nat} (hS : SeAt μ (o + 1) cs cv) (hcl : cs.length ≤ 16) (hcv : cv.length = cs.length - 1) (hok : okC cv) (hzl : zs.length = cv.length) (hz : ∀ q, q < cv.length → isSt (cv.getD q 0) (zs.getD q [])) (hch : ∀ q, q < zs.length → μ.1 (o + 5) q = nI (enc (zs.getD q []))) (hs : s < cv.length) (hN : NdAt μ o ns) (hl : ns.length + 5 ≤ 83) (hg : g ≤ (zs.getD s []).length) (hop : ∀ j, j < g → μ.1 (o + 11) j = nI (op j) ∧ op j < ns.length) : Rn lay (d + 1) mNe_addPieces [rf 11 o, vi (nI s), vi (nI g)] μ (Pq fun x μ1 => x = nI (zs.getD s []).length ∧ NdAt μ1 o (pcs (zs.getD s []) (cs.getD s 0) (cs.getD (s + 1) 0) g (zs.getD s []).length (ns, op)).1 ∧ (∀ j, j < (zs.getD s []).length → μ1.1 (o + 11) j = nI ((pcs (zs.getD s []) (cs.getD s 0) (cs.getD (s + 1) 0) g (zs.getD s []).length (ns, op)).2 j) ∧ (pcs (zs.getD s []) (cs.getD s 0) (cs.getD (s + 1) 0) g (zs.getD s []).length (ns, op)).2 j < (pcs (zs.getD s []) (cs.getD s 0) (cs.getD (s + 1) 0) g (zs.getD s []).length (ns, op)).1.length) ∧ Frn o (npC o) μ μ1) := by
  obtain ⟨b1, b2⟩ := hok.at hs
  have hst := hz s hs
  have hx := hst.ok b2
  have hxl := hst.len
  have hx5 := hx.1
  refine Rn_intro ok_Ne_addPieces hwf rfl (fun G hC => g_Ne_addPieces_0 hC ?_)
  have loop : ∀ n k (μ' : Mem), k + n = (zs.getD s []).length → NdAt μ' o (pcs (zs.getD s []) (cs.getD s 0) (cs.getD (s + 1) 0) g k (ns, op)).1 → (∀ j, j < k ∨ j < g → μ'.1 (o + 11) j = nI ((pcs (zs.getD s []) (cs.getD s 0) (cs.getD (s + 1) 0) g k (ns, op)).2 j) ∧ (pcs (zs.getD s []) (cs.getD s 0) (cs.getD (s + 1) 0) g k (ns, op)).2 j < (pcs (zs.getD s []) (cs.getD s 0) (cs.getD (s + 1) 0) g k (ns, op)).1.length) → Frn o (npC o) μ μ' → G 53 [rf 11 o, vi (nI s), vi (nI g), vi (nI (cs.getD s 0)), vi (nI (cs.getD (s + 1) 0)), vi (nI (popN (cv.getD s 0))), vi (nI k)] [] μ' := by
    intro n
    induction n with
    | zero =>
      intro k μ' hk hN' hop' hf
      refine g_Ne_addPieces_53 hC ?_
      rw [nx_le (by omega) (by omega)]
      refine ⟨fun _ => ⟨_, rfl, by rw [hxl], ?_, fun j hj => ?_, hf⟩, fun z => absurd (by omega) z⟩
      · rw [show (zs.getD s []).length = k by omega]; exact hN'
      · rw [show (zs.getD s []).length = k by omega]; exact hop' j (Or.inl (by omega))
    | succ n ih =>
      intro k μ' hk hN' hop' hf
      have hpl := pcs_len (zs.getD s []) (cs.getD s 0) (cs.getD (s + 1) 0) g (ns, op) k
      dsimp only at hpl
      have ih := ih (k + 1)
      rw [show pcs (zs.getD s []) (cs.getD s 0) (cs.getD (s + 1) 0) g (k + 1) (ns, op) = if g ≤ k then ((pcs (zs.getD s []) (cs.getD s 0) (cs.getD (s + 1) 0) g k (ns, op)).1 ++ [((zs.getD s []).getD k 0, cs.getD s 0, cs.getD (s + 1) 0, k, if k = 0 then none else some ((pcs (zs.getD s []) (cs.getD s 0) (cs.getD (s + 1) 0) g k (ns, op)).2 (k - 1)))], fun j => if j = k then (pcs (zs.getD s []) (cs.getD s 0) (cs.getD (s + 1) 0) g k (ns, op)).1.length else (pcs (zs.getD s []) (cs.getD s 0) (cs.getD (s + 1) 0) g k (ns, op)).2 j) else (setE (pcs (zs.getD s []) (cs.getD s 0) (cs.getD (s + 1) 0) g k (ns, op)).1 ((pcs (zs.getD s []) (cs.getD s 0) (cs.getD (s + 1) 0) g k (ns, op)).2 k) (cs.getD (s + 1) 0), (pcs (zs.getD s []) (cs.getD s 0) (cs.getD (s + 1) 0) g k (ns, op)).2) from rfl] at ih
      generalize hst1 : pcs (zs.getD s []) (cs.getD s 0) (cs.getD (s + 1) 0) g k (ns, op) = st at hN' hop' hpl ih
      refine g_Ne_addPieces_53 hC ?_
      rw [nx_le (by omega) (by omega), nx_le (by omega) (by omega), nx_lt (by omega) (by omega), nI_add]
      refine ⟨fun z => absurd z (by omega), fun _ => ⟨fun z => absurd z (by omega), fun _ => ⟨fun z => ?_, fun z => ?_⟩⟩⟩
      · rw [if_neg (by omega)] at ih
        obtain ⟨o1, o2⟩ := hop' k (Or.inr z)
        rw [nx_cl (by omega), nx_in' (by omega) (by omega), o1]
        refine ⟨by omega, ?_⟩
        refine useN (stretch_ok hwf d hN' (by omega) o2) (fun μ1 hp => ?_)
        refine ih μ1 (by omega) hp.1 (fun j hj => ?_) (hf.tr (Frn.of hp.2 (by simp) (by simp)))
        dsimp only
        rw [hp.2.1 (o + 11) (by simp), setE_len]
        exact hop' j (by omega)
      · rw [if_pos (by omega)] at ih
        have hc5 : μ'.1 (o + 5) s = nI (enc (zs.getD s [])) := by rw [hf.1 (o + 5) (by simp)]; exact hch s (by omega)
        have hxk : (zs.getD s [])[k]? = some ((zs.getD s []).getD k 0) := gd_in (by omega)
        rw [nx_in' (by omega) (by omega), nx_cl (by omega), hc5]
        refine ⟨by omega, ?_⟩
        refine useV (at_ok hwf d hx (by omega) μ') ?_
        rw [show atI (zs.getD s []) k = nI ((zs.getD s []).getD k 0) by unfold atI; rw [hxk]]
        refine useQ (addNode_ok hwf d (q := st.2 (k - 1)) hN' (by omega) (by omega) (fun h0 => (hop' (k - 1) (Or.inl (by omega))).1)) (fun x95 μ1 hp => ?_)
        obtain ⟨rfl, p1, p2⟩ := hp
        simp (disch := omega) only [nx_cl, nx_in', up_at]
        refine ⟨by omega, by omega, ?_⟩
        have hN2 : NdAt (upI μ1 (o + 11) k (nI st.1.length)) o (st.1 ++ [((zs.getD s []).getD k 0, cs.getD s 0, cs.getD (s + 1) 0, k, if k = 0 then none else some (st.2 (k - 1)))]) := by
          refine ⟨by rw [up_n1 (by omega)]; exact p1.1, fun j hj => ?_⟩
          simp (disch := omega) only [up_n1]
          exact p1.2 j hj
        refine useN (stretch_ok hwf d (k := st.1.length) hN2 (by rw [List.length_append, List.length_singleton]; omega) (by simp)) (fun μ2 hp2 => ?_)
        rw [setE_same] at hp2
        refine ih μ2 (by omega) hp2.1 (fun j hj => ?_) (((hf.tr (p2.mono (by simp))).up (by simp) (by omega)).tr (Frn.of hp2.2 (by simp) (by simp)))
        dsimp only
        rw [hp2.2.1 (o + 11) (by simp), List.length_append, List.length_singleton]
        by_cases e : j = k
        · subst e
          rw [up_at, if_pos rfl]
          exact ⟨rfl, by omega⟩
        · rw [up_n2 e, if_neg e, p2.1 (o + 11) (by simp)]
          have := hop' j (by omega)
          exact ⟨this.1, by omega⟩
  refine useV (seHas_ok hwf _ hS (by omega) _) ?_
  rw [bI_eq0, nI_ti (by omega)]
  refine ⟨fun _ => ?_, fun z => absurd (by omega) z⟩
  have h1 : μ.1 (o + 1 + 1) s = nI (cs.getD s 0) := hS.1.2 s (by omega)
  have h2 : μ.1 (o + 1 + 1) (s + 1) = nI (cs.getD (s + 1) 0) := hS.1.2 (s + 1) (by omega)
  have h3 : μ.1 (o + 1 + 2) s = nI (cv.getD s 0) := hS.2.2.1 s hs
  rw [nI_add]
  simp (disch := omega) only [nx_cl, nx_in', h1, h2, h3]
  refine ⟨by omega, by omega, by omega, ?_⟩
  refine useV (bitCount_ok hwf _ b1 μ) ?_
  exact loop (zs.getD s []).length 0 μ (by omega) hN (fun j hj => hop j (by omega)) (Frn.rf _ _ _)
theorem addPieces_no {lay : List Nat} (hwf : wfB lay = true) (d : Nat) {μ : Mem} {o s : Nat} {g : Int32} {cs cv : List Nat} (hS : SeAt μ (o + 1) cs cv) (hl : cv.length ≤ 15) (hs : cv.length ≤ s) (hs2 : s < 1000) : Rn lay (d + 1) mNe_addPieces [rf 11 o, vi (nI s), vi g] μ (Pv (nI 0) μ) := by
  refine Rn_intro ok_Ne_addPieces hwf rfl (fun G hC => g_Ne_addPieces_0 hC ?_)
  refine useV (seHas_ok hwf _ hS hl _) ?_
  rw [bI_eq0, nI_ti (by omega)]
  exact ⟨fun z => absurd (by omega) z, fun _ => pv_e rfl⟩
end
section
/-! Nest.layNodes -/
abbrev LNS : Type := List Nd × (Nat → Nat) × Nat × Nat
/-- nodes, the open ones, how deep, which cut is next: ahead of a place -/
def lnS (rs : List RG) (cs : List Nat) (zs : List (List Nat)) : Nat → LNS
  | 0 => ([], fun _ => 0, 0, 0)
  | p + 1 =>
    match lnS rs cs zs p with
    | (ns, op, dp, c) =>
      if c < cs.length ∧ cs.getD c 0 = p then
        (if c < zs.length then
          ((pcs (zs.getD c []) (cs.getD c 0) (cs.getD (c + 1) 0) (goOn zs c) (zs.getD c []).length (ns ++ empU rs p (goOn zs c) (op (goOn zs c - 1)) rs.length, op)).1, (pcs (zs.getD c []) (cs.getD c 0) (cs.getD (c + 1) 0) (goOn zs c) (zs.getD c []).length (ns ++ empU rs p (goOn zs c) (op (goOn zs c - 1)) rs.length, op)).2, (zs.getD c []).length, c + 1)
        else (ns ++ empU rs p (goOn zs c) (op (goOn zs c - 1)) rs.length, op, 0, c + 1))
      else (ns ++ empU rs p dp (op (dp - 1)) rs.length, op, dp, c)
def nodesOf (rs : List RG) (L : Nat) (cs : List Nat) (zs : List (List Nat)) : List Nd := (lnS rs cs zs (L + 1)).1
def emC (rs : List RG) (p : Nat) (n : Nat) : Nat := smN (fun r => decide (ra rs r = rb rs r ∧ ra rs r < p)) (fun _ => 1) n
theorem smN_one (p : Nat → Bool) : ∀ n, smN p (fun _ => 1) n ≤ n
  | 0 => Nat.le_refl _
  | n + 1 => by
    have := smN_one p n
    unfold smN
    split <;> omega
theorem empU_sm (rs : List RG) (p dp q : Nat) : ∀ n, (empU rs p dp q n).length = smN (fun r => decide (ra rs r = rb rs r ∧ ra rs r = p)) (fun _ => 1) n
  | 0 => rfl
  | n + 1 => by
    have ih := empU_sm rs p dp q n
    unfold empU smN
    rw [List.length_append, ih]
    by_cases h : ra rs n = rb rs n ∧ ra rs n = p
    · rw [if_pos h, if_pos (decide_eq_true h)]
      rfl
    · rw [if_neg h, if_neg (fun z => h (of_decide_eq_true z))]
      rfl
theorem emC_step (rs : List RG) (p dp q n : Nat) : emC rs (p + 1) n = emC rs p n + (empU rs p dp q n).length := by
  rw [empU_sm]
  unfold emC
  exact smN_or (fun r _ => by
    rw [decide_eq_true_eq, decide_eq_true_eq, decide_eq_true_eq]
    omega)
theorem layNodes_ok {lay : List Nat} (hwf : wfB lay = true) (d : Nat) {μ : Mem} {o t : Nat} {T : TS} {cs cv : List Nat} {zs : List (List Nat)} (hT : TeAt μ t T) (hw : WT T) (hd : t + 5 ≤ o ∨ o + 12 ≤ t) (hS : SeAt μ (o + 1) cs cv) (hcl : cs.length ≤ 16) (hcb : ∀ c ∈ cs, c ≤ 90) (hcv : cv.length = cs.length - 1) (hok : okC cv) (hzl : zs.length = cv.length) (hz : ∀ q, q < cv.length → isSt (cv.getD q 0) (zs.getD q [])) (hch : ∀ q, q < zs.length → μ.1 (o + 5) q = nI (enc (zs.getD q []))) : Rn lay (d + 3) mNe_layNodes [rf 11 o, rf 13 t] μ (Pn fun μ1 => NdAt μ1 o (nodesOf T.1 T.2.1 cs zs) ∧ Frn o (npC o) μ μ1) := by
  have hn := hw.1.1
  have hL := hw.2.1
  have hzo : ∀ z ∈ zs, oks z := fun z hzz => by
    obtain ⟨q, hq⟩ := List.getElem?_of_mem hzz
    have hql : q < zs.length := (List.getElem?_eq_some_iff.mp hq).1
    have := (hz q (by omega)).ok (hok.at (show q < cv.length by omega)).2
    rw [List.getD, hq] at this
    exact this
  have hzo2 : ∀ q, q < zs.length → (zs.getD q []).length ≤ 5 := fun q hq => ((hz q (by omega)).ok (hok.at (show q < cv.length by omega)).2).1
  refine Rn_intro ok_Ne_layNodes hwf rfl (fun G hC => g_Ne_layNodes_0 hC ?_)
  have loop : ∀ n p (μ' : Mem) (ns : List Nd) (op : Nat → Nat) (dp c : Nat), p + n = T.2.1 + 1 → lnS T.1 cs zs p = (ns, op, dp, c) → NdAt μ' o ns → c ≤ cs.length → dp = (if 1 ≤ c ∧ c - 1 < zs.length then (zs.getD (c - 1) []).length else 0) → (∀ j, j < dp → μ'.1 (o + 11) j = nI (op j) ∧ op j < ns.length) → ns.length ≤ 5 * (if c < zs.length then c else zs.length) + emC T.1 p T.1.length → Frn o (npC o) μ μ' → G 12 [rf 11 o, rf 13 t, vi (nI dp), vi (nI c), vi (nI p), un] [] μ' := by
    intro n
    induction n with
    | zero =>
      intro p μ' ns op dp c hp hln hN hc hdp hop hlen hf
      have e0 := hf.1 t (by simp; omega)
      refine g_Ne_layNodes_12 hC ?_
      rw [e0, hT.2.1, nx_lt (by omega) (by omega)]
      refine ⟨fun _ => ⟨rfl, ?_, hf⟩, fun z => absurd (by omega) z⟩
      unfold nodesOf
      rw [← hp, Nat.add_zero, hln]
      exact hN
    | succ n ih =>
      intro p μ' ns op dp c hp hln hN hc hdp hop hlen hf
      have e0 := hf.1 t (by simp; omega)
      have hT' : TeAt μ' t T := hT.far hf.fr (fun b hb hb2 => by simp at hb hb2; omega)
      have hS' : SeAt μ' (o + 1) cs cv := hS.fr (fun b hb => hf.1 b (by simp at hb ⊢; omega))
      have hch' : ∀ q, q < zs.length → μ'.1 (o + 5) q = nI (enc (zs.getD q [])) := fun q hq => by rw [hf.1 (o + 5) (by simp)]; exact hch q hq
      have hdp5 : dp ≤ 5 := by
        rw [hdp]
        split
        · next h => exact hzo2 _ h.2
        · omega
      have hem : emC T.1 (p + 1) T.1.length ≤ 8 := Nat.le_trans (smN_one _ _) hn
      have hlen2 : 5 * (if c < zs.length then c else zs.length) ≤ 75 := by split <;> omega
      have hgd : goOn zs c ≤ dp := by
        unfold goOn
        split
        · next h =>
          have := (alk_le (zs.getD (c - 1) []) (zs.getD c [])).1
          rw [hdp, if_pos ⟨h.1, by omega⟩]
          exact this
        · omega
      have hg5 := goOn_le hzo c
      have enx : lnS T.1 cs zs (p + 1) = if c < cs.length ∧ cs.getD c 0 = p then
        (if c < zs.length then
          ((pcs (zs.getD c []) (cs.getD c 0) (cs.getD (c + 1) 0) (goOn zs c) (zs.getD c []).length (ns ++ empU T.1 p (goOn zs c) (op (goOn zs c - 1)) T.1.length, op)).1, (pcs (zs.getD c []) (cs.getD c 0) (cs.getD (c + 1) 0) (goOn zs c) (zs.getD c []).length (ns ++ empU T.1 p (goOn zs c) (op (goOn zs c - 1)) T.1.length, op)).2, (zs.getD c []).length, c + 1)
        else (ns ++ empU T.1 p (goOn zs c) (op (goOn zs c - 1)) T.1.length, op, 0, c + 1))
        else (ns ++ empU T.1 p dp (op (dp - 1)) T.1.length, op, dp, c) := by
        conv => lhs; unfold lnS
        rw [hln]
      refine g_Ne_layNodes_12 hC ?_
      rw [e0, hT.2.1, nx_lt (by omega) (by omega), nI_add, nI_add]
      refine ⟨fun z => absurd z (by omega), fun _ => ?_⟩
      refine useV (isCut_ok hwf _ hS'.1 hcl hcb (by omega) (by omega)) ?_
      rw [bI_eq0]
      refine ⟨fun z => ?_, fun z => ?_⟩
      · rw [if_neg z] at enx
        have hel := emC_step T.1 p dp (op (dp - 1)) T.1.length
        refine useN (addEmptyOnes_ok hwf d (q := op (dp - 1)) hT' hw hd (by omega) hN (by omega) hdp5 (fun h0 => (hop (dp - 1) (by omega)).1)) (fun μ1 hp1 => ?_)
        obtain ⟨p1, p2⟩ := hp1
        refine ⟨fun _ => ?_, fun w => absurd z w⟩
        refine ih (p + 1) μ1 _ op dp c (by omega) enx p1 hc hdp (fun j hj => ?_) ?_ (hf.tr (p2.mono (by simp)))
        · rw [p2.1 (o + 11) (by simp), List.length_append]
          have := hop j hj
          exact ⟨this.1, by omega⟩
        · rw [List.length_append]
          omega
      · have z := Decidable.not_not.mp z
        rw [if_pos z] at enx
        have hel := emC_step T.1 p (goOn zs c) (op (goOn zs c - 1)) T.1.length
        refine useV (goingOnAt_ok hwf d hS' (by omega) hzl hzo hch' (by omega)) ?_
        refine useN (addEmptyOnes_ok hwf d (q := op (goOn zs c - 1)) hT' hw hd (by omega) hN (by omega) hg5 (fun h0 => (hop (goOn zs c - 1) (by omega)).1)) (fun μ1 hp1 => ?_)
        obtain ⟨p1, p2⟩ := hp1
        have hf1 := hf.tr (p2.mono (S' := npC o) (by simp))
        have hS1 : SeAt μ1 (o + 1) cs cv := hS.fr (fun b hb => hf1.1 b (by simp at hb ⊢; omega))
        have hch1 : ∀ q, q < zs.length → μ1.1 (o + 5) q = nI (enc (zs.getD q [])) := fun q hq => by rw [hf1.1 (o + 5) (by simp)]; exact hch q hq
        refine ⟨fun w => absurd z w, fun _ => ?_⟩
        by_cases hcz : c < zs.length
        · rw [if_pos hcz] at enx
          have hgl : goOn zs c ≤ (zs.getD c []).length := by
            unfold goOn
            split
            · exact (alk_le (zs.getD (c - 1) []) (zs.getD c [])).2
            · omega
          have hz5 := hzo2 c hcz
          refine useQ (addPieces_ok hwf (d + 1) (s := c) (g := goOn zs c) (ns := ns ++ empU T.1 p (goOn zs c) (op (goOn zs c - 1)) T.1.length) (op := op) hS1 hcl hcv hok hzl hz hch1 (by omega) p1 (by
            rw [List.length_append]
            rw [if_pos hcz] at hlen
            omega) hgl (fun j hj => by
            rw [p2.1 (o + 11) (by simp), List.length_append]
            have := hop j (by omega)
            exact ⟨this.1, by omega⟩)) (fun x μ2 hp2 => ?_)
          obtain ⟨rfl, q1, q2, q3⟩ := hp2
          have hpl := pcs_len (zs.getD c []) (cs.getD c 0) (cs.getD (c + 1) 0) (goOn zs c) (ns ++ empU T.1 p (goOn zs c) (op (goOn zs c - 1)) T.1.length, op) (zs.getD c []).length
          dsimp only at hpl
          rw [List.length_append] at hpl
          refine ih (p + 1) μ2 _ _ _ (c + 1) (by omega) enx q1 (by omega) ?_ q2 ?_ (hf1.tr q3)
          · rw [if_pos ⟨by omega, by rw [Nat.add_sub_cancel]; exact hcz⟩, Nat.add_sub_cancel]
          · rw [if_pos hcz] at hlen
            split <;> omega
        · rw [if_neg hcz] at enx
          refine useV (addPieces_no hwf (d + 1) hS1 (by omega) (by omega) (by omega)) ?_
          refine ih (p + 1) μ1 _ _ 0 (c + 1) (by omega) enx p1 (by omega) ?_ (fun j hj => by omega) ?_ hf1
          · rw [if_neg (by omega)]
          · rw [List.length_append]
            rw [if_neg hcz] at hlen
            rw [if_neg (by omega)]
            omega
  refine loop (T.2.1 + 1) 0 _ [] (fun _ => 0) 0 0 (by omega) rfl ⟨by rw [up_at]; rfl, fun k hk => by simp at hk⟩ (by omega) (by simp) (fun j hj => by omega) (by simp) ((Frn.rf _ _ _).up (by simp) (Or.inr rfl))
end
section
/-! Nest: what is told of all nodes; a range broken up -/
def ndB (L : Nat) (ns : List Nd) : Prop := ns.length ≤ 83 ∧ ∀ k, k < ns.length → (ns.getD k nd0).1 < 8 ∧ (ns.getD k nd0).2.1 ≤ (ns.getD k nd0).2.2.1 ∧ (ns.getD k nd0).2.2.1 ≤ L ∧ (ns.getD k nd0).2.2.2.1 ≤ 5
def fS (f : Nd → Nat) (ns : List Nd) : Nat → Nat
  | 0 => 0
  | k + 1 => fS f ns k + f (ns.getD k nd0)
def fM (f : Nd → Nat) (ns : List Nd) : Nat → Nat
  | 0 => 0
  | k + 1 => if fM f ns k < f (ns.getD k nd0) then f (ns.getD k nd0) else fM f ns k
theorem fS_le {f : Nd → Nat} {ns : List Nd} {B n : Nat} (h : ∀ k, k < n → f (ns.getD k nd0) ≤ B) : fS f ns n ≤ B * n := by
  induction n with
  | zero => exact Nat.zero_le _
  | succ n ih =>
    have h1 := ih (fun k hk => h k (by omega))
    have h2 := h n (by omega)
    rw [Nat.mul_succ]
    unfold fS
    omega
theorem fM_le {f : Nd → Nat} {ns : List Nd} {B n : Nat} (h : ∀ k, k < n → f (ns.getD k nd0) ≤ B) : fM f ns n ≤ B := by
  induction n with
  | zero => exact Nat.zero_le _
  | succ n ih =>
    have h1 := ih (fun k hk => h k (by omega))
    have h2 := h n (by omega)
    unfold fM
    split <;> omega
theorem isPiece_ok {lay : List Nat} (hwf : wfB lay = true) (d : Nat) {μ : Mem} {o L : Nat} {ns : List Nd} (hN : NdAt μ o ns) (hB : ndB L ns) (hL : L ≤ 90) {k : Nat} (hk : k < ns.length) : Rn lay d mNe_isPiece [rf 11 o, vi (nI k)] μ (Pv (bI ((ns.getD k nd0).2.1 < (ns.getD k nd0).2.2.1)) μ) := by
  obtain ⟨a1, a2, a3, a4, a5⟩ := hN.2 k hk
  obtain ⟨b1, b2, b3, b4⟩ := hB.2 k hk
  have := hB.1
  refine Rn_intro ok_Ne_isPiece hwf rfl (fun G hC => g_Ne_isPiece_0 hC ?_)
  simp (disch := omega) only [nx_cl, nx_in', a2, a3, nx_le]
  exact ⟨by omega, by omega, fun z => pv_f (by omega), fun z => pv_t (by omega)⟩
def pcF (r : Nat) : Nd → Nat := fun x => if x.1 = r ∧ x.2.1 < x.2.2.1 then 1 else 0
theorem piecesOf_ok {lay : List Nat} (hwf : wfB lay = true) (d : Nat) {μ : Mem} {o L : Nat} {ns : List Nd} (hN : NdAt μ o ns) (hB : ndB L ns) (hL : L ≤ 90) {r : Nat} (hr : r < 1000) : Rn lay (d + 1) mNe_piecesOf [rf 11 o, vi (nI r)] μ (Pv (nI (fS (pcF r) ns ns.length)) μ) := by
  have hl := hB.1
  refine Rn_intro ok_Ne_piecesOf hwf rfl (fun G hC => g_Ne_piecesOf_0 hC ?_)
  have loop : ∀ n k, k + n = ns.length → G 4 [rf 11 o, vi (nI r), vi (nI (fS (pcF r) ns k)), vi (nI k)] [] μ := by
    intro n
    induction n with
    | zero =>
      intro k hk
      refine g_Ne_piecesOf_4 hC ?_
      rw [hN.1, nx_le (by omega) (by omega)]
      exact ⟨fun _ => pv_e (by rw [← hk]; rfl), fun z => absurd (by omega) z⟩
    | succ n ih =>
      intro k hk
      have hkl : k < ns.length := by omega
      obtain ⟨a1, a2, a3, a4, a5⟩ := hN.2 k hkl
      obtain ⟨b1, b2, b3, b4⟩ := hB.2 k hkl
      have ih := ih (k + 1) (by omega)
      rw [show fS (pcF r) ns (k + 1) = fS (pcF r) ns k + pcF r (ns.getD k nd0) from rfl] at ih
      unfold pcF at ih ⊢
      refine g_Ne_piecesOf_4 hC ?_
      simp (disch := omega) only [hN.1, nx_le, nx_cl, nx_in', a1, nx_eq, nI_add]
      refine ⟨fun z => absurd z (by omega), fun _ => ⟨by omega, fun z => ?_, fun z => ?_⟩⟩
      · rw [if_neg (fun w => z w.1)] at ih
        exact ih
      · refine useV (isPiece_ok hwf d hN hB hL hkl) ?_
        rw [bI_eq0]
        refine ⟨fun z2 => ?_, fun z2 => ?_⟩
        · rw [if_neg (fun w => z2 w.2)] at ih
          exact ih
        · rw [if_pos ⟨z, Decidable.not_not.mp z2⟩] at ih
          exact ih
  exact loop ns.length 0 (by omega)
theorem greatestDepth_ok {lay : List Nat} (hwf : wfB lay = true) (d : Nat) {μ : Mem} {o L : Nat} {ns : List Nd} (hN : NdAt μ o ns) (hB : ndB L ns) : Rn lay d mNe_greatestDepth [rf 11 o] μ (Pv (nI (fM (fun x => x.2.2.2.1) ns ns.length)) μ) := by
  have hl := hB.1
  refine Rn_intro ok_Ne_greatestDepth hwf rfl (fun G hC => g_Ne_greatestDepth_0 hC ?_)
  have loop : ∀ n k, k + n = ns.length → G 4 [rf 11 o, vi (nI (fM (fun x => x.2.2.2.1) ns k)), vi (nI k)] [] μ := by
    intro n
    induction n with
    | zero =>
      intro k hk
      refine g_Ne_greatestDepth_4 hC ?_
      rw [hN.1, nx_le (by omega) (by omega)]
      exact ⟨fun _ => pv_e (by rw [← hk]; rfl), fun z => absurd (by omega) z⟩
    | succ n ih =>
      intro k hk
      have hkl : k < ns.length := by omega
      obtain ⟨a1, a2, a3, a4, a5⟩ := hN.2 k hkl
      obtain ⟨b1, b2, b3, b4⟩ := hB.2 k hkl
      have hfm := fM_le (f := fun x => x.2.2.2.1) (ns := ns) (B := 5) (n := k) (fun j hj => (hB.2 j (by omega)).2.2.2)
      have ih := ih (k + 1) (by omega)
      rw [show fM (fun x => x.2.2.2.1) ns (k + 1) = if fM (fun x => x.2.2.2.1) ns k < (ns.getD k nd0).2.2.2.1 then (ns.getD k nd0).2.2.2.1 else fM (fun x => x.2.2.2.1) ns k from rfl] at ih
      refine g_Ne_greatestDepth_4 hC ?_
      simp (disch := omega) only [hN.1, nx_le, nx_cl, nx_in', a4, nx_lt, nI_add]
      refine ⟨fun z => absurd z (by omega), fun _ => ⟨by omega, ?_⟩⟩
      by_cases q : fM (fun x => x.2.2.2.1) ns k < (ns.getD k nd0).2.2.2.1
      · rw [if_pos q] at ih ⊢
        exact ih
      · rw [if_neg q] at ih ⊢
        exact ih
  exact loop ns.length 0 (by omega)
theorem depthsTogether_ok {lay : List Nat} (hwf : wfB lay = true) (d : Nat) {μ : Mem} {o L : Nat} {ns : List Nd} (hN : NdAt μ o ns) (hB : ndB L ns) : Rn lay d mNe_depthsTogether [rf 11 o] μ (Pv (nI (fS (fun x => x.2.2.2.1) ns ns.length)) μ) := by
  have hl := hB.1
  refine Rn_intro ok_Ne_depthsTogether hwf rfl (fun G hC => g_Ne_depthsTogether_0 hC ?_)
  have loop : ∀ n k, k + n = ns.length → G 4 [rf 11 o, vi (nI (fS (fun x => x.2.2.2.1) ns k)), vi (nI k)] [] μ := by
    intro n
    induction n with
    | zero =>
      intro k hk
      refine g_Ne_depthsTogether_4 hC ?_
      rw [hN.1, nx_le (by omega) (by omega)]
      exact ⟨fun _ => pv_e (by rw [← hk]; rfl), fun z => absurd (by omega) z⟩
    | succ n ih =>
      intro k hk
      have hkl : k < ns.length := by omega
      obtain ⟨a1, a2, a3, a4, a5⟩ := hN.2 k hkl
      refine g_Ne_depthsTogether_4 hC ?_
      simp (disch := omega) only [hN.1, nx_le, nx_cl, nx_in', a4, nI_add]
      exact ⟨fun z => absurd z (by omega), fun _ => ⟨by omega, ih (k + 1) (by omega)⟩⟩
  exact loop ns.length 0 (by omega)
def emF : Nd → Nat := fun x => if x.2.1 < x.2.2.1 then 0 else 1
theorem howManyEmpty_ok {lay : List Nat} (hwf : wfB lay = true) (d : Nat) {μ : Mem} {o L : Nat} {ns : List Nd} (hN : NdAt μ o ns) (hB : ndB L ns) (hL : L ≤ 90) : Rn lay (d + 1) mNe_howManyEmpty [rf 11 o] μ (Pv (nI (fS emF ns ns.length)) μ) := by
  have hl := hB.1
  refine Rn_intro ok_Ne_howManyEmpty hwf rfl (fun G hC => g_Ne_howManyEmpty_0 hC ?_)
  have loop : ∀ n k, k + n = ns.length → G 4 [rf 11 o, vi (nI (fS emF ns k)), vi (nI k)] [] μ := by
    intro n
    induction n with
    | zero =>
      intro k hk
      refine g_Ne_howManyEmpty_4 hC ?_
      rw [hN.1, nx_le (by omega) (by omega)]
      exact ⟨fun _ => pv_e (by rw [← hk]; rfl), fun z => absurd (by omega) z⟩
    | succ n ih =>
      intro k hk
      have hkl : k < ns.length := by omega
      have ih := ih (k + 1) (by omega)
      rw [show fS emF ns (k + 1) = fS emF ns k + emF (ns.getD k nd0) from rfl] at ih
      unfold emF at ih ⊢
      refine g_Ne_howManyEmpty_4 hC ?_
      simp (disch := omega) only [hN.1, nx_le, nI_add]
      refine ⟨fun z => absurd z (by omega), fun _ => ?_⟩
      refine useV (isPiece_ok hwf d hN hB hL hkl) ?_
      rw [bI_eq0]
      refine ⟨fun z => ?_, fun z => ?_⟩
      · rw [if_pos (Decidable.not_not.mp z)] at ih
        exact ih
      · rw [if_neg z] at ih
        exact ih
  exact loop ns.length 0 (by omega)
theorem longest_ok {lay : List Nat} (hwf : wfB lay = true) (d : Nat) {μ : Mem} {o L : Nat} {ns : List Nd} (hN : NdAt μ o ns) (hB : ndB L ns) (hL : L ≤ 90) : Rn lay d mNe_longest [rf 11 o] μ (Pv (nI (fM (fun x => x.2.2.1 - x.2.1) ns ns.length)) μ) := by
  have hl := hB.1
  refine Rn_intro ok_Ne_longest hwf rfl (fun G hC => g_Ne_longest_0 hC ?_)
  have loop : ∀ n k, k + n = ns.length → G 4 [rf 11 o, vi (nI (fM (fun x => x.2.2.1 - x.2.1) ns k)), vi (nI k)] [] μ := by
    intro n
    induction n with
    | zero =>
      intro k hk
      refine g_Ne_longest_4 hC ?_
      rw [hN.1, nx_le (by omega) (by omega)]
      exact ⟨fun _ => pv_e (by rw [← hk]; rfl), fun z => absurd (by omega) z⟩
    | succ n ih =>
      intro k hk
      have hkl : k < ns.length := by omega
      obtain ⟨a1, a2, a3, a4, a5⟩ := hN.2 k hkl
      obtain ⟨b1, b2, b3, b4⟩ := hB.2 k hkl
      have hfm := fM_le (f := fun x => x.2.2.1 - x.2.1) (ns := ns) (B := 90) (n := k) (fun j hj => by
        have := (hB.2 j (by omega)).2.2.1
        omega)
      have ih := ih (k + 1) (by omega)
      rw [show fM (fun x => x.2.2.1 - x.2.1) ns (k + 1) = if fM (fun x => x.2.2.1 - x.2.1) ns k < (ns.getD k nd0).2.2.1 - (ns.getD k nd0).2.1 then (ns.getD k nd0).2.2.1 - (ns.getD k nd0).2.1 else fM (fun x => x.2.2.1 - x.2.1) ns k from rfl] at ih
      refine g_Ne_longest_4 hC ?_
      simp (disch := omega) only [hN.1, nx_le, nx_cl, nx_in', a2, a3, nx_sub, nx_lt, nI_add]
      refine ⟨fun z => absurd z (by omega), fun _ => ⟨by omega, by omega, ?_⟩⟩
      by_cases q : fM (fun x => x.2.2.1 - x.2.1) ns k < (ns.getD k nd0).2.2.1 - (ns.getD k nd0).2.1
      · rw [if_pos q] at ih ⊢
        exact ih
      · rw [if_neg q] at ih ⊢
        exact ih
  exact loop ns.length 0 (by omega)
def noF : Nd → Nat := fun x => if x.2.2.2.1 = 0 then 1 else 0
theorem howManyInNone_ok {lay : List Nat} (hwf : wfB lay = true) (d : Nat) {μ : Mem} {o L : Nat} {ns : List Nd} (hN : NdAt μ o ns) (hB : ndB L ns) : Rn lay d mNe_howManyInNone [rf 11 o] μ (Pv (nI (fS noF ns ns.length)) μ) := by
  have hl := hB.1
  refine Rn_intro ok_Ne_howManyInNone hwf rfl (fun G hC => g_Ne_howManyInNone_0 hC ?_)
  have loop : ∀ n k, k + n = ns.length → G 4 [rf 11 o, vi (nI (fS noF ns k)), vi (nI k)] [] μ := by
    intro n
    induction n with
    | zero =>
      intro k hk
      refine g_Ne_howManyInNone_4 hC ?_
      rw [hN.1, nx_le (by omega) (by omega)]
      exact ⟨fun _ => pv_e (by rw [← hk]; rfl), fun z => absurd (by omega) z⟩
    | succ n ih =>
      intro k hk
      have hkl : k < ns.length := by omega
      obtain ⟨a1, a2, a3, a4, a5⟩ := hN.2 k hkl
      obtain ⟨b1, b2, b3, b4⟩ := hB.2 k hkl
      have ih := ih (k + 1) (by omega)
      rw [show fS noF ns (k + 1) = fS noF ns k + noF (ns.getD k nd0) from rfl] at ih
      unfold noF at ih ⊢
      refine g_Ne_howManyInNone_4 hC ?_
      rw [nx_0]
      simp (disch := omega) only [hN.1, nx_le, nx_cl, nx_in', a4, nx_eq, nI_add]
      refine ⟨fun z => absurd z (by omega), fun _ => ⟨by omega, fun z => ?_, fun z => ?_⟩⟩
      · rw [if_neg z] at ih
        exact ih
      · rw [if_pos z] at ih
        exact ih
  exact loop ns.length 0 (by omega)
/-- a range's pieces in its place: the first one there, the others behind all -/
def brk (ns : List Nd) (r : Nat) (rs : List RG) : Nat → List RG × Bool
  | 0 => (rs, true)
  | k + 1 => if (ns.getD k nd0).1 = r ∧ (ns.getD k nd0).2.1 < (ns.getD k nd0).2.2.1 then (if (brk ns r rs k).2 = true then (brk ns r rs k).1.set r (kd (brk ns r rs k).1 r, (ns.getD k nd0).2.1, (ns.getD k nd0).2.2.1) else (brk ns r rs k).1 ++ [(kd (brk ns r rs k).1 r, (ns.getD k nd0).2.1, (ns.getD k nd0).2.2.1)], false) else brk ns r rs k
theorem brk_len (ns : List Nd) (r : Nat) (rs : List RG) : ∀ k, rs.length ≤ (brk ns r rs k).1.length ∧ (brk ns r rs k).1.length ≤ (brk ns r rs (k + 1)).1.length
  | 0 => ⟨Nat.le_refl _, by
    unfold brk
    split
    · dsimp only
      split <;> simp [brk]
    · exact Nat.le_refl _⟩
  | k + 1 => by
    have ih := brk_len ns r rs k
    refine ⟨by omega, ?_⟩
    conv => rhs; unfold brk
    split
    · dsimp only
      split <;> simp
    · exact Nat.le_refl _
theorem brk_mono (ns : List Nd) (r : Nat) (rs : List RG) (k : Nat) : ∀ m, (brk ns r rs k).1.length ≤ (brk ns r rs (k + m)).1.length
  | 0 => Nat.le_refl _
  | m + 1 => Nat.le_trans (brk_mono ns r rs k m) (brk_len ns r rs (k + m)).2
theorem WR_app {L : Nat} {rs : List RG} {x : RG} (h : WR L rs) (hl : rs.length < 8) (hx : x.1 < 4 ∧ x.2.1 ≤ x.2.2 ∧ x.2.2 ≤ L) : WR L (rs ++ [x]) := ⟨by rw [List.length_append, List.length_singleton]; omega, fun r hr => by
  rcases List.mem_append.mp hr with q | q
  · exact h.2 r q
  · simp at q
    rw [q]
    exact hx⟩
theorem breakUp_ok {lay : List Nat} (hwf : wfB lay = true) (d : Nat) {μ : Mem} {o u : Nat} {U : TS} {ns : List Nd} {r : Nat} (hN : NdAt μ o ns) (hB : ndB U.2.1 ns) (hU : TeAt μ u U) (hw : WT U) (hr : r < U.1.length) (hd : u + 5 ≤ o ∨ o + 12 ≤ u) (hl : (brk ns r U.1 ns.length).1.length ≤ 8) : Rn lay (d + 2) mNe_breakUp [rf 11 o, vi (nI r), rf 13 u] μ (Pn fun μ1 => TeAt μ1 u ((brk ns r U.1 ns.length).1, U.2) ∧ WR U.2.1 (brk ns r U.1 ns.length).1 ∧ Fr (teC u) μ μ1) := by
  obtain ⟨hw1, hw2⟩ := hw
  have hn := hw1.1
  have hL := hw2.1
  have hnl := hB.1
  refine Rn_intro ok_Ne_breakUp hwf rfl (fun G hC => g_Ne_breakUp_0 hC ?_)
  have loop : ∀ n k (μ' : Mem), k + n = ns.length → TeAt μ' u ((brk ns r U.1 k).1, U.2) → WR U.2.1 (brk ns r U.1 k).1 → Fr (teC u) μ μ' → G 14 [rf 11 o, vi (nI r), rf 13 u, vi (nI (if (brk ns r U.1 k).2 = true then 1 else 0)), vi (nI k)] [] μ' := by
    intro n
    induction n with
    | zero =>
      intro k μ' hk hT' hW hf
      have hN' : NdAt μ' o ns := by
        refine ⟨by rw [hf.1 o (by simp; omega)]; exact hN.1, fun j hj => ?_⟩
        rw [hf.1 (o + 6) (by simp; omega), hf.1 (o + 7) (by simp; omega), hf.1 (o + 8) (by simp; omega), hf.1 (o + 9) (by simp; omega), hf.1 (o + 10) (by simp; omega)]
        exact hN.2 j hj
      refine g_Ne_breakUp_14 hC ?_
      rw [hN'.1, nx_le (by omega) (by omega)]
      rw [show k = ns.length by omega] at hT' hW
      exact ⟨fun _ => ⟨rfl, hT', hW, hf⟩, fun z => absurd (by omega) z⟩
    | succ n ih =>
      intro k μ' hk hT' hW hf
      have hkl : k < ns.length := by omega
      have hN' : NdAt μ' o ns := by
        refine ⟨by rw [hf.1 o (by simp; omega)]; exact hN.1, fun j hj => ?_⟩
        rw [hf.1 (o + 6) (by simp; omega), hf.1 (o + 7) (by simp; omega), hf.1 (o + 8) (by simp; omega), hf.1 (o + 9) (by simp; omega), hf.1 (o + 10) (by simp; omega)]
        exact hN.2 j hj
      obtain ⟨a1, a2, a3, a4, a5⟩ := hN'.2 k hkl
      obtain ⟨b1, b2, b3, b4⟩ := hB.2 k hkl
      have hbl := brk_len ns r U.1 k
      have hm := brk_mono ns r U.1 (k + 1) n
      rw [show k + 1 + n = ns.length by omega] at hm
      have hrl : r < (brk ns r U.1 k).1.length := by omega
      have ih := ih (k + 1)
      rw [show brk ns r U.1 (k + 1) = if (ns.getD k nd0).1 = r ∧ (ns.getD k nd0).2.1 < (ns.getD k nd0).2.2.1 then (if (brk ns r U.1 k).2 = true then (brk ns r U.1 k).1.set r (kd (brk ns r U.1 k).1 r, (ns.getD k nd0).2.1, (ns.getD k nd0).2.2.1) else (brk ns r U.1 k).1 ++ [(kd (brk ns r U.1 k).1 r, (ns.getD k nd0).2.1, (ns.getD k nd0).2.2.1)], false) else brk ns r U.1 k from rfl] at ih hm hbl
      generalize hst : brk ns r U.1 k = st at hT' hW hrl ih hm hbl ⊢
      obtain ⟨k1, -, -⟩ := hW.at hrl
      refine g_Ne_breakUp_14 hC ?_
      simp (disch := omega) only [hN'.1, nx_le, nx_cl, nx_in', a1, nx_eq, nI_add]
      refine ⟨fun z => absurd z (by omega), fun _ => ⟨by omega, fun z => ?_, fun z => ?_⟩⟩
      · rw [if_neg (fun w => z w.1)] at ih
        exact ih μ' (by omega) hT' hW hf
      · refine useV (isPiece_ok hwf _ hN' hB hL hkl) ?_
        rw [bI_eq0]
        refine ⟨fun z2 => ?_, fun z2 => ?_⟩
        · have z2 := Decidable.not_not.mp z2
          rw [if_pos ⟨z, z2⟩] at ih hm hbl
          dsimp only at ih hm hbl
          have e1 : μ'.1 (u + 1) r = nI (kd st.1 r) := (hT'.2.2.1 r hrl).1
          rw [nx_0, nx_eq (by split <;> omega) (by omega)]
          simp (disch := omega) only [nx_cl, nx_in', a2, a3, e1]
          refine ⟨fun z3 => ⟨by omega, by omega, by omega, ?_⟩, fun z3 => ⟨by omega, by omega, ?_⟩⟩
          · have hs2 : ¬ st.2 = true := fun q => by rw [if_pos q] at z3; omega
            rw [if_neg hs2] at ih hm hbl
            have hl8 : st.1.length < 8 := by
              rw [List.length_append, List.length_singleton] at hm
              omega
            refine useQ (append_ok hwf _ hT' hl8) (fun x μ1 hp => ?_)
            exact ih μ1 (by omega) hp.2.1 (WR_app hW hl8 ⟨k1, by dsimp only; omega, by dsimp only; omega⟩) (hf.tr hp.2.2)
          · have hs2 : st.2 = true := Decidable.not_not.mp (fun q => by rw [if_neg q] at z3; omega)
            rw [if_pos hs2] at ih hm hbl
            refine useN (lay_ok hwf d hT' ⟨hW, hw2⟩ hrl) (fun μ1 hp => ?_)
            exact ih μ1 (by omega) hp.1 (WR_set hW ⟨k1, by dsimp only; omega, by dsimp only; omega⟩) (hf.tr hp.2)
        · rw [if_neg (fun w => z2 w.2)] at ih
          exact ih μ' (by omega) hT' hW hf
  refine useV (has_nat hwf _ hU ⟨hw1, hw2⟩ (by omega)) ?_
  rw [bI_eq0]
  exact ⟨fun _ => loop ns.length 0 μ (by omega) hU hw1 (Fr.rf _ _), fun z => absurd hr z⟩
end
section
/-! NestRanges: the nest is made; what the calls share -/
/-- no place lies under more than five ranges -/
def NC (rs : List RG) : Prop := ∀ p, popN (cov rs p) ≤ 5
theorem pop_sub {a b : Nat} (h : ∀ j, j < 8 → a.testBit j = true → b.testBit j = true) : popN a ≤ popN b := nd_le (bts_nd a) (fun x hx => bts_mem.mpr ⟨(bts_mem.mp hx).1, h x (bts_mem.mp hx).1 (bts_mem.mp hx).2⟩)
theorem nc_of {rs : List RG} (h : crowd rs = false) (hn : rs.length ≤ 8) : NC rs := by
  intro p
  by_cases hex : ∃ r, r < rs.length ∧ ra rs r ≤ p ∧ p < rb rs r
  · -- of those over p the one that begins last
    obtain ⟨r, r1, r2, r3, r4⟩ : ∃ r, r < rs.length ∧ ra rs r ≤ p ∧ p < rb rs r ∧ ∀ q, q < rs.length → ra rs q ≤ p → p < rb rs q → ra rs q ≤ ra rs r := by
      have key : ∀ n, (∃ r, r < n ∧ r < rs.length ∧ ra rs r ≤ p ∧ p < rb rs r) → ∃ r, r < rs.length ∧ ra rs r ≤ p ∧ p < rb rs r ∧ ∀ q, q < n → q < rs.length → ra rs q ≤ p → p < rb rs q → ra rs q ≤ ra rs r := by
        intro n
        induction n with
        | zero => rintro ⟨r, hr, -⟩; omega
        | succ n ih =>
          rintro ⟨r, h1, h2, h3, h4⟩
          by_cases hn2 : ∃ r, r < n ∧ r < rs.length ∧ ra rs r ≤ p ∧ p < rb rs r
          · obtain ⟨s, s1, s2, s3, s4⟩ := ih hn2
            by_cases hb : n < rs.length ∧ ra rs n ≤ p ∧ p < rb rs n ∧ ra rs s < ra rs n
            · refine ⟨n, hb.1, hb.2.1, hb.2.2.1, fun q q1 q2 q3 q4 => ?_⟩
              by_cases e : q = n
              · rw [e]; exact Nat.le_refl _
              · have := s4 q (by omega) q2 q3 q4
                omega
            · refine ⟨s, s1, s2, s3, fun q q1 q2 q3 q4 => ?_⟩
              by_cases e : q = n
              · subst e
                omega
              · exact s4 q (by omega) q2 q3 q4
          · refine ⟨r, h2, h3, h4, fun q q1 q2 q3 q4 => ?_⟩
            by_cases e : q = n
            · by_cases e2 : r = n
              · rw [e, e2]; exact Nat.le_refl _
              · exact absurd ⟨r, by omega, h2, h3, h4⟩ hn2
            · exact absurd ⟨q, by omega, q2, q3, q4⟩ hn2
      obtain ⟨r, r1, r2, r3⟩ := hex
      obtain ⟨s, s1, s2, s3, s4⟩ := key rs.length ⟨r, r1, r1, r2, r3⟩
      exact ⟨s, s1, s2, s3, fun q q1 => s4 q q1 q1⟩
    have h1 : popN (cov rs p) ≤ popN (cov rs (ra rs r)) := pop_sub (fun j hj hb => by
      unfold cov at hb ⊢
      rw [covU_bit, decide_eq_true_eq] at hb ⊢
      exact ⟨hb.1, r4 j hb.1 hb.2.1 hb.2.2, by omega⟩)
    have h2 : ¬ 5 < popN (cov rs (ra rs r)) := fun q => by
      have := crowd_iff.mpr ⟨r, r1, q⟩
      rw [h] at this
      cases this
    omega
  · have h0 : popN (cov rs p) ≤ popN 0 := pop_sub (fun j hj hb => by
      unfold cov at hb
      rw [covU_bit, decide_eq_true_eq] at hb
      exact absurd ⟨j, hb⟩ hex)
    have : popN 0 = 0 := by decide
    omega
theorem clr_pop {c sk : Nat} (hc : c < 256) : popN (clr c sk) ≤ popN c := by
  unfold clr
  split
  · exact pop_sub (fun j hj hb => by
      rw [Nat.testBit_and] at hb
      simp at hb
      exact hb.1)
  · exact Nat.le_refl _
theorem okC_cv {rs : List RG} (hn : rs.length ≤ 8) (h : NC rs) (sk : Nat) (cs : List Nat) : okC (cvL rs sk cs) := fun c hc => by
  unfold cvL at hc
  obtain ⟨i, -, rfl⟩ := List.mem_map.mp hc
  exact ⟨clr_lt (cov_lt hn), Nat.le_trans (clr_pop (cov_lt hn)) (h _)⟩
abbrev csT (T : TS) : List Nat := cutsOf T.1 8
abbrev cvT (T : TS) : List Nat := cvL T.1 8 (csT T)
abbrev rkO (T : TS) : Nat → Nat := rkT T false
def zsT (T : TS) : List (List Nat) := chs (rkO T) (cvT T) none (few (rkO T) (cvT T))
def ndT (T : TS) : List Nd := nodesOf T.1 T.2.1 (csT T) (zsT T)
def NestIs (μ : Mem) (x : Nat) (T : TS) : Prop := SeAt μ (x + 115 + 1) (csT T) (cvT T) ∧ (∀ s, s < (cvT T).length → μ.1 (x + 115 + 5) s = nI (enc ((zsT T).getD s []))) ∧ NdAt μ (x + 115) (ndT T) ∧ μ.1 (x + 115) 9 = nI (few (rkO T) (cvT T)) ∧ μ.1 (x + 115) 10 = nI (asf (rkO T) (cvT T)) ∧ μ.1 (x + 115) 11 = nI (plU (rkO T) (cvT T) ((cvT T).length - 1))
/-- nothing but the nest, what it is made with, and whether it stands has changed -/
def FrX (x : Nat) (μ μ1 : Mem) : Prop := (∀ b, (b < x + 73 ∨ x + 127 ≤ b) → b ≠ x → μ1.1 b = μ.1 b) ∧ (∀ j, j ≠ 6 → μ1.1 x j = μ.1 x j) ∧ μ1.2 = μ.2
theorem FrX.rf (x : Nat) (μ : Mem) : FrX x μ μ := ⟨fun _ _ _ => rfl, fun _ _ => rfl, rfl⟩
theorem FrX.tr {x : Nat} {μ μ1 μ2 : Mem} (h : FrX x μ μ1) (h2 : FrX x μ1 μ2) : FrX x μ μ2 := ⟨fun b hb hb2 => (h2.1 b hb hb2).trans (h.1 b hb hb2), fun j hj => (h2.2.1 j hj).trans (h.2.1 j hj), h2.2.2.trans h.2.2⟩
theorem FrX.of {x lo hi : Nat} {μ μ1 : Mem} (h : Fri lo hi μ μ1) (h1 : x + 73 ≤ lo) (h2 : hi ≤ x + 127) : FrX x μ μ1 := ⟨fun b hb _ => h.1 b (by omega), fun j _ => by rw [h.1 x (by omega)], h.2⟩
theorem FrX.ofS {x : Nat} {S : List Nat} {μ μ1 : Mem} (h : Fr S μ μ1) (hs : ∀ b ∈ S, x + 73 ≤ b ∧ b < x + 127) : FrX x μ μ1 := ⟨fun b hb _ => h.1 b (fun q => by have := hs b q; omega), fun j _ => by rw [h.1 x (fun q => by have := hs x q; omega)], h.2⟩
theorem csT_len {T : TS} (hw : WT T) (sk : Nat) : (cutsOf T.1 sk).length ≤ 16 := by
  have := cutU_len T.1 sk T.1.length
  have := hw.1.1
  unfold cutsOf
  omega
theorem csT_le {T : TS} (hw : WT T) (sk : Nat) : ∀ c ∈ cutsOf T.1 sk, c ≤ 90 := fun c hc => Nat.le_trans (cutU_le hw.1 sk T.1.length (Nat.le_refl _) c hc) hw.2.1
theorem makeNest_ok {lay : List Nat} (hwf : wfB lay = true) (d : Nat) {μ : Mem} {x : Nat} {T : TS} (hT : TeAt μ (x + 1) T) (hw : WT T) (hnc : NC T.1) (h6 : μ.1 x 6 = nI 0 ∨ (μ.1 x 6 = nI 1 ∧ NestIs μ x T)) : Rn lay (d + 9) mX_makeNest [rf 15 x] μ (Pn fun μ1 => μ1.1 x 6 = nI 1 ∧ NestIs μ1 x T ∧ FrX x μ μ1) := by
  have hn := hw.1.1
  have hrk : ∀ r, r < 8 → rkO T r < 4 := fun r _ => rkT_lt hw false r
  have hok : okC (cvT T) := okC_cv hn hnc 8 (csT T)
  have hcl : (csT T).length ≤ 16 := csT_len hw 8
  have hcvl : (cvT T).length = (csT T).length - 1 := cvL_len T.1 8 (csT T)
  have h15 : (cvT T).length ≤ 15 := by omega
  have h100 : (cvT T).length ≤ 100 := by omega
  have hfe := feas_first hrk hok h100
  have hzl : (zsT T).length = (cvT T).length := chs_len _ _ _ _
  have hz : ∀ q, q < (cvT T).length → isSt ((cvT T).getD q 0) ((zsT T).getD q []) := fun q hq => stk_st (hok.at hq).1 (chs_in hrk _ _ _ hok h100 hfe q hq)
  refine Rn_intro ok_X_makeNest hwf rfl (fun G hC => g_X_makeNest_0 hC ?_)
  rcases h6 with h6 | ⟨h6, hne⟩
  · rw [h6]
    refine ⟨fun _ => ?_, fun z => absurd rfl z⟩
    have hcut := cut_ok hwf (d + 6) (s := x + 115 + 1) (sk := 8) hT hw (by omega)
    rw [show skI 8 = mI 0 from if_neg (by omega)] at hcut
    refine useN hcut (fun μ1 hp => ?_)
    obtain ⟨s1, f1⟩ := hp
    have hT1 : TeAt μ1 (x + 1) T := hT.far f1 (fun b hb hb2 => by simp at hb hb2; omega)
    refine useN (weigh_ok hwf d (w := x + 73) (alike := false) hT1 hw s1 h15 hok (by omega) (by omega)) (fun μ2 hp => ?_)
    obtain ⟨w1, w2, w3, f2⟩ := hp
    have s2 : SeAt μ2 (x + 115 + 1) (csT T) (cvT T) := s1.fr (fun b hb => f2.1 b (by simp at hb; omega))
    rw [up_n1 (by omega), w2, w3]
    -- the two numbers are laid down
    have hm3 : ∀ (μ3 : Mem), (∀ b, b ≠ x + 115 → μ3.1 b = μ2.1 b) → WeAt μ3 (x + 73) (rkO T) (cvT T) 0 ∧ SeAt μ3 (x + 115 + 1) (csT T) (cvT T) ∧ μ3.1 (x + 73) 6 = nI (few (rkO T) (cvT T)) := by
      intro μ3 h3
      refine ⟨fun s q1 q2 => ?_, s2.fr (fun b hb => h3 b (by simp at hb; omega)), by rw [h3 (x + 73) (by omega)]; exact w2⟩
      have q3 : s < 15 := Nat.lt_of_lt_of_le q2 h15
      obtain ⟨⟨r1, r2⟩, r3⟩ := w1 s q1 q2
      exact ⟨⟨by rw [h3 _ (by omega)]; exact r1, fun i hi => by rw [h3 _ (by omega)]; exact r2 i hi⟩, fun i hi => by rw [h3 _ (by omega)]; exact r3 i hi⟩
    obtain ⟨a1, a2, -⟩ := hm3 (upI (upI μ2 (x + 115) 9 (nI (few (rkO T) (cvT T)))) (x + 115) 10 (nI (asf (rkO T) (cvT T)))) (fun b hb => by rw [up_cell hb, up_cell hb])
    refine useV (splitsOfFirst_ok hwf (d + 6) hrk a1 a2 h15 hok) ?_
    obtain ⟨b1, b2, b3⟩ := hm3 (upI (upI (upI μ2 (x + 115) 9 (nI (few (rkO T) (cvT T)))) (x + 115) 10 (nI (asf (rkO T) (cvT T)))) (x + 115) 11 (nI (plU (rkO T) (cvT T) ((cvT T).length - 1)))) (fun b hb => by rw [up_cell hb, up_cell hb, up_cell hb])
    refine useN (choose_ok hwf (d + 6) (ch := x + 115 + 5) hrk b1 b3 b2 h15 hok (by omega) (by omega)) (fun μ4 hp => ?_)
    obtain ⟨c1, f4⟩ := hp
    have s4 : SeAt μ4 (x + 115 + 1) (csT T) (cvT T) := b2.fr (fun b hb => f4.1 b (by simp at hb ⊢; omega))
    have hT4 : TeAt μ4 (x + 1) T := by
      refine hT1.fr (fun b hb => ?_)
      have : b ≠ x + 115 ∧ b < x + 73 := by simp at hb; omega
      rw [f4.1 b (by simp; omega), up_cell this.1, up_cell this.1, up_cell this.1, f2.1 b (by omega)]
    refine useN (layNodes_ok hwf (d + 5) (o := x + 115) hT4 hw (by omega) s4 hcl (csT_le hw 8) hcvl hok hzl hz (fun q hq => c1 q (by omega))) (fun μ5 hp => ?_)
    obtain ⟨e1, f5⟩ := hp
    have k115 : ∀ j, j ≠ 8 → (upI μ5 x 6 (nI 1)).1 (x + 115) j = (upI (upI (upI μ2 (x + 115) 9 (nI (few (rkO T) (cvT T)))) (x + 115) 10 (nI (asf (rkO T) (cvT T)))) (x + 115) 11 (nI (plU (rkO T) (cvT T) ((cvT T).length - 1)))).1 (x + 115) j := fun j hj => by
      rw [up_n1 (by omega), f5.2.2 j hj, f4.1 (x + 115) (by simp)]
    refine ⟨rfl, by rw [up_at], ⟨s4.fr (fun b hb => ?_), fun s hs => ?_, ⟨?_, fun k hk => ?_⟩, ?_, ?_, ?_⟩, ⟨fun b hb hb2 => ?_, fun j hj => ?_, ?_⟩⟩
    · have hb : b = x + 115 + 1 ∨ b = x + 115 + 1 + 1 ∨ b = x + 115 + 1 + 2 ∨ b = x + 115 + 1 + 3 := by simpa using hb
      rw [up_cell (by omega), f5.1 b (by simp; omega)]
    · rw [up_n1 (by omega), f5.1 (x + 115 + 5) (by simp)]
      exact c1 s hs
    · rw [up_n1 (by omega)]; exact e1.1
    · simp (disch := omega) only [up_n1]
      exact e1.2 k hk
    · rw [k115 9 (by omega), up_n2 (by omega), up_n2 (by omega), up_at]
    · rw [k115 10 (by omega), up_n2 (by omega), up_at]
    · rw [k115 11 (by omega), up_at]
    · rw [up_cell hb2, f5.1 b (by simp; omega), f4.1 b (by simp; omega), up_cell (by omega), up_cell (by omega), up_cell (by omega), f2.1 b (by omega), f1.1 b (by simp; omega)]
    · rw [up_n2 hj, f5.1 x (by simp; omega), f4.1 x (by simp; omega), up_cell (by omega), up_cell (by omega), up_cell (by omega), f2.1 x (by omega), f1.1 x (by simp; omega)]
    · show μ5.2 = μ.2
      rw [f5.2.1, f4.2]
      show μ2.2 = μ.2
      rw [f2.2, f1.2]
  · rw [h6]
    exact ⟨fun z => absurd z (by decide), fun _ => ⟨rfl, h6, hne, FrX.rf _ _⟩⟩
theorem fewestWithout_ok {lay : List Nat} (hwf : wfB lay = true) (d : Nat) {μ : Mem} {x : Nat} {T : TS} (hT : TeAt μ (x + 1) T) (hw : WT T) (hnc : NC T.1) (sk : Nat) (alike : Bool) : Rn lay (d + 9) mX_fewestWithout [rf 15 x, vi (skI sk), vi (nI (if alike = true then 1 else 0))] μ (Pq fun v μ1 => v = nI (few (rkT T alike) (cvL T.1 sk (cutsOf T.1 sk))) ∧ Fri (x + 73) (x + 115) μ μ1) := by
  have hn := hw.1.1
  have hok : okC (cvL T.1 sk (cutsOf T.1 sk)) := okC_cv hn hnc sk _
  have hcl := csT_len hw sk
  have hcvl := cvL_len T.1 sk (cutsOf T.1 sk)
  refine Rn_intro ok_X_fewestWithout hwf rfl (fun G hC => g_X_fewestWithout_0 hC ?_)
  refine useN (cut_ok hwf (d + 6) (s := x + 111) (sk := sk) hT hw (by omega)) (fun μ1 hp => ?_)
  obtain ⟨s1, f1⟩ := hp
  have hT1 : TeAt μ1 (x + 1) T := hT.far f1 (fun b hb hb2 => by simp at hb hb2; omega)
  refine useN (weigh_ok hwf d (w := x + 73) (alike := alike) hT1 hw s1 (by omega) hok (by omega) (by omega)) (fun μ2 hp => ?_)
  obtain ⟨w1, w2, w3, f2⟩ := hp
  refine ⟨_, rfl, w2, fun b hb => ?_, ?_⟩
  · rw [f2.1 b (by omega), f1.1 b (by simp; omega)]
  · rw [f2.2, f1.2]
theorem refuseBad_ok {lay : List Nat} (hwf : wfB lay = true) (d : Nat) (μ : Mem) (x : Nat) : Rn lay d mX_refuseBad [rf 15 x] μ (fun v μ1 => v = some (vi (mI 1)) ∧ μ1 = upI μ x 7 (μ.1 x 7 + nI 1)) := Rn_intro ok_X_refuseBad hwf rfl (fun G hC => g_X_refuseBad_0 hC ⟨rfl, rfl⟩)
theorem refuseFull_ok {lay : List Nat} (hwf : wfB lay = true) (d : Nat) (μ : Mem) (x : Nat) : Rn lay d mX_refuseFull [rf 15 x] μ (fun v μ1 => v = some (vi (mI 3)) ∧ μ1 = upI μ x 9 (μ.1 x 9 + nI 1)) := Rn_intro ok_X_refuseFull hwf rfl (fun G hC => g_X_refuseFull_0 hC ⟨rfl, rfl⟩)
theorem settle_ok {lay : List Nat} (hwf : wfB lay = true) (d : Nat) {μ : Mem} {x : Nat} {T U : TS} {hist : List TS} (hT : TeAt μ (x + 1) T) (hw : WT T) (hU : TeAt μ (x + 6) U) (hwU : WT U) (hH : HiAt μ (x + 11) hist) : Rn lay (d + 2) mX_settle [rf 15 x] μ (Pn fun μ1 => TeAt μ1 (x + 1) U ∧ HiAt μ1 (x + 11) ((T :: hist).take 12) ∧ μ1.1 x 6 = nI 0 ∧ (∀ j, j ≠ 6 → μ1.1 x j = μ.1 x j) ∧ μ1.2 = μ.2) := by
  refine Rn_intro ok_X_settle hwf rfl (fun G hC => g_X_settle_0 hC ?_)
  refine useN (keep_ok hwf d hH hT hw (by omega)) (fun μ1 hp => ?_)
  obtain ⟨k1, f1⟩ := hp
  have hU1 : TeAt μ1 (x + 6) U := hU.fi f1 (by omega)
  refine useN (copy_ok hwf (d + 1) (t := x + 1) hU1 hwU (by omega)) (fun μ2 hp => ?_)
  obtain ⟨c1, f2⟩ := hp
  have hf2 := f2.te
  refine ⟨rfl, c1.fr (fun b hb => up_cell (by simp at hb; omega)), ?_, by rw [up_at], fun j hj => ?_, ?_⟩
  · have := k1.fi hf2 (by omega)
    obtain ⟨nx, h1, h2, h3, h4, h5⟩ := this
    refine ⟨nx, h1, by rw [up_n1 (by omega)]; exact h2, by rw [up_n1 (by omega)]; exact h3, h4, fun j T' hj => ?_⟩
    obtain ⟨a, b⟩ := h5 j T' hj
    refine ⟨a.fr (fun c hc => up_cell ?_), b⟩
    unfold slotH at hc
    simp at hc
    omega
  · rw [up_n2 hj, hf2.1 x (by omega), f1.1 x (by omega)]
  · show μ2.2 = μ.2
    rw [hf2.2, f1.2]
end
section
/-! NestRanges: the state, and the calls -/
/-- the text, the texts kept (newest first), the three counters -/
abbrev XS := TS × List TS × Int32 × Int32 × Int32
def okX (S : XS) : Prop := WT S.1 ∧ NC S.1.1 ∧ ∀ T ∈ S.2.1, NC T.1
def XAt (μ : Mem) (x : Nat) (S : XS) : Prop := TeAt μ (x + 1) S.1 ∧ HiAt μ (x + 11) S.2.1 ∧ μ.1 x 7 = S.2.2.1 ∧ μ.1 x 8 = S.2.2.2.1 ∧ μ.1 x 9 = S.2.2.2.2 ∧ okX S ∧ (μ.1 x 6 = nI 0 ∨ (μ.1 x 6 = nI 1 ∧ NestIs μ x S.1))
def xBad (S : XS) : XS := (S.1, S.2.1, S.2.2.1 + nI 1, S.2.2.2.1, S.2.2.2.2)
def xNo (S : XS) : XS := (S.1, S.2.1, S.2.2.1, S.2.2.2.1 + nI 1, S.2.2.2.2)
def xFull (S : XS) : XS := (S.1, S.2.1, S.2.2.1, S.2.2.2.1, S.2.2.2.2 + nI 1)
def xSet (S : XS) (U : TS) : XS := (U, (S.1 :: S.2.1).take 12, S.2.2)
theorem NestIs.fr {μ μ1 : Mem} {x : Nat} {T : TS} (h : NestIs μ x T) (hf : ∀ b, x + 115 ≤ b → μ1.1 b = μ.1 b) : NestIs μ1 x T := by
  obtain ⟨h1, h2, h3, h4, h5, h6⟩ := h
  refine ⟨h1.fr (fun b hb => hf b ?_), fun s hs => by rw [hf _ (by omega)]; exact h2 s hs, ⟨by rw [hf _ (by omega)]; exact h3.1, fun k hk => ?_⟩, by rw [hf _ (by omega)]; exact h4, by rw [hf _ (by omega)]; exact h5, by rw [hf _ (by omega)]; exact h6⟩
  · simp at hb
    omega
  · rw [hf (x + 115 + 6) (by omega), hf (x + 115 + 7) (by omega), hf (x + 115 + 8) (by omega), hf (x + 115 + 9) (by omega), hf (x + 115 + 10) (by omega)]
    exact h3.2 k hk
theorem HiAt.fr {μ μ1 : Mem} {h : Nat} {hist : List TS} (hh : HiAt μ h hist) (hf : ∀ b, h ≤ b → b < h + 62 → μ1.1 b = μ.1 b) : HiAt μ1 h hist := by
  obtain ⟨nx, h1, h2, h3, h4, h5⟩ := hh
  have e := hf h (by omega) (by omega)
  refine ⟨nx, h1, by rw [e]; exact h2, by rw [e]; exact h3, h4, fun j T hj => ?_⟩
  obtain ⟨a, b⟩ := h5 j T hj
  refine ⟨a.fr (fun c hc => hf c ?_ ?_), b⟩ <;> (unfold slotH at hc; simp at hc; omega)
/-- a counter of x has changed and nothing else -/
theorem XAt.up {μ : Mem} {x k : Nat} {v : Int32} {S : XS} (h : XAt μ x S) (hk : k ≠ 6) : TeAt (upI μ x k v) (x + 1) S.1 ∧ HiAt (upI μ x k v) (x + 11) S.2.1 ∧ ((upI μ x k v).1 x 6 = nI 0 ∨ ((upI μ x k v).1 x 6 = nI 1 ∧ NestIs (upI μ x k v) x S.1)) := by
  obtain ⟨h1, h2, h3, h4, h5, h6, h7⟩ := h
  refine ⟨h1.fr (fun b hb => up_cell (by simp at hb; omega)), h2.fr (fun b hb _ => up_cell (by omega)), ?_⟩
  rw [up_n2 (by omega)]
  rcases h7 with h7 | ⟨h7, h8⟩
  · exact Or.inl h7
  · exact Or.inr ⟨h7, h8.fr (fun b hb => up_cell (by omega))⟩
theorem XAt.bad {μ : Mem} {x : Nat} {S : XS} (h : XAt μ x S) : XAt (upI μ x 7 (μ.1 x 7 + nI 1)) x (xBad S) := by
  obtain ⟨u1, u2, u3⟩ := h.up (k := 7) (v := μ.1 x 7 + nI 1) (by omega)
  obtain ⟨h1, h2, h3, h4, h5, h6, h7⟩ := h
  exact ⟨u1, u2, by rw [up_at, h3]; rfl, by rw [up_n2 (by omega)]; exact h4, by rw [up_n2 (by omega)]; exact h5, h6, u3⟩
theorem XAt.no {μ : Mem} {x : Nat} {S : XS} (h : XAt μ x S) : XAt (upI μ x 8 (μ.1 x 8 + nI 1)) x (xNo S) := by
  obtain ⟨u1, u2, u3⟩ := h.up (k := 8) (v := μ.1 x 8 + nI 1) (by omega)
  obtain ⟨h1, h2, h3, h4, h5, h6, h7⟩ := h
  exact ⟨u1, u2, by rw [up_n2 (by omega)]; exact h3, by rw [up_at, h4]; rfl, by rw [up_n2 (by omega)]; exact h5, h6, u3⟩
theorem XAt.full {μ : Mem} {x : Nat} {S : XS} (h : XAt μ x S) : XAt (upI μ x 9 (μ.1 x 9 + nI 1)) x (xFull S) := by
  obtain ⟨u1, u2, u3⟩ := h.up (k := 9) (v := μ.1 x 9 + nI 1) (by omega)
  obtain ⟨h1, h2, h3, h4, h5, h6, h7⟩ := h
  exact ⟨u1, u2, by rw [up_n2 (by omega)]; exact h3, by rw [up_n2 (by omega)]; exact h4, by rw [up_at, h5]; rfl, h6, u3⟩
/-- a call answers c and leaves the state S' -/
abbrev PX (x : Nat) (c : Int32) (S : XS) : PT := Pq fun v μ1 => v = c ∧ XAt μ1 x S
theorem useBad {lay : List Nat} (hwf : wfB lay = true) (d : Nat) {μ : Mem} {x : Nat} {S : XS} (h : XAt μ x S) : ∃ P : PT, Rn lay d mX_refuseBad [rf 15 x] μ P ∧ ∀ (v : Int32) (μ1 : Mem), P (some (vi v)) μ1 → PX x (mI 1) (xBad S) (some (vi v)) μ1 := ⟨_, refuseBad_ok hwf d μ x, fun v μ1 hp => by
  obtain ⟨q1, q2⟩ := hp
  cases q1
  subst q2
  exact ⟨_, rfl, rfl, h.bad⟩⟩
theorem useFull {lay : List Nat} (hwf : wfB lay = true) (d : Nat) {μ : Mem} {x : Nat} {S : XS} (h : XAt μ x S) : ∃ P : PT, Rn lay d mX_refuseFull [rf 15 x] μ P ∧ ∀ (v : Int32) (μ1 : Mem), P (some (vi v)) μ1 → PX x (mI 3) (xFull S) (some (vi v)) μ1 := ⟨_, refuseFull_ok hwf d μ x, fun v μ1 hp => by
  obtain ⟨q1, q2⟩ := hp
  cases q1
  subst q2
  exact ⟨_, rfl, rfl, h.full⟩⟩
theorem nc_nil : NC [] := fun p => by
  have : cov [] p = 0 := rfl
  rw [this]
  decide
theorem rk0_lt : ∀ k ∈ rk0, k < 4 := by decide
/-- anew: what it answers is the number of ranges before -/
theorem anew_ok {lay : List Nat} (hwf : wfB lay = true) (d : Nat) {μ : Mem} {x : Nat} {S : XS} (h : XAt μ x S) (v : Int32) : Rn lay (d + 1) mX_anew [rf 15 x, vi v] μ (if 0 ≤ v.toInt ∧ v.toInt ≤ 90 then PX x (nI S.1.1.length) (([], v.toInt.toNat, rk0), [], S.2.2) else PX x (mI 1) (xBad S)) := by
  refine Rn_intro ok_X_anew hwf rfl (fun G hC => g_X_anew_0 hC ?_)
  have e90 : (nI 90).toInt = 90 := by decide
  refine ⟨fun q => ?_, fun q => ⟨fun q2 => ?_, fun q2 => ?_⟩⟩
  · rw [i_lt, i_0] at q
    rw [if_neg (by omega)]
    exact useBad hwf _ h
  · rw [nx_ge0] at q
    obtain ⟨j, j1, j2⟩ := q
    subst j2
    rw [nx_le (by omega) (by omega)] at q2
    rw [nI_ti (by omega), if_pos (by omega), Int.toNat_natCast]
    refine useN (clear_ok hwf _ μ (x + 1)) (fun μ1 hp => ?_)
    obtain ⟨p1, p2⟩ := hp
    have hH : HiAt μ1 (x + 11) S.2.1 := h.2.1.fr (fun b hb _ => p2.1 b (by simp; omega))
    refine useN (forget_ok hwf _ hH) (fun μ2 hp => ?_)
    obtain ⟨p3, p4⟩ := hp
    have e0 : μ2.1 x = μ.1 x := by rw [p4.1 x (by omega), p2.1 x (by simp; omega)]
    obtain ⟨h1, h2, h3, h4, h5, h6, h7⟩ := h
    refine ⟨_, rfl, h1.1, (p1.fi p4 (by omega)).fr (fun b hb => up_cell (by simp at hb; omega)), p3.fr (fun b hb _ => up_cell (by omega)), by rw [up_n2 (by omega), e0]; exact h3, by rw [up_n2 (by omega), e0]; exact h4, by rw [up_n2 (by omega), e0]; exact h5, ⟨⟨⟨by simp, fun r hr => by simp at hr⟩, q2, rfl, rk0_lt⟩, nc_nil, fun T hT => by simp at hT⟩, Or.inl (by rw [up_at])⟩
  · rw [i_le, e90] at q2
    rw [if_neg (by omega)]
    exact useBad hwf _ h
theorem fri_xs {μ μ1 : Mem} {x : Nat} {S : XS} (h : XAt μ x S) (hf : FrX x μ μ1) (h6 : μ1.1 x 6 = nI 0 ∨ (μ1.1 x 6 = nI 1 ∧ NestIs μ1 x S.1)) : XAt μ1 x S := by
  obtain ⟨h1, h2, h3, h4, h5, h7, h8⟩ := h
  exact ⟨h1.fr (fun b hb => hf.1 b (by simp at hb; omega) (by simp at hb; omega)), h2.fr (fun b hb hb2 => hf.1 b (by omega) (by omega)), by rw [hf.2.1 7 (by omega)]; exact h3, by rw [hf.2.1 8 (by omega)]; exact h4, by rw [hf.2.1 9 (by omega)]; exact h5, h7, h6⟩
/-- the nest is made, then K -/
theorem useNest {lay : List Nat} (hwf : wfB lay = true) (d : Nat) {μ : Mem} {x : Nat} {S : XS} (h : XAt μ x S) {K : Mem → Prop} (k : ∀ μ1, XAt μ1 x S → NestIs μ1 x S.1 → K μ1) : ∃ P : PT, Rn lay (d + 9) mX_makeNest [rf 15 x] μ P ∧ ∀ μ1 : Mem, P none μ1 → K μ1 := by
  refine useN (makeNest_ok hwf d h.1 h.2.2.2.2.2.1.1 h.2.2.2.2.2.1.2.1 h.2.2.2.2.2.2) (fun μ1 hp => ?_)
  obtain ⟨a, b, c⟩ := hp
  exact k μ1 (fri_xs h c (Or.inr ⟨a, b⟩)) b
theorem least_ok {lay : List Nat} (hwf : wfB lay = true) (d : Nat) {μ : Mem} {x : Nat} {S : XS} (h : XAt μ x S) : Rn lay (d + 10) mX_least [rf 15 x] μ (PX x (nI (few (rkO S.1) (cvT S.1))) S) := by
  refine Rn_intro ok_X_least hwf rfl (fun G hC => g_X_least_0 hC ?_)
  exact useNest hwf d h (fun μ1 q r => ⟨_, rfl, r.2.2.2.1, q⟩)
/-- undo -/
theorem undo_ok {lay : List Nat} (hwf : wfB lay = true) (d : Nat) {μ : Mem} {x : Nat} {S : XS} (h : XAt μ x S) : Rn lay (d + 2) mX_undo [rf 15 x] μ (match S.2.1 with
    | [] => PX x (mI 2) (xNo S)
    | T :: hist => PX x (nI hist.length) (T, hist, S.2.2)) := by
  refine Rn_intro ok_X_undo hwf rfl (fun G hC => g_X_undo_0 hC ?_)
  obtain ⟨C, hi, c3⟩ := S
  cases hi with
  | nil =>
    refine useV (takeBack_no hwf d h.2.1) ⟨fun q => absurd nx_0.symm q, fun _ => ⟨_, rfl, rfl, h.no⟩⟩
  | cons T hist =>
    refine useQ (takeBack_ok hwf d (u := x + 1) h.2.1 (by omega)) (fun v μ1 hp => ?_)
    obtain ⟨p1, p2, p3, p4, p5, p6⟩ := hp
    subst p1
    refine ⟨fun _ => ?_, fun q => ?_⟩
    · have e0 : μ1.1 x = μ.1 x := p5 x (by omega) (by omega)
      obtain ⟨h1, h2, h3, h4, h5, h6, h7⟩ := h
      have hl : (upI μ1 x 6 (nI 0)).1 (x + 11) 2 = nI hist.length := by
        rw [up_n1 (by omega)]
        obtain ⟨nx, a, b, c, _⟩ := p4
        exact c
      exact ⟨_, rfl, hl, p2.fr (fun b hb => up_cell (by simp at hb; omega)), p4.fr (fun b hb _ => up_cell (by omega)), by rw [up_n2 (by omega), e0]; exact h3, by rw [up_n2 (by omega), e0]; exact h4, by rw [up_n2 (by omega), e0]; exact h5, ⟨p3, h6.2.2 T (by simp), fun U hU => h6.2.2 U (by simp [hU])⟩, Or.inl (by rw [up_at])⟩
    · rw [nx_0, nx_eq (by omega) (by omega)] at q
      omega
theorem ways_ok {lay : List Nat} (hwf : wfB lay = true) (d : Nat) {μ : Mem} {x : Nat} {S : XS} (h : XAt μ x S) : Rn lay (d + 10) mX_ways [rf 15 x] μ (PX x (nI (asf (rkO S.1) (cvT S.1))) S) := by
  refine Rn_intro ok_X_ways hwf rfl (fun G hC => g_X_ways_0 hC ?_)
  exact useNest hwf d h (fun μ1 q r => ⟨_, rfl, r.2.2.2.2.1, q⟩)
theorem plain_ok {lay : List Nat} (hwf : wfB lay = true) (d : Nat) {μ : Mem} {x : Nat} {S : XS} (h : XAt μ x S) : Rn lay (d + 10) mX_plain [rf 15 x] μ (PX x (nI (plU (rkO S.1) (cvT S.1) ((cvT S.1).length - 1))) S) := by
  refine Rn_intro ok_X_plain hwf rfl (fun G hC => g_X_plain_0 hC ?_)
  exact useNest hwf d h (fun μ1 q r => ⟨_, rfl, r.2.2.2.2.2, q⟩)
theorem nodes_ok {lay : List Nat} (hwf : wfB lay = true) (d : Nat) {μ : Mem} {x : Nat} {S : XS} (h : XAt μ x S) : Rn lay (d + 10) mX_nodes [rf 15 x] μ (PX x (nI (ndT S.1).length) S) := by
  refine Rn_intro ok_X_nodes hwf rfl (fun G hC => g_X_nodes_0 hC ?_)
  exact useNest hwf d h (fun μ1 q r => ⟨_, rfl, r.2.2.1.1, q⟩)
/-- what is weighed without a range changes neither the state nor the nest -/
theorem XAt.side {μ μ1 : Mem} {x : Nat} {S : XS} (h : XAt μ x S) (hf : Fri (x + 73) (x + 115) μ μ1) : XAt μ1 x S := by
  refine fri_xs h (FrX.of hf (by omega) (by omega)) ?_
  rw [hf.1 x (by omega)]
  rcases h.2.2.2.2.2.2 with q | ⟨q, r⟩
  · exact Or.inl q
  · exact Or.inr ⟨q, r.fr (fun b hb => hf.1 b (by omega))⟩
theorem free_ok {lay : List Nat} (hwf : wfB lay = true) (d : Nat) {μ : Mem} {x : Nat} {S : XS} (h : XAt μ x S) : Rn lay (d + 10) mX_free [rf 15 x] μ (PX x (nI (few (rkT S.1 true) (cvL S.1.1 8 (cutsOf S.1.1 8)))) S) := by
  refine Rn_intro ok_X_free hwf rfl (fun G hC => g_X_free_0 hC ?_)
  exact useQ (fewestWithout_ok hwf d h.1 h.2.2.2.2.2.1.1 h.2.2.2.2.2.1.2.1 8 true) (fun v μ1 hp => ⟨_, rfl, hp.1, h.side hp.2⟩)
theorem over_ok {lay : List Nat} (hwf : wfB lay = true) (d : Nat) {μ : Mem} {x : Nat} {S : XS} (h : XAt μ x S) (v : Int32) : Rn lay (d + 1) mX_over [rf 15 x, vi v] μ (if 0 ≤ v.toInt ∧ v.toInt < S.1.2.1 then PX x (nI (cov S.1.1 v.toInt.toNat)) S else PX x (mI 1) (xBad S)) := by
  refine Rn_intro ok_X_over hwf rfl (fun G hC => g_X_over_0 hC ?_)
  have hL := h.2.2.2.2.2.1.1.2.1
  rw [h.1.2.1]
  refine ⟨fun q => ?_, fun q => ⟨fun q2 => ?_, fun q2 => ?_⟩⟩
  · rw [i_lt, i_0] at q
    rw [if_neg (by omega)]
    exact useBad hwf _ h
  · rw [nx_ge0] at q
    obtain ⟨j, j1, j2⟩ := q
    subst j2
    rw [nx_lt (by omega) (by omega)] at q2
    rw [nI_ti (by omega), if_pos (by omega), Int.toNat_natCast]
    exact useV (coverAt_ok hwf _ h.1 h.2.2.2.2.2.1.1 j1) ⟨_, rfl, rfl, h⟩
  · rw [i_lt, nI_ti (by omega)] at q2
    rw [if_neg (by omega)]
    exact useBad hwf _ h
/-- the trial text has changed and nothing else -/
theorem XAt.trial {μ μ1 : Mem} {x : Nat} {S : XS} (h : XAt μ x S) (hf : Fr (teC (x + 6)) μ μ1) : XAt μ1 x S := by
  obtain ⟨h1, h2, h3, h4, h5, h6, h7⟩ := h
  have e0 : μ1.1 x = μ.1 x := hf.1 x (by simp; omega)
  refine ⟨h1.far hf (fun b hb hb2 => by simp at hb hb2; omega), h2.fr (fun b hb _ => hf.1 b (by simp; omega)), by rw [e0]; exact h3, by rw [e0]; exact h4, by rw [e0]; exact h5, h6, ?_⟩
  rw [e0]
  rcases h7 with q | ⟨q, r⟩
  · exact Or.inl q
  · exact Or.inr ⟨q, r.fr (fun b hb => hf.1 b (by simp; omega))⟩
theorem useSettle {lay : List Nat} (hwf : wfB lay = true) (d : Nat) {μ : Mem} {x : Nat} {S : XS} {U : TS} (h : XAt μ x S) (hU : TeAt μ (x + 6) U) (hwU : WT U) (hnU : NC U.1) {K : Mem → Prop} (k : ∀ μ1, XAt μ1 x (xSet S U) → K μ1) : ∃ P : PT, Rn lay (d + 2) mX_settle [rf 15 x] μ P ∧ ∀ μ1 : Mem, P none μ1 → K μ1 := by
  obtain ⟨h1, h2, h3, h4, h5, h6, h7⟩ := h
  refine useN (settle_ok hwf d h1 h6.1 hU hwU h2) (fun μ1 hp => ?_)
  obtain ⟨p1, p2, p3, p4, p5⟩ := hp
  refine k μ1 ⟨p1, p2, by rw [p4 7 (by omega)]; exact h3, by rw [p4 8 (by omega)]; exact h4, by rw [p4 9 (by omega)]; exact h5, ⟨hwU, hnU, fun T hT => ?_⟩, Or.inl p3⟩
  have := List.mem_of_mem_take hT
  rcases List.mem_cons.mp this with q | q
  · rw [q]; exact h6.2.1
  · exact h6.2.2 T q
/-- of any int that the text has as a range: it is a number below the count -/
theorem ix_of {v : Int32} {n : Nat} (h : 0 ≤ v.toInt ∧ v.toInt < n) (hn : n < 2147483648) : ∃ j : Nat, j < n ∧ v = nI j ∧ v.toInt.toNat = j := by
  have : ¬ v < 0 := by
    rw [i_lt, i_0]
    omega
  rw [nx_ge0] at this
  obtain ⟨j, j1, j2⟩ := this
  subst j2
  rw [nI_ti j1] at h ⊢
  exact ⟨j, by omega, rfl, by omega⟩
/-- how many ranges lie over p, as the list has them -/
theorem pop_cov {rs : List RG} (hn : rs.length ≤ 8) (p : Nat) : popN (cov rs p) = (rs.filter fun r => decide (r.2.1 ≤ p ∧ p < r.2.2)).length := by
  have e : rs = (List.range rs.length).map (fun j => rs.getD j (0, 0, 0)) := by
    apply List.ext_getElem?
    intro i
    rw [List.getElem?_map]
    rcases Nat.lt_or_ge i rs.length with q | q
    · rw [List.getElem?_range q]
      simp [List.getD_eq_getElem?_getD, List.getElem?_eq_getElem q]
    · rw [List.getElem?_eq_none q, List.getElem?_eq_none (by simpa using q)]
      rfl
  have e2 : (List.range 8) = List.range rs.length ++ (List.range (8 - rs.length)).map (rs.length + ·) := by
    rw [← List.range_add]
    congr 1
    omega
  unfold popN cov
  rw [e2, List.filter_append, List.length_append]
  have z : ((List.range (8 - rs.length)).map (rs.length + ·)).filter (fun j => (covU rs p rs.length).testBit j) = [] := by
    rw [List.filter_eq_nil_iff]
    intro a ha
    rw [List.mem_map] at ha
    obtain ⟨b, _, hb⟩ := ha
    rw [covU_bit]
    simp
    omega
  rw [z]
  conv => rhs; rw [e]
  rw [List.filter_map, List.length_map, List.length_nil, Nat.add_zero]
  congr 1
  apply List.filter_congr
  intro j hj
  rw [covU_bit]
  rw [List.mem_range] at hj
  apply decide_eq_decide.mpr
  exact ⟨fun q => q.2, fun q => ⟨hj, q⟩⟩
theorem nc_erase {rs : List RG} (hn : rs.length ≤ 8) (h : NC rs) (j : Nat) : NC (rs.eraseIdx j) := by
  intro p
  have h1 := h p
  have hs : (rs.eraseIdx j).Sublist rs := List.eraseIdx_sublist rs j
  rw [pop_cov (Nat.le_trans hs.length_le hn)]
  rw [pop_cov hn] at h1
  exact Nat.le_trans (hs.filter _).length_le h1
theorem wr_erase {T : TS} (hw : WT T) (j : Nat) : WT (T.1.eraseIdx j, T.2) := by
  obtain ⟨⟨h1, h2⟩, h3⟩ := hw
  have hs : (T.1.eraseIdx j).Sublist T.1 := List.eraseIdx_sublist T.1 j
  exact ⟨⟨Nat.le_trans hs.length_le h1, fun r hr => h2 r (hs.subset hr)⟩, h3⟩
theorem drop_ok {lay : List Nat} (hwf : wfB lay = true) (d : Nat) {μ : Mem} {x : Nat} {S : XS} (h : XAt μ x S) (v : Int32) : Rn lay (d + 3) mX_drop [rf 15 x, vi v] μ (if 0 ≤ v.toInt ∧ v.toInt < S.1.1.length then PX x (nI (S.1.1.length - 1)) (xSet S (S.1.1.eraseIdx v.toInt.toNat, S.1.2)) else PX x (mI 1) (xBad S)) := by
  refine Rn_intro ok_X_drop hwf rfl (fun G hC => g_X_drop_0 hC ?_)
  have hw := h.2.2.2.2.2.1.1
  have hn := hw.1.1
  refine useV (has_ok hwf _ h.1 hw v) ?_
  rw [bI_eq0]
  refine ⟨fun q => ?_, fun q => ?_⟩
  · have q := Classical.not_not.mp q
    rw [if_pos q]
    obtain ⟨j, j1, j2, j3⟩ := ix_of q (by omega)
    rw [j3]
    subst j2
    refine useN (copy_ok hwf _ (t := x + 6) h.1 hw (by omega)) (fun μ1 hp => ?_)
    obtain ⟨p1, p2⟩ := hp
    refine useN (remove_ok hwf _ p1 hw j1) (fun μ2 hp => ?_)
    obtain ⟨p3, p4⟩ := hp
    refine useSettle hwf d ((h.trial p2).trial p4) p3 (wr_erase hw j) (nc_erase hn h.2.2.2.2.2.1.2.1 j) (fun μ3 q3 => ⟨_, rfl, ?_, q3⟩)
    rw [q3.1.1]
    show nI (S.1.1.eraseIdx j).length = _
    rw [List.length_eraseIdx_of_lt j1]
  · rw [if_neg q]
    exact useBad hwf _ h
end
section
/-! the calls that add, move, and change kinds and ranks -/
theorem nat_of {v : Int32} (h : 0 ≤ v.toInt) : ∃ j : Nat, j < 2147483648 ∧ v = nI j ∧ v.toInt = j := by
  have : ¬ v < 0 := by
    rw [i_lt, i_0]
    omega
  rw [nx_ge0] at this
  obtain ⟨j, j1, j2⟩ := this
  exact ⟨j, j1, j2, by rw [j2, nI_ti j1]⟩
abbrev tN (v : Int32) : Nat := v.toInt.toNat
theorem range_ok {lay : List Nat} (hwf : wfB lay = true) (d : Nat) {μ : Mem} {x : Nat} {S : XS} (h : XAt μ x S) (k a b : Int32) : Rn lay (d + 3) mX_range [rf 15 x, vi k, vi a, vi b] μ (if (0 ≤ k.toInt ∧ k.toInt < 4) ∧ 0 ≤ a.toInt ∧ a.toInt ≤ b.toInt ∧ b.toInt ≤ S.1.2.1 then (if S.1.1.length < 8 ∧ ¬ crowd (S.1.1 ++ [(tN k, tN a, tN b)]) = true then PX x (nI S.1.1.length) (xSet S (S.1.1 ++ [(tN k, tN a, tN b)], S.1.2)) else PX x (mI 3) (xFull S)) else PX x (mI 1) (xBad S)) := by
  refine Rn_intro ok_X_range hwf rfl (fun G hC => g_X_range_0 hC ?_)
  have hw := h.2.2.2.2.2.1.1
  have hn := hw.1.1
  have hL := hw.2.1
  refine useV (isKind_ok hwf _ k μ) ?_
  rw [bI_eq0]
  refine ⟨fun q => ?_, fun q => ?_⟩
  · rw [if_neg (fun z => q z.1)]
    exact useBad hwf _ h
  · have q := Classical.not_not.mp q
    refine useV (holds_ok hwf _ h.1 hw a b) ?_
    rw [bI_eq0]
    refine ⟨fun r => ?_, fun r => ?_⟩
    · have r := Classical.not_not.mp r
      rw [if_pos ⟨q, r⟩]
      obtain ⟨k', k1, k2, k3⟩ := nat_of q.1
      obtain ⟨a', a1, a2, a3⟩ := nat_of r.1
      obtain ⟨b', b1, b2, b3⟩ := nat_of (Int.le_trans r.1 r.2.1)
      rw [k3] at q
      rw [a3, b3] at r
      have ek : tN k = k' := by unfold tN; rw [k3]; rfl
      have ea : tN a = a' := by unfold tN; rw [a3]; rfl
      have eb : tN b = b' := by unfold tN; rw [b3]; rfl
      rw [ek, ea, eb, k2, a2, b2]
      refine useN (copy_ok hwf _ (t := x + 6) h.1 hw (by omega)) (fun μ1 hp => ?_)
      obtain ⟨p1, p2⟩ := hp
      have h1 := h.trial p2
      by_cases h8 : S.1.1.length < 8
      · refine useQ (append_ok hwf _ (k := k') (a := a') (b := b') p1 h8) (fun v μ2 hp => ?_)
        obtain ⟨e, p3, p4⟩ := hp
        subst e
        have h2 := h1.trial p4
        have hw2 : WT (S.1.1 ++ [(k', a', b')], S.1.2) := by
          obtain ⟨⟨w1, w2⟩, w3⟩ := hw
          refine ⟨⟨by simp; omega, fun r' hr => ?_⟩, w3⟩
          rcases List.mem_append.mp hr with z | z
          · exact w2 r' z
          · rw [List.mem_singleton.mp z]
            exact ⟨by show k' < 4; omega, by show a' ≤ b'; omega, by show b' ≤ S.1.2.1; omega⟩
        refine ⟨fun z => absurd z (by rw [nx_0, nx_eq (by omega) (by omega)]; omega), fun _ => ?_⟩
        refine useV (isCrowded_ok hwf _ p3 hw2) ?_
        rw [bI_eq0]
        refine ⟨fun c => ?_, fun c => ?_⟩
        · rw [if_pos ⟨h8, c⟩]
          refine useSettle hwf d h2 p3 hw2 (nc_of (by simpa using c) (by simp; omega)) (fun μ3 q3 => ⟨_, rfl, ?_, q3⟩)
          rw [q3.1.1]
          show nI (S.1.1 ++ [(k', a', b')]).length - nI 1 = _
          rw [List.length_append, List.length_singleton, nx_sub (by omega), Nat.add_sub_cancel]
        · rw [if_neg (fun z => c z.2)]
          exact useFull hwf _ h2
      · rw [if_neg (fun z => h8 z.1)]
        refine useV (append_no hwf _ p1 _ _ _ (by omega)) ⟨fun _ => useFull hwf _ h1, fun z => absurd nx_0.symm z⟩
    · rw [if_neg (fun z => r z.2)]
      exact useBad hwf _ h
theorem wt_set {T : TS} (hw : WT T) (j : Nat) {k a b : Nat} (hk : k < 4) (hab : a ≤ b) (hb : b ≤ T.2.1) : WT (T.1.set j (k, a, b), T.2) := by
  obtain ⟨⟨w1, w2⟩, w3⟩ := hw
  refine ⟨⟨by rw [List.length_set]; exact w1, fun r hr => ?_⟩, w3⟩
  rcases List.mem_or_eq_of_mem_set hr with z | z
  · exact w2 r z
  · rw [z]
    exact ⟨hk, hab, hb⟩
theorem el_wt {T : TS} (hw : WT T) {j : Nat} (hj : j < T.1.length) : kd T.1 j < 4 ∧ ra T.1 j ≤ rb T.1 j ∧ rb T.1 j ≤ T.2.1 := by
  have := hw.1.2 (T.1.getD j (0, 0, 0)) (by rw [List.getD_eq_getElem?_getD, List.getElem?_eq_getElem hj]; exact List.getElem_mem hj)
  exact this
theorem moves_ok {lay : List Nat} (hwf : wfB lay = true) (d : Nat) {μ : Mem} {x : Nat} {S : XS} (h : XAt μ x S) (r a b : Int32) : Rn lay (d + 3) mX_moves [rf 15 x, vi r, vi a, vi b, un] μ (if (0 ≤ r.toInt ∧ r.toInt < S.1.1.length) ∧ 0 ≤ a.toInt ∧ a.toInt ≤ b.toInt ∧ b.toInt ≤ S.1.2.1 then (if ¬ crowd (S.1.1.set (tN r) (kd S.1.1 (tN r), tN a, tN b)) = true then PX x ((b - a) - (nI (rb S.1.1 (tN r)) - nI (ra S.1.1 (tN r)))) (xSet S (S.1.1.set (tN r) (kd S.1.1 (tN r), tN a, tN b), S.1.2)) else PX x (mI 3) (xFull S)) else PX x (mI 1) (xBad S)) := by
  refine Rn_intro ok_X_moves hwf rfl (fun G hC => g_X_moves_0 hC ?_)
  have hw := h.2.2.2.2.2.1.1
  have hn := hw.1.1
  have hL := hw.2.1
  refine useV (has_ok hwf _ h.1 hw r) ?_
  rw [bI_eq0]
  refine ⟨fun q => ?_, fun q => ?_⟩
  · rw [if_neg (fun z => q z.1)]
    exact useBad hwf _ h
  · have q := Classical.not_not.mp q
    refine useV (holds_ok hwf _ h.1 hw a b) ?_
    rw [bI_eq0]
    refine ⟨fun s => ?_, fun s => ?_⟩
    · have s := Classical.not_not.mp s
      rw [if_pos ⟨q, s⟩]
      obtain ⟨j, j1, j2, j3⟩ := ix_of q (by omega)
      obtain ⟨a', a1, a2, a3⟩ := nat_of s.1
      obtain ⟨b', b1, b2, b3⟩ := nat_of (Int.le_trans s.1 s.2.1)
      rw [a3, b3] at s
      have ea : tN a = a' := by unfold tN; rw [a3]; rfl
      have eb : tN b = b' := by unfold tN; rw [b3]; rfl
      have ej : tN r = j := j3
      rw [ej, ea, eb, j2, a2, b2]
      refine useN (copy_ok hwf _ (t := x + 6) h.1 hw (by omega)) (fun μ1 hp => ?_)
      obtain ⟨p1, p2⟩ := hp
      have h1 := h.trial p2
      refine useN (lay_ok hwf _ (a := a') (b := b') p1 hw j1) (fun μ2 hp => ?_)
      obtain ⟨p3, p4⟩ := hp
      have h2 := h1.trial p4
      have hw2 : WT (S.1.1.set j (kd S.1.1 j, a', b'), S.1.2) := wt_set hw j (el_wt hw j1).1 (by omega) (by omega)
      refine useV (isCrowded_ok hwf _ p3 hw2) ?_
      rw [bI_eq0]
      refine ⟨fun c => ?_, fun c => ?_⟩
      · rw [if_pos c]
        rw [nx_in' (by omega) (by omega), nx_cl (by omega)]
        refine ⟨by omega, by omega, useSettle hwf d h2 p3 hw2 (nc_of (by simpa using c) (by simp; omega)) (fun μ3 q3 => ⟨_, rfl, ?_, q3⟩)⟩
        obtain ⟨_, e1, e2⟩ := h2.1.2.2.1 j j1
        rw [e1, e2]
      · rw [if_neg c]
        exact useFull hwf _ h2
    · rw [if_neg (fun z => s z.2)]
      exact useBad hwf _ h
theorem cov_same {rs qs : List RG} (hl : rs.length = qs.length) (h : ∀ i, ra rs i = ra qs i ∧ rb rs i = rb qs i) (p : Nat) : cov rs p = cov qs p := by
  apply Nat.eq_of_testBit_eq
  intro j
  unfold cov
  rw [covU_bit, covU_bit, hl, (h j).1, (h j).2]
theorem setk_ab {rs : List RG} {j k : Nat} (hj : j < rs.length) (i : Nat) : ra (rs.set j (k, ra rs j, rb rs j)) i = ra rs i ∧ rb (rs.set j (k, ra rs j, rb rs j)) i = rb rs i := by
  show (el (rs.set j (k, ra rs j, rb rs j)) i).2.1 = (el rs i).2.1 ∧ (el (rs.set j (k, ra rs j, rb rs j)) i).2.2 = (el rs i).2.2
  rw [el_set hj]
  by_cases e : i = j
  · rw [if_pos e, e]
    exact ⟨rfl, rfl⟩
  · rw [if_neg e]
    exact ⟨rfl, rfl⟩
theorem te_setk {μ : Mem} {t : Nat} {T : TS} (hT : TeAt μ t T) {j k : Nat} (hj : j < T.1.length) : TeAt (upI μ (t + 1) j (nI k)) t (T.1.set j (k, ra T.1 j, rb T.1 j), T.2) := by
  obtain ⟨h1, h2, h3, h4⟩ := hT
  refine ⟨by rw [up_n1 (by omega), List.length_set]; exact h1, by rw [up_n1 (by omega)]; exact h2, fun i hi => ?_, fun k hk => by rw [up_n1 (by omega)]; exact h4 k hk⟩
  rw [List.length_set] at hi
  obtain ⟨a, b, c⟩ := h3 i hi
  rw [(setk_ab hj i).1, (setk_ab hj i).2, ← el_1, el_set hj]
  refine ⟨?_, by rw [up_n1 (by omega)]; exact b, by rw [up_n1 (by omega)]; exact c⟩
  by_cases e : i = j
  · rw [if_pos e, e, up_at]
  · rw [if_neg e, up_n2 e]
    exact a
theorem te_setr {μ : Mem} {t : Nat} {T : TS} (hT : TeAt μ t T) {j k : Nat} (hj : j < T.2.2.length) : TeAt (upI μ (t + 4) j (nI k)) t (T.1, T.2.1, T.2.2.set j k) := by
  obtain ⟨h1, h2, h3, h4⟩ := hT
  refine ⟨by rw [up_n1 (by omega)]; exact h1, by rw [up_n1 (by omega)]; exact h2, fun i hi => ?_, fun i hi => ?_⟩
  · rw [up_n1 (by omega), up_n1 (by omega), up_n1 (by omega)]
    exact h3 i hi
  · show _ = nI ((T.2.2.set j k).getD i 0)
    rw [List.getD_eq_getElem?_getD, List.getElem?_set]
    by_cases e : j = i
    · subst e
      rw [if_pos rfl, if_pos hj, up_at]
      rfl
    · rw [if_neg e, up_n2 (by omega), ← List.getD_eq_getElem?_getD]
      exact h4 i hi
theorem kind_ok {lay : List Nat} (hwf : wfB lay = true) (d : Nat) {μ : Mem} {x : Nat} {S : XS} (h : XAt μ x S) (r k : Int32) : Rn lay (d + 3) mX_kind [rf 15 x, vi r, vi k, un] μ (if (0 ≤ r.toInt ∧ r.toInt < S.1.1.length) ∧ 0 ≤ k.toInt ∧ k.toInt < 4 then PX x (nI (kd S.1.1 (tN r))) (xSet S (S.1.1.set (tN r) (tN k, ra S.1.1 (tN r), rb S.1.1 (tN r)), S.1.2)) else PX x (mI 1) (xBad S)) := by
  refine Rn_intro ok_X_kind hwf rfl (fun G hC => g_X_kind_0 hC ?_)
  have hw := h.2.2.2.2.2.1.1
  have hn := hw.1.1
  refine useV (has_ok hwf _ h.1 hw r) ?_
  rw [bI_eq0]
  refine ⟨fun q => ?_, fun q => ?_⟩
  · rw [if_neg (fun z => q z.1)]
    exact useBad hwf _ h
  · have q := Classical.not_not.mp q
    refine useV (isKind_ok hwf _ k μ) ?_
    rw [bI_eq0]
    refine ⟨fun s => ?_, fun s => ?_⟩
    · have s := Classical.not_not.mp s
      rw [if_pos ⟨q, s⟩]
      obtain ⟨j, j1, j2, j3⟩ := ix_of q (by omega)
      obtain ⟨k', k1, k2, k3⟩ := nat_of s.1
      rw [k3] at s
      have ek : tN k = k' := by unfold tN; rw [k3]; rfl
      have ej : tN r = j := j3
      rw [ej, ek, j2, k2]
      rw [nx_in' (by omega) (by omega), nx_cl (by omega)]
      refine ⟨by omega, useN (copy_ok hwf _ (t := x + 6) h.1 hw (by omega)) (fun μ1 hp => ?_)⟩
      obtain ⟨p1, p2⟩ := hp
      have e1 := te_setk (k := k') p1 j1
      have h2 : XAt (upI μ1 (x + 6 + 1) j (nI k')) x S := h.trial (p2.up (by simp))
      have el := el_wt hw j1
      refine ⟨by omega, useSettle hwf d h2 e1 (wt_set hw j (by omega) el.2.1 el.2.2) (fun p => ?_) (fun μ3 q3 => ⟨_, rfl, (h.1.2.2.1 j j1).1, q3⟩)⟩
      show popN (cov (S.1.1.set j (k', ra S.1.1 j, rb S.1.1 j)) p) ≤ 5
      rw [cov_same (by rw [List.length_set]) (setk_ab j1) p]
      exact h.2.2.2.2.2.1.2.1 p
    · rw [if_neg (fun z => s z.2)]
      exact useBad hwf _ h
theorem rank_ok {lay : List Nat} (hwf : wfB lay = true) (d : Nat) {μ : Mem} {x : Nat} {S : XS} (h : XAt μ x S) (k r : Int32) : Rn lay (d + 3) mX_rank [rf 15 x, vi k, vi r, un] μ (if (0 ≤ k.toInt ∧ k.toInt < 4) ∧ 0 ≤ r.toInt ∧ r.toInt < 4 then PX x (nI (S.1.2.2.getD (tN k) 0)) (xSet S (S.1.1, S.1.2.1, S.1.2.2.set (tN k) (tN r))) else PX x (mI 1) (xBad S)) := by
  refine Rn_intro ok_X_rank hwf rfl (fun G hC => g_X_rank_0 hC ?_)
  have hw := h.2.2.2.2.2.1.1
  have hn := hw.1.1
  have h4 := hw.2.2.1
  have e4 : (nI 4).toInt = 4 := by decide
  refine useV (isKind_ok hwf _ k μ) ?_
  rw [bI_eq0]
  refine ⟨fun q => ?_, fun q => ⟨fun s => ?_, fun s => ⟨fun s2 => ?_, fun s2 => ?_⟩⟩⟩
  · rw [if_neg (fun z => q z.1)]
    exact useBad hwf _ h
  · rw [i_lt, i_0] at s
    rw [if_neg (by omega)]
    exact useBad hwf _ h
  · have q := Classical.not_not.mp q
    rw [i_lt, i_0] at s
    rw [i_lt, e4] at s2
    rw [if_pos (by omega)]
    obtain ⟨k', k1, k2, k3⟩ := nat_of q.1
    obtain ⟨r', r1, r2, r3⟩ := nat_of (v := r) (by omega)
    rw [k3] at q
    rw [r3] at s2
    have ek : tN k = k' := by unfold tN; rw [k3]; rfl
    have er : tN r = r' := by unfold tN; rw [r3]; rfl
    rw [ek, er, k2, r2]
    rw [nx_in' (by omega) (by omega), nx_cl (by omega)]
    refine ⟨by omega, useN (copy_ok hwf _ (t := x + 6) h.1 hw (by omega)) (fun μ1 hp => ?_)⟩
    obtain ⟨p1, p2⟩ := hp
    have e1 := te_setr (j := k') (k := r') p1 (by omega)
    have h2 : XAt (upI μ1 (x + 6 + 4) k' (nI r')) x S := h.trial (p2.up (by simp))
    refine ⟨by omega, useSettle hwf d h2 e1 ⟨hw.1, hw.2.1, by show (S.1.2.2.set k' r').length = 4; rw [List.length_set]; exact h4, fun y hy => ?_⟩ h.2.2.2.2.2.1.2.1 (fun μ3 q3 => ⟨_, rfl, h.1.2.2.2 k' (by omega), q3⟩)⟩
    rcases List.mem_or_eq_of_mem_set hy with z | z
    · exact hw.2.2.2 y z
    · omega
  · rw [i_lt, e4] at s2
    rw [if_neg (by omega)]
    exact useBad hwf _ h
end
section
/-! the calls that put in and take out -/
theorem nc_map {rs : List RG} {f : RG → RG} (h : NC rs) (hf : ∀ y, ∃ y', ∀ r ∈ rs, (f r).2.1 ≤ y → y < (f r).2.2 → r.2.1 ≤ y' ∧ y' < r.2.2) : NC (rs.map f) := by
  intro y
  obtain ⟨y', hy⟩ := hf y
  refine Nat.le_trans (pop_sub (b := cov rs y') (fun j _ hj => ?_)) (h y')
  unfold cov at hj ⊢
  rw [covU_bit, List.length_map, decide_eq_true_eq] at hj
  rw [covU_bit, decide_eq_true_eq]
  obtain ⟨j1, j2, j3⟩ := hj
  rw [← el_2, el_map j1] at j2
  rw [← el_3, el_map j1] at j3
  exact ⟨j1, hy (el rs j) (List.mem_of_getElem? (el_in j1)) j2 j3⟩
theorem put_wt {T : TS} (hw : WT T) {p m : Nat} (hL : T.2.1 + m ≤ 90) : WT (T.1.map (putR p m), T.2.1 + m, T.2.2) := by
  obtain ⟨⟨w1, w2⟩, w3, w4⟩ := hw
  refine ⟨⟨by rw [List.length_map]; exact w1, fun r hr => ?_⟩, hL, w4⟩
  obtain ⟨s, s1, s2⟩ := List.mem_map.mp hr
  obtain ⟨u1, u2, u3⟩ := w2 s s1
  subst s2
  refine ⟨u1, ?_, ?_⟩
  · show (if p < s.2.1 ∨ (s.2.1 = p ∧ ¬ s.2.1 = s.2.2) then s.2.1 + m else s.2.1) ≤ (if p < s.2.2 then s.2.2 + m else s.2.2)
    split <;> split <;> omega
  · show (if p < s.2.2 then s.2.2 + m else s.2.2) ≤ T.2.1 + m
    split <;> omega
theorem put_nc {rs : List RG} (h : NC rs) (p m : Nat) : NC (rs.map (putR p m)) := by
  refine nc_map h (fun y => ⟨if y < p then y else if y < p + m then p else y - m, fun r _ h1 h2 => ?_⟩)
  have h1 : (if p < r.2.1 ∨ (r.2.1 = p ∧ ¬ r.2.1 = r.2.2) then r.2.1 + m else r.2.1) ≤ y := h1
  have h2 : y < (if p < r.2.2 then r.2.2 + m else r.2.2) := h2
  split at h1 <;> split at h2 <;> split <;> (try split) <;> omega
theorem tak_wt {T : TS} (hw : WT T) {p q : Nat} (hp : p ≤ q) (hq : q ≤ T.2.1) : WT (T.1.map (takR p q), T.2.1 - (q - p), T.2.2) := by
  obtain ⟨⟨w1, w2⟩, w3, w4⟩ := hw
  refine ⟨⟨by rw [List.length_map]; exact w1, fun r hr => ?_⟩, by show T.2.1 - (q - p) ≤ 90; omega, w4⟩
  obtain ⟨s, s1, s2⟩ := List.mem_map.mp hr
  obtain ⟨u1, u2, u3⟩ := w2 s s1
  subst s2
  refine ⟨u1, ?_, ?_⟩
  · show aft p q s.2.1 ≤ aft p q s.2.2
    unfold aft
    repeat' split
    all_goals omega
  · show aft p q s.2.2 ≤ T.2.1 - (q - p)
    unfold aft
    repeat' split
    all_goals omega
theorem tak_nc {rs : List RG} (h : NC rs) {p q : Nat} (hp : p ≤ q) : NC (rs.map (takR p q)) := by
  refine nc_map h (fun y => ⟨if y < p then y else y + (q - p), fun r _ h1 h2 => ?_⟩)
  have h1 : aft p q r.2.1 ≤ y := h1
  have h2 : y < aft p q r.2.2 := h2
  unfold aft at h1 h2
  repeat' split at h1
  all_goals (repeat' split at h2)
  all_goals split
  all_goals omega
theorem puts_ok {lay : List Nat} (hwf : wfB lay = true) (d : Nat) {μ : Mem} {x : Nat} {S : XS} (h : XAt μ x S) (p m : Int32) : Rn lay (d + 3) mX_puts [rf 15 x, vi p, vi m] μ (if (0 ≤ p.toInt ∧ p.toInt ≤ S.1.2.1) ∧ 1 ≤ m.toInt ∧ m.toInt ≤ 90 then (if S.1.2.1 + tN m ≤ 90 then PX x (nI (S.1.2.1 + tN m)) (xSet S (S.1.1.map (putR (tN p) (tN m)), S.1.2.1 + tN m, S.1.2.2)) else PX x (mI 3) (xFull S)) else PX x (mI 1) (xBad S)) := by
  refine Rn_intro ok_X_puts hwf rfl (fun G hC => g_X_puts_0 hC ?_)
  have hw := h.2.2.2.2.2.1.1
  have hn := hw.1.1
  have hL := hw.2.1
  have e1 : (nI 1).toInt = 1 := by decide
  have e90 : (nI 90).toInt = 90 := by decide
  rw [h.1.2.1]
  refine ⟨fun q => ?_, fun q => ⟨fun q2 => ?_, fun q2 => ⟨fun q3 => ?_, fun q3 => ⟨fun q4 => ?_, fun q4 => ?_⟩⟩⟩⟩
  · rw [i_lt, i_0] at q
    rw [if_neg (by omega)]
    exact useBad hwf _ h
  · rw [i_lt, nI_ti (by omega)] at q2
    rw [if_neg (by omega)]
    exact useBad hwf _ h
  · rw [i_lt, e1] at q3
    rw [if_neg (by omega)]
    exact useBad hwf _ h
  · rw [i_lt, i_0] at q
    rw [i_lt, nI_ti (by omega)] at q2
    rw [i_lt, e1] at q3
    rw [i_le, e90] at q4
    rw [if_pos (by omega)]
    obtain ⟨p', p1, p2, p3⟩ := nat_of (v := p) (by omega)
    obtain ⟨m', m1, m2, m3⟩ := nat_of (v := m) (by omega)
    have ep : tN p = p' := by unfold tN; rw [p3]; rfl
    have em : tN m = m' := by unfold tN; rw [m3]; rfl
    rw [ep, em, p2, m2, nI_add, nx_le (by omega) (by omega)]
    refine ⟨fun z => ?_, fun z => ?_⟩
    · rw [if_pos z]
      refine useN (copy_ok hwf _ (t := x + 6) h.1 hw (by omega)) (fun μ1 hp => ?_)
      obtain ⟨c1, c2⟩ := hp
      refine useN (putIn_ok hwf _ (p := p') (m := m') c1 hw (by omega) (by omega)) (fun μ2 hp => ?_)
      obtain ⟨c3, c4⟩ := hp
      exact useSettle hwf d ((h.trial c2).trial c4) c3 (put_wt hw z) (put_nc h.2.2.2.2.2.1.2.1 p' m') (fun μ3 q3 => ⟨_, rfl, q3.1.2.1, q3⟩)
    · rw [if_neg z]
      exact useFull hwf _ h
  · rw [i_le, e90] at q4
    rw [if_neg (by omega)]
    exact useBad hwf _ h
theorem takes_ok {lay : List Nat} (hwf : wfB lay = true) (d : Nat) {μ : Mem} {x : Nat} {S : XS} (h : XAt μ x S) (p q : Int32) : Rn lay (d + 3) mX_takes [rf 15 x, vi p, vi q] μ (if 0 ≤ p.toInt ∧ p.toInt < q.toInt ∧ q.toInt ≤ S.1.2.1 then PX x (nI (S.1.2.1 - (tN q - tN p))) (xSet S (S.1.1.map (takR (tN p) (tN q)), S.1.2.1 - (tN q - tN p), S.1.2.2)) else PX x (mI 1) (xBad S)) := by
  refine Rn_intro ok_X_takes hwf rfl (fun G hC => g_X_takes_0 hC ?_)
  have hw := h.2.2.2.2.2.1.1
  have hn := hw.1.1
  have hL := hw.2.1
  rw [h.1.2.1]
  refine ⟨fun z => ?_, fun z => ⟨fun z2 => ?_, fun z2 => ⟨fun z3 => ?_, fun z3 => ?_⟩⟩⟩
  · rw [i_lt, i_0] at z
    rw [if_neg (by omega)]
    exact useBad hwf _ h
  · rw [i_le] at z2
    rw [if_neg (by omega)]
    exact useBad hwf _ h
  · rw [i_lt, i_0] at z
    rw [i_le] at z2
    rw [i_le, nI_ti (by omega)] at z3
    rw [if_pos (by omega)]
    obtain ⟨p', p1, p2, p3⟩ := nat_of (v := p) (by omega)
    obtain ⟨q', q1, q2, q3⟩ := nat_of (v := q) (by omega)
    have ep : tN p = p' := by unfold tN; rw [p3]; rfl
    have eq : tN q = q' := by unfold tN; rw [q3]; rfl
    rw [ep, eq, p2, q2]
    have hpq : p' ≤ q' := by omega
    have hq : q' ≤ S.1.2.1 := by omega
    refine useN (copy_ok hwf _ (t := x + 6) h.1 hw (by omega)) (fun μ1 hp => ?_)
    obtain ⟨c1, c2⟩ := hp
    refine useN (takeOut_ok hwf _ c1 hw hpq hq) (fun μ2 hp => ?_)
    obtain ⟨c3, c4⟩ := hp
    exact useSettle hwf d ((h.trial c2).trial c4) c3 (tak_wt hw hpq hq) (tak_nc h.2.2.2.2.2.1.2.1 hpq) (fun μ3 q3 => ⟨_, rfl, q3.1.2.1, q3⟩)
  · rw [i_le, nI_ti (by omega)] at z3
    rw [if_neg (by omega)]
    exact useBad hwf _ h
end
section
/-! the calls that only tell -/
theorem told_ok {lay : List Nat} (hwf : wfB lay = true) (d : Nat) {μ : Mem} {x : Nat} {S : XS} (h : XAt μ x S) (v : Int32) : Rn lay (d + 10) mX_told [rf 15 x, vi v] μ (if v = nI 0 then PX x S.2.2.1 S else if v = nI 1 then PX x S.2.2.2.1 S else if v = nI 2 then PX x S.2.2.2.2 S else if v = nI 3 then PX x (nI S.1.1.length) S else if v = nI 4 then PX x (nI S.1.2.1) S else if v = nI 5 then PX x (nI (cvT S.1).length) S else if v = nI 6 then PX x (nI S.2.1.length) S else if v = nI 7 then PX x (nI (1000 * S.1.2.2.getD 0 0 + 100 * S.1.2.2.getD 1 0 + 10 * S.1.2.2.getD 2 0 + S.1.2.2.getD 3 0)) S else PX x (mI 1) (xBad S)) := by
  refine Rn_intro ok_X_told hwf rfl (fun G hC => g_X_told_0 hC ?_)
  refine ⟨fun q => ?_, fun q0 => ⟨fun q => ?_, fun q1 => ⟨fun q => ?_, fun q2 => ⟨fun q => ?_, fun q3 => ⟨fun q => ?_, fun q4 => ⟨fun q => ?_, fun q5 => ⟨fun q => ?_, fun q6 => ⟨fun q => ?_, fun q7 => ?_⟩⟩⟩⟩⟩⟩⟩⟩
  · rw [if_pos q]
    exact ⟨_, rfl, h.2.2.1, h⟩
  · rw [if_neg q0, if_pos q]
    exact ⟨_, rfl, h.2.2.2.1, h⟩
  · rw [if_neg q0, if_neg q1, if_pos q]
    exact ⟨_, rfl, h.2.2.2.2.1, h⟩
  · rw [if_neg q0, if_neg q1, if_neg q2, if_pos q]
    exact ⟨_, rfl, h.1.1, h⟩
  · rw [if_neg q0, if_neg q1, if_neg q2, if_neg q3, if_pos q]
    exact ⟨_, rfl, h.1.2.1, h⟩
  · rw [if_neg q0, if_neg q1, if_neg q2, if_neg q3, if_neg q4, if_pos q]
    exact useNest hwf d h (fun μ1 q r => ⟨_, rfl, r.1.2.1, q⟩)
  · rw [if_neg q0, if_neg q1, if_neg q2, if_neg q3, if_neg q4, if_neg q5, if_pos q]
    have hl : μ.1 (x + 11) 2 = nI S.2.1.length := by
      obtain ⟨nx, a, b, c, _⟩ := h.2.1
      exact c
    exact ⟨_, rfl, hl, h⟩
  · rw [if_neg q0, if_neg q1, if_neg q2, if_neg q3, if_neg q4, if_neg q5, if_neg q6, if_pos q]
    exact useV (ranksAsOne_ok hwf _ h.1) ⟨_, rfl, rfl, h⟩
  · rw [if_neg q0, if_neg q1, if_neg q2, if_neg q3, if_neg q4, if_neg q5, if_neg q6, if_neg q7]
    exact useBad hwf _ h
theorem section_ok {lay : List Nat} (hwf : wfB lay = true) (d : Nat) {μ : Mem} {x : Nat} {S : XS} (h : XAt μ x S) (s v : Int32) : Rn lay (d + 10) mX_section [rf 15 x, vi s, vi v] μ (if 0 ≤ s.toInt ∧ s.toInt < (cvT S.1).length then (if v = nI 0 then PX x (nI ((csT S.1).getD (tN s) 0)) S else if v = nI 1 then PX x (nI ((csT S.1).getD (tN s + 1) 0)) S else if v = nI 2 then PX x (nI (popN ((cvT S.1).getD (tN s) 0))) S else PX x (mI 1) (xBad S)) else PX x (mI 1) (xBad S)) := by
  refine Rn_intro ok_X_section hwf rfl (fun G hC => g_X_section_0 hC ?_)
  have hw := h.2.2.2.2.2.1.1
  have hn := hw.1.1
  have hok : okC (cvT S.1) := okC_cv hn h.2.2.2.2.2.1.2.1 8 (csT S.1)
  have hcl : (csT S.1).length ≤ 16 := csT_len hw 8
  have hcvl : (cvT S.1).length = (csT S.1).length - 1 := cvL_len S.1.1 8 (csT S.1)
  refine useNest hwf d h (fun μ1 h1 r => ?_)
  refine useV (seHas_ok hwf _ r.1 (by omega) s) ?_
  rw [bI_eq0]
  refine ⟨fun q => ?_, fun q => ?_⟩
  · have q := Classical.not_not.mp q
    rw [if_pos q]
    obtain ⟨j, j1, j2, j3⟩ := ix_of q (by omega)
    have ej : tN s = j := j3
    rw [ej, j2, nI_add, nx_in' (by omega) (by omega), nx_in' (by omega) (by omega), nx_in' (by omega) (by omega), nx_cl (by omega), nx_cl (by omega)]
    refine ⟨fun q => ?_, fun q0 => ⟨fun q => ?_, fun q1 => ⟨fun q => ?_, fun q2 => ?_⟩⟩⟩
    · rw [if_pos q]
      exact ⟨by omega, _, rfl, r.1.1.2 j (by omega), h1⟩
    · rw [if_neg q0, if_pos q]
      exact ⟨by omega, _, rfl, r.1.1.2 (j + 1) (by omega), h1⟩
    · rw [if_neg q0, if_neg q1, if_pos q]
      rw [r.1.2.2.1 j j1]
      exact ⟨by omega, useV (bitCount_ok hwf _ (hok.at j1).1 μ1) ⟨_, rfl, rfl, h1⟩⟩
    · rw [if_neg q0, if_neg q1, if_neg q2]
      exact useBad hwf _ h1
  · rw [if_neg q]
    exact useBad hwf _ h1
theorem zs_ok {T : TS} (hw : WT T) (hnc : NC T.1) {q : Nat} (hq : q < (cvT T).length) : isSt ((cvT T).getD q 0) ((zsT T).getD q []) ∧ oks ((zsT T).getD q []) := by
  have hn := hw.1.1
  have hrk : ∀ r, r < 8 → rkO T r < 4 := fun r _ => rkT_lt hw false r
  have hok : okC (cvT T) := okC_cv hn hnc 8 (csT T)
  have hcl : (csT T).length ≤ 16 := csT_len hw 8
  have hcvl : (cvT T).length = (csT T).length - 1 := cvL_len T.1 8 (csT T)
  have h100 : (cvT T).length ≤ 100 := by omega
  have hfe := feas_first hrk hok h100
  have hz : isSt ((cvT T).getD q 0) ((zsT T).getD q []) := stk_st (hok.at hq).1 (chs_in hrk _ _ _ hok h100 hfe q hq)
  exact ⟨hz, hz.ok (hok.at hq).2⟩
theorem stack_ok {lay : List Nat} (hwf : wfB lay = true) (d : Nat) {μ : Mem} {x : Nat} {S : XS} (h : XAt μ x S) (s v : Int32) : Rn lay (d + 10) mX_stack [rf 15 x, vi s, vi v] μ (if (0 ≤ s.toInt ∧ s.toInt < (cvT S.1).length) ∧ 0 ≤ v.toInt then PX x (atI ((zsT S.1).getD (tN s) []) (tN v)) S else PX x (mI 1) (xBad S)) := by
  refine Rn_intro ok_X_stack hwf rfl (fun G hC => g_X_stack_0 hC ?_)
  have hw := h.2.2.2.2.2.1.1
  have hcl : (csT S.1).length ≤ 16 := csT_len hw 8
  have hcvl : (cvT S.1).length = (csT S.1).length - 1 := cvL_len S.1.1 8 (csT S.1)
  refine useNest hwf d h (fun μ1 h1 r => ?_)
  refine useV (seHas_ok hwf _ r.1 (by omega) s) ?_
  rw [bI_eq0]
  refine ⟨fun q => ?_, fun q => ⟨fun q2 => ?_, fun q2 => ?_⟩⟩
  · rw [if_neg (fun z => q z.1)]
    exact useBad hwf _ h1
  · have q := Classical.not_not.mp q
    rw [i_le, i_0] at q2
    rw [if_pos ⟨q, q2⟩]
    obtain ⟨j, j1, j2, j3⟩ := ix_of q (by omega)
    obtain ⟨k, k1, k2, k3⟩ := nat_of q2
    have ej : tN s = j := j3
    have ek : tN v = k := by unfold tN; rw [k3]; rfl
    rw [ej, ek, j2, k2, nx_in' (by omega) (by omega), nx_cl (by omega), r.2.1 j j1]
    exact ⟨by omega, useV (at_ok hwf _ (zs_ok hw h.2.2.2.2.2.1.2.1 j1).2 k1 μ1) ⟨_, rfl, rfl, h1⟩⟩
  · rw [i_le, i_0] at q2
    rw [if_neg (fun z => q2 z.2)]
    exact useBad hwf _ h1
end
section
/-! the calls that look at nodes -/
/-- the answer of node k at what v (0 to 4) -/
def ndI (n : Nd) (v : Nat) : Int32 := if v = 0 then nI n.1 else if v = 1 then nI n.2.1 else if v = 2 then nI n.2.2.1 else if v = 3 then nI n.2.2.2.1 else oI n.2.2.2.2
theorem node_ok {lay : List Nat} (hwf : wfB lay = true) (d : Nat) {μ : Mem} {x : Nat} {S : XS} (h : XAt μ x S) (hB : (ndT S.1).length ≤ 83) (n v : Int32) : Rn lay (d + 10) mX_node [rf 15 x, vi n, vi v] μ (if 0 ≤ n.toInt ∧ 0 ≤ v.toInt ∧ v.toInt ≤ 4 then (if tN n < (ndT S.1).length then PX x (ndI ((ndT S.1).getD (tN n) nd0) (tN v)) S else PX x (mI 0) S) else PX x (mI 1) (xBad S)) := by
  refine Rn_intro ok_X_node hwf rfl (fun G hC => g_X_node_0 hC ?_)
  have e4 : (nI 4).toInt = 4 := by decide
  refine ⟨fun q => ?_, fun q => ⟨fun q2 => ?_, fun q2 => ⟨fun q3 => ?_, fun q3 => ?_⟩⟩⟩
  · rw [i_lt, i_0] at q
    rw [if_neg (by omega)]
    exact useBad hwf _ h
  · rw [i_lt, i_0] at q2
    rw [if_neg (by omega)]
    exact useBad hwf _ h
  · rw [i_lt, i_0] at q
    rw [i_lt, i_0] at q2
    rw [i_le, e4] at q3
    rw [if_pos (by omega)]
    obtain ⟨j, j1, j2, j3⟩ := nat_of (v := n) (by omega)
    obtain ⟨k, k1, k2, k3⟩ := nat_of (v := v) (by omega)
    have ej : tN n = j := by unfold tN; rw [j3]; rfl
    have ek : tN v = k := by unfold tN; rw [k3]; rfl
    rw [k3] at q3
    rw [ej, ek, j2, k2]
    refine useNest hwf d h (fun μ1 h1 r => ?_)
    obtain ⟨r1, r2⟩ := r.2.2.1
    rw [r1, nx_lt (by omega) (by omega), nx_cl (by omega), nx_in' (by omega) (by omega), nx_eq (by omega) (by omega), nx_eq (by omega) (by omega), nx_eq (by omega) (by omega), nx_eq (by omega) (by omega)]
    refine ⟨fun z => ?_, fun z => ?_⟩
    · rw [if_pos z]
      obtain ⟨s1, s2, s3, s4, s5⟩ := r2 j z
      refine ⟨fun y => ⟨by omega, _, rfl, ?_, h1⟩, fun y0 => ⟨fun y => ⟨by omega, _, rfl, ?_, h1⟩, fun y1 => ⟨fun y => ⟨by omega, _, rfl, ?_, h1⟩, fun y2 => ⟨fun y => ⟨by omega, _, rfl, ?_, h1⟩, fun y3 => ⟨by omega, _, rfl, ?_, h1⟩⟩⟩⟩⟩
      · unfold ndI
        rw [if_pos y]
        exact s1
      · unfold ndI
        rw [if_neg y0, if_pos y]
        exact s2
      · unfold ndI
        rw [if_neg y0, if_neg y1, if_pos y]
        exact s3
      · unfold ndI
        rw [if_neg y0, if_neg y1, if_neg y2, if_pos y]
        exact s4
      · unfold ndI
        rw [if_neg y0, if_neg y1, if_neg y2, if_neg y3]
        exact s5
    · rw [if_neg z]
      exact ⟨_, rfl, rfl, h1⟩
  · rw [i_le, e4] at q3
    rw [if_neg (by omega)]
    exact useBad hwf _ h
theorem of_ok {lay : List Nat} (hwf : wfB lay = true) (d : Nat) {μ : Mem} {x : Nat} {S : XS} (h : XAt μ x S) (hB : ndB S.1.2.1 (ndT S.1)) (r v : Int32) : Rn lay (d + 10) mX_of [rf 15 x, vi r, vi v] μ (if 0 ≤ r.toInt ∧ r.toInt < S.1.1.length then (if v = nI 0 then PX x (nI (kd S.1.1 (tN r))) S else if v = nI 1 then PX x (nI (ra S.1.1 (tN r))) S else if v = nI 2 then PX x (nI (rb S.1.1 (tN r))) S else if v = nI 3 then PX x (nI (fS (pcF (tN r)) (ndT S.1) (ndT S.1).length)) S else if v = nI 4 then PX x (nI (xsU S.1.1 (tN r) S.1.1.length)) S else PX x (mI 1) (xBad S)) else PX x (mI 1) (xBad S)) := by
  refine Rn_intro ok_X_of hwf rfl (fun G hC => g_X_of_0 hC ?_)
  have hw := h.2.2.2.2.2.1.1
  have hn := hw.1.1
  refine useV (has_ok hwf _ h.1 hw r) ?_
  rw [bI_eq0]
  refine ⟨fun q => ?_, fun q => ?_⟩
  · have q := Classical.not_not.mp q
    rw [if_pos q]
    obtain ⟨j, j1, j2, j3⟩ := ix_of q (by omega)
    have ej : tN r = j := j3
    rw [ej, j2, nx_in' (by omega) (by omega), nx_cl (by omega)]
    obtain ⟨e1, e2, e3⟩ := h.1.2.2.1 j j1
    refine ⟨fun q => ?_, fun q0 => ⟨fun q => ?_, fun q1 => ⟨fun q => ?_, fun q2 => ⟨fun q => ?_, fun q3 => ⟨fun q => ?_, fun q4 => ?_⟩⟩⟩⟩⟩
    · rw [if_pos q]
      exact ⟨by omega, _, rfl, e1, h⟩
    · rw [if_neg q0, if_pos q]
      exact ⟨by omega, _, rfl, e2, h⟩
    · rw [if_neg q0, if_neg q1, if_pos q]
      exact ⟨by omega, _, rfl, e3, h⟩
    · rw [if_neg q0, if_neg q1, if_neg q2, if_pos q]
      exact useNest hwf d h (fun μ1 h1 r => useV (piecesOf_ok hwf _ r.2.2.1 hB hw.2.1 (by omega)) ⟨_, rfl, rfl, h1⟩)
    · rw [if_neg q0, if_neg q1, if_neg q2, if_neg q3, if_pos q]
      exact useV (howManyAcross_ok hwf _ h.1 hw j1) ⟨_, rfl, rfl, h⟩
    · rw [if_neg q0, if_neg q1, if_neg q2, if_neg q3, if_neg q4]
      exact useBad hwf _ h
  · rw [if_neg q]
    exact useBad hwf _ h
/-- the five sums over all nodes -/
def allN (ns : List Nd) (v : Nat) : Nat := if v = 0 then fM (fun x => x.2.2.2.1) ns ns.length else if v = 1 then fS (fun x => x.2.2.2.1) ns ns.length else if v = 2 then fS emF ns ns.length else if v = 3 then fM (fun x => x.2.2.1 - x.2.1) ns ns.length else fS noF ns ns.length
theorem all_ok {lay : List Nat} (hwf : wfB lay = true) (d : Nat) {μ : Mem} {x : Nat} {S : XS} (h : XAt μ x S) (hB : ndB S.1.2.1 (ndT S.1)) (v : Int32) : Rn lay (d + 10) mX_all [rf 15 x, vi v] μ (if 0 ≤ v.toInt ∧ v.toInt ≤ 4 then PX x (nI (allN (ndT S.1) (tN v))) S else PX x (mI 1) (xBad S)) := by
  refine Rn_intro ok_X_all hwf rfl (fun G hC => g_X_all_0 hC ?_)
  have e4 : (nI 4).toInt = 4 := by decide
  have hL := h.2.2.2.2.2.1.1.2.1
  refine ⟨fun q => ?_, fun q => ⟨fun q3 => ?_, fun q3 => ?_⟩⟩
  · rw [i_lt, i_0] at q
    rw [if_neg (by omega)]
    exact useBad hwf _ h
  · rw [i_lt, i_0] at q
    rw [i_le, e4] at q3
    rw [if_pos (by omega)]
    obtain ⟨k, k1, k2, k3⟩ := nat_of (v := v) (by omega)
    have ek : tN v = k := by unfold tN; rw [k3]; rfl
    rw [ek, k2]
    refine useNest hwf d h (fun μ1 h1 r => ?_)
    rw [nx_eq (by omega) (by omega), nx_eq (by omega) (by omega), nx_eq (by omega) (by omega), nx_eq (by omega) (by omega)]
    unfold allN
    refine ⟨fun y => ?_, fun y0 => ⟨fun y => ?_, fun y1 => ⟨fun y => ?_, fun y2 => ⟨fun y => ?_, fun y3 => ?_⟩⟩⟩⟩
    · rw [if_pos y]
      exact useV (greatestDepth_ok hwf _ r.2.2.1 hB) ⟨_, rfl, rfl, h1⟩
    · rw [if_neg y0, if_pos y]
      exact useV (depthsTogether_ok hwf _ r.2.2.1 hB) ⟨_, rfl, rfl, h1⟩
    · rw [if_neg y0, if_neg y1, if_pos y]
      exact useV (howManyEmpty_ok hwf _ r.2.2.1 hB hL) ⟨_, rfl, rfl, h1⟩
    · rw [if_neg y0, if_neg y1, if_neg y2, if_pos y]
      exact useV (longest_ok hwf _ r.2.2.1 hB hL) ⟨_, rfl, rfl, h1⟩
    · rw [if_neg y0, if_neg y1, if_neg y2, if_neg y3]
      exact useV (howManyInNone_ok hwf _ r.2.2.1 hB) ⟨_, rfl, rfl, h1⟩
  · rw [i_le, e4] at q3
    rw [if_neg (by omega)]
    exact useBad hwf _ h
end
section
/-! without -/
def wo (T : TS) : Nat → Int32 × Int32
  | 0 => (mI 0, mI 0)
  | i + 1 => if (wo T i).1 = mI 0 then (nI i, nI (few (rkT T false) (cvL T.1 i (cutsOf T.1 i)))) else if (wo T i).2 ≤ nI (few (rkT T false) (cvL T.1 i (cutsOf T.1 i))) then wo T i else (nI i, nI (few (rkT T false) (cvL T.1 i (cutsOf T.1 i))))
theorem wo_s (T : TS) (i : Nat) : wo T (i + 1) = if (wo T i).1 = mI 0 then (nI i, nI (few (rkT T false) (cvL T.1 i (cutsOf T.1 i)))) else if (wo T i).2 ≤ nI (few (rkT T false) (cvL T.1 i (cutsOf T.1 i))) then wo T i else (nI i, nI (few (rkT T false) (cvL T.1 i (cutsOf T.1 i)))) := rfl
theorem without_ok {lay : List Nat} (hwf : wfB lay = true) (d : Nat) {μ : Mem} {x : Nat} {S : XS} (h : XAt μ x S) (v : Int32) : Rn lay (d + 10) mX_without [rf 15 x, vi v, un, un, un, un] μ (if 0 ≤ v.toInt ∧ v.toInt ≤ 1 then PX x (if v = 0 then (wo S.1 S.1.1.length).1 else (wo S.1 S.1.1.length).2) S else PX x (mI 1) (xBad S)) := by
  refine Rn_intro ok_X_without hwf rfl (fun G hC => g_X_without_0 hC ?_)
  have e1 : (nI 1).toInt = 1 := by decide
  have hw := h.2.2.2.2.2.1.1
  have hn := hw.1.1
  refine ⟨fun q => ?_, fun q => ⟨fun q3 => ?_, fun q3 => ?_⟩⟩
  · rw [i_lt, i_0] at q
    rw [if_neg (by omega)]
    exact useBad hwf _ h
  · rw [i_lt, i_0] at q
    rw [i_le, e1] at q3
    rw [if_pos (by omega)] at hC
    have loop : ∀ k i (μ' : Mem), i + k = S.1.1.length → XAt μ' x S → G 21 [rf 15 x, vi v, vi (wo S.1 i).1, vi (wo S.1 i).2, vi (nI i), un] [] μ' := by
      intro k
      induction k with
      | zero =>
        intro i μ' hi hx
        refine g_X_without_21 hC ?_
        rw [hx.1.1, nx_le (by omega) (by omega)]
        refine ⟨fun _ => ?_, fun z => absurd (by omega) z⟩
        refine g_X_without_72 hC ?_
        have hi : i = S.1.1.length := by omega
        subst hi
        exact ⟨fun z => ⟨_, rfl, by rw [if_neg z], hx⟩, fun z => ⟨_, rfl, by rw [if_pos z], hx⟩⟩
      | succ k ih =>
        intro i μ' hi hx
        refine g_X_without_21 hC ?_
        rw [hx.1.1, nx_le (by omega) (by omega), nx_le (by omega) (by omega)]
        refine ⟨fun z => absurd z (by omega), fun _ => ⟨fun z => absurd z (by omega), fun _ => ?_⟩⟩
        have es : skI i = nI i := by unfold skI; rw [if_pos (by omega)]
        have hf := fewestWithout_ok hwf d hx.1 hw h.2.2.2.2.2.1.2.1 i false
        rw [es] at hf
        refine useQ hf (fun y μ1 hp => ?_)
        obtain ⟨p1, p2⟩ := hp
        subst p1
        have nxt := ih (i + 1) μ1 (by omega) (hx.side p2)
        rw [wo_s] at nxt
        rw [nI_add]
        refine ⟨fun z => ?_, fun z => ⟨fun z2 => ?_, fun z2 => ?_⟩⟩
        · rw [if_pos z] at nxt
          exact nxt
        · rw [if_neg z, if_pos z2] at nxt
          exact nxt
        · rw [if_neg z, if_neg z2] at nxt
          exact nxt
    exact loop S.1.1.length 0 μ (by omega) h
  · rw [i_le, e1] at q3
    rw [if_neg (by omega)]
    exact useBad hwf _ h
end
section
/-! digest: what is told, by number -/
def toldV (S : XS) (i : Nat) : Int32 := if i = 0 then S.2.2.1 else if i = 1 then S.2.2.2.1 else if i = 2 then S.2.2.2.2 else if i = 3 then nI S.1.1.length else if i = 4 then nI S.1.2.1 else if i = 5 then nI (cvT S.1).length else if i = 6 then nI S.2.1.length else nI (1000 * S.1.2.2.getD 0 0 + 100 * S.1.2.2.getD 1 0 + 10 * S.1.2.2.getD 2 0 + S.1.2.2.getD 3 0)
theorem told_nat {lay : List Nat} (hwf : wfB lay = true) (d : Nat) {μ : Mem} {x : Nat} {S : XS} (h : XAt μ x S) {i : Nat} (hi : i < 8) : Rn lay (d + 10) mX_told [rf 15 x, vi (nI i)] μ (PX x (toldV S i) S) := by
  have t := told_ok hwf d h (nI i)
  simp (disch := omega) only [nx_eq] at t
  unfold toldV
  by_cases y0 : i = 0
  · rw [if_pos y0] at t ⊢; exact t
  rw [if_neg y0] at t ⊢
  by_cases y1 : i = 1
  · rw [if_pos y1] at t ⊢; exact t
  rw [if_neg y1] at t ⊢
  by_cases y2 : i = 2
  · rw [if_pos y2] at t ⊢; exact t
  rw [if_neg y2] at t ⊢
  by_cases y3 : i = 3
  · rw [if_pos y3] at t ⊢; exact t
  rw [if_neg y3] at t ⊢
  by_cases y4 : i = 4
  · rw [if_pos y4] at t ⊢; exact t
  rw [if_neg y4] at t ⊢
  by_cases y5 : i = 5
  · rw [if_pos y5] at t ⊢; exact t
  rw [if_neg y5] at t ⊢
  by_cases y6 : i = 6
  · rw [if_pos y6] at t ⊢; exact t
  rw [if_neg y6] at t ⊢
  rw [if_pos (by omega)] at t
  exact t
def dgA (S : XS) : Nat → Int64
  | 0 => lN 1951
  | i + 1 => lN 31 * dgA S i + (toldV S i).toInt64
def dgB (S : XS) : Nat → Int64
  | 0 => dgA S 8
  | i + 1 => lN 31 * (lN 31 * (lN 31 * dgB S i + (nI (kd S.1.1 i)).toInt64) + (nI (ra S.1.1 i)).toInt64) + (nI (rb S.1.1 i)).toInt64
def dgV (S : XS) : Int64 := lN 31 * (lN 31 * dgB S S.1.1.length + (nI (few (rkO S.1) (cvT S.1))).toInt64) + (nI (ndT S.1).length).toInt64
theorem digest_ok {lay : List Nat} (hwf : wfB lay = true) (d : Nat) {μ : Mem} {x : Nat} {S : XS} (h : XAt μ x S) : Rn lay (d + 11) mX_digest [rf 15 x, un, un, un] μ (fun r μ1 => r = some (vl (dgV S)) ∧ XAt μ1 x S) := by
  refine Rn_intro ok_X_digest hwf rfl (fun G hC => g_X_digest_0 hC ?_)
  have hn := h.2.2.2.2.2.1.1.1.1
  have l2 : ∀ k i (μ' : Mem), i + k = S.1.1.length → XAt μ' x S → G 33 [rf 15 x, vl (dgB S i), un, vi (nI i)] [] μ' := by
    intro k
    induction k with
    | zero =>
      intro i μ' hi hx
      refine g_X_digest_33 hC ?_
      rw [hx.1.1, nx_le (by omega) (by omega)]
      refine ⟨fun _ => ?_, fun z => absurd (by omega) z⟩
      refine g_X_digest_107 hC ?_
      have hi : i = S.1.1.length := by omega
      subst hi
      refine useQ (least_ok hwf d hx) (fun y μ1 hp => ?_)
      obtain ⟨e1, h1⟩ := hp
      subst e1
      refine useQ (nodes_ok hwf d h1) (fun y μ2 hp => ?_)
      obtain ⟨e2, h2⟩ := hp
      subst e2
      exact ⟨rfl, h2⟩
    | succ k ih =>
      intro i μ' hi hx
      refine g_X_digest_33 hC ?_
      rw [hx.1.1, nx_le (by omega) (by omega), nx_le (by omega) (by omega), nx_in' (by omega) (by omega), nx_cl (by omega), nI_add]
      obtain ⟨e1, e2, e3⟩ := hx.1.2.2.1 i (by omega)
      rw [e1, e2, e3]
      exact ⟨fun z => absurd z (by omega), fun _ => ⟨fun z => absurd z (by omega), fun _ => ⟨by omega, by omega, by omega, ih (i + 1) μ' (by omega) hx⟩⟩⟩
  have l1 : ∀ k i (μ' : Mem), i + k = 8 → XAt μ' x S → G 6 [rf 15 x, vl (dgA S i), un, vi (nI i)] [] μ' := by
    intro k
    induction k with
    | zero =>
      intro i μ' hi hx
      refine g_X_digest_6 hC ?_
      have hi : i = 8 := by omega
      subst hi
      rw [nx_lt (by omega) (by omega)]
      exact ⟨fun _ => l2 S.1.1.length 0 μ' (by omega) hx, fun z => absurd (by omega) z⟩
    | succ k ih =>
      intro i μ' hi hx
      refine g_X_digest_6 hC ?_
      rw [nx_lt (by omega) (by omega), nI_add]
      refine ⟨fun z => absurd z (by omega), fun _ => useQ (told_nat hwf d hx (by omega)) (fun y μ1 hp => ?_)⟩
      obtain ⟨e1, h1⟩ := hp
      subst e1
      exact ih (i + 1) μ1 (by omega) h1
  exact l1 8 0 μ (by omega) h
end
section
/-! ranges of a kind that hang together: what every merging keeps -/
theorem cnt_er (P : RG → Bool) : ∀ (l : List RG) (q : Nat), q < l.length → ((l.eraseIdx q).filter P).length + (if P (el l q) = true then 1 else 0) = (l.filter P).length
  | [], q, h => absurd h (Nat.not_lt_zero _)
  | x :: l, 0, h => by
    show (l.filter P).length + (if P x = true then 1 else 0) = ((x :: l).filter P).length
    rw [List.filter_cons]
    by_cases hx : P x = true
    · rw [if_pos hx, if_pos hx, List.length_cons]
    · rw [if_neg hx, if_neg hx]
      rfl
  | x :: l, q + 1, h => by
    have ih := cnt_er P l q (by simpa using h)
    show ((x :: l.eraseIdx q).filter P).length + (if P (el l q) = true then 1 else 0) = ((x :: l).filter P).length
    rw [List.filter_cons, List.filter_cons]
    by_cases hx : P x = true
    · rw [if_pos hx, if_pos hx, List.length_cons, List.length_cons, ← ih]
      omega
    · rw [if_neg hx, if_neg hx]
      exact ih
theorem cnt_st (P : RG → Bool) (m : RG) : ∀ (l : List RG) (r : Nat), r < l.length → ((l.set r m).filter P).length + (if P (el l r) = true then 1 else 0) = (l.filter P).length + (if P m = true then 1 else 0)
  | [], r, h => absurd h (Nat.not_lt_zero _)
  | x :: l, 0, h => by
    show ((m :: l).filter P).length + (if P x = true then 1 else 0) = ((x :: l).filter P).length + (if P m = true then 1 else 0)
    rw [List.filter_cons, List.filter_cons]
    by_cases hx : P x = true
    · by_cases hm : P m = true
      · rw [if_pos hx, if_pos hx, if_pos hm, if_pos hm, List.length_cons, List.length_cons]
      · rw [if_pos hx, if_pos hx, if_neg hm, if_neg hm, List.length_cons]
    · by_cases hm : P m = true
      · rw [if_neg hx, if_neg hx, if_pos hm, if_pos hm, List.length_cons]
      · rw [if_neg hx, if_neg hx, if_neg hm, if_neg hm]
  | x :: l, r + 1, h => by
    have ih := cnt_st P m l r (by simpa using h)
    show ((x :: l.set r m).filter P).length + (if P (el l r) = true then 1 else 0) = ((x :: l).filter P).length + (if P m = true then 1 else 0)
    rw [List.filter_cons, List.filter_cons]
    by_cases hx : P x = true
    · rw [if_pos hx, if_pos hx, List.length_cons, List.length_cons]
      omega
    · rw [if_neg hx, if_neg hx]
      exact ih
def cvr (p : Nat) (x : RG) : Bool := decide (x.2.1 ≤ p ∧ p < x.2.2)
theorem cvr_t {p : Nat} {x : RG} : cvr p x = true ↔ x.2.1 ≤ p ∧ p < x.2.2 := decide_eq_true_iff
theorem pop_cvr {rs : List RG} (hn : rs.length ≤ 8) (p : Nat) : popN (cov rs p) = (rs.filter (cvr p)).length := pop_cov hn p
/-- the merged range -/
def mgR (rs : List RG) (r q : Nat) : RG := (kd rs r, (if ra rs q < ra rs r then ra rs q else ra rs r), (if rb rs r < rb rs q then rb rs q else rb rs r))
theorem mrg_def (rs : List RG) (r q : Nat) : mrg rs r q = (rs.set r (mgR rs r q)).eraseIdx q := rfl
theorem mrg_el {rs : List RG} {r q : Nat} (hr : r < q) (hq : q < rs.length) (i : Nat) : el (mrg rs r q) i = if i < q then (if i = r then mgR rs r q else el rs i) else el rs (i + 1) := by
  rw [mrg_def, el_erase, el_set (by omega), el_set (by omega)]
  by_cases h : i < q
  · rw [if_pos h, if_pos h]
  · rw [if_neg h, if_neg h, if_neg (by omega)]
theorem nc_mrg {rs : List RG} {r q : Nat} (hn : rs.length ≤ 8) (h : NC rs) (hr : r < q) (hq : q < rs.length) (hh : hangB rs r q) (h1 : ra rs r ≤ rb rs r) (h2 : ra rs q ≤ rb rs q) : NC (mrg rs r q) := by
  intro p
  have h0 := h p
  have hl := mrg_len (r := r) hq
  rw [pop_cvr (by omega)]
  rw [pop_cvr hn] at h0
  have e1 := cnt_er (cvr p) (rs.set r (mgR rs r q)) q (by rw [List.length_set]; exact hq)
  have e2 := cnt_st (cvr p) (mgR rs r q) rs r (by omega)
  rw [el_set (by omega), if_neg (show ¬ q = r by omega)] at e1
  rw [← mrg_def] at e1
  have hM : cvr p (mgR rs r q) = true → cvr p (el rs r) = true ∨ cvr p (el rs q) = true := by
    intro hc
    rw [cvr_t] at hc
    rw [cvr_t, cvr_t]
    obtain ⟨_, _, _, h5, h6⟩ := hh
    have a1 : (mgR rs r q).2.1 = (if ra rs q < ra rs r then ra rs q else ra rs r) := rfl
    have a2 : (mgR rs r q).2.2 = (if rb rs r < rb rs q then rb rs q else rb rs r) := rfl
    rw [a1, a2] at hc
    show (ra rs r ≤ p ∧ p < rb rs r) ∨ (ra rs q ≤ p ∧ p < rb rs q)
    obtain ⟨c1, c2⟩ := hc
    split at c1 <;> split at c2 <;> omega
  by_cases hm : cvr p (mgR rs r q) = true
  · rw [if_pos hm] at e2
    rcases hM hm with w | w
    · rw [if_pos w] at e2
      omega
    · rw [if_pos w] at e1
      omega
  · rw [if_neg hm] at e2
    omega
/-- what holds and is kept by every merging, holds behind all of them -/
theorem gathQ_ind {k r : Nat} (I : List RG → Prop) (hI : ∀ rs r q, I rs → r < q → q < rs.length → hangB rs r q → kd rs r = k → I (mrg rs r q)) : ∀ (q : Nat) (rs : List RG), I rs → kd rs r = k → r < rs.length → q < rs.length → I (gathQ r q rs) ∧ kd (gathQ r q rs) r = k ∧ r < (gathQ r q rs).length
  | 0, rs, h, hk, hr, _ => ⟨h, hk, hr⟩
  | q + 1, rs, h, hk, hr, hq => by
    unfold gathQ
    split
    · exact ⟨h, hk, hr⟩
    · next hrq =>
      split
      · next hh =>
        have hl := mrg_len (r := r) hq
        have hk2 : kd (mrg rs r (q + 1)) r = k := by
          rw [← el_1, mrg_el (by omega) hq, if_pos (by omega), if_pos rfl]
          exact hk
        exact gathQ_ind I hI q _ (hI rs r (q + 1) h (by omega) hq hh hk) hk2 (by omega) (by omega)
      · exact gathQ_ind I hI q rs h hk hr (by omega)
theorem gathN_ind {k r : Nat} (I : List RG → Prop) (hI : ∀ rs r q, I rs → r < q → q < rs.length → hangB rs r q → kd rs r = k → I (mrg rs r q)) : ∀ (n : Nat) (rs : List RG), I rs → kd rs r = k → r < rs.length → I (gathN r n rs) ∧ kd (gathN r n rs) r = k ∧ r < (gathN r n rs).length
  | 0, rs, h, hk, hr => ⟨h, hk, hr⟩
  | n + 1, rs, h, hk, hr => by
    obtain ⟨h1, h2, h3⟩ := gathQ_ind I hI (rs.length - 1) rs h hk hr (by omega)
    exact gathN_ind I hI n _ h1 h2 h3
theorem gather_ind {k r : Nat} {rs : List RG} (I : List RG → Prop) (hI : ∀ rs r q, I rs → r < q → q < rs.length → hangB rs r q → kd rs r = k → I (mrg rs r q)) (h : I rs) (hk : kd rs r = k) (hr : r < rs.length) : I (gather rs r) := by
  unfold gather
  split
  · exact h
  · exact (gathN_ind I hI 8 rs h hk hr).1
/-- all of a kind: range after range takes in those behind it -/
def jnS (k : Nat) : Nat → Nat → List RG → List RG
  | 0, _, rs => rs
  | n + 1, r, rs => if r < rs.length then jnS k n (r + 1) (if kd rs r = k then gather rs r else rs) else rs
def joinX (k : Nat) (rs : List RG) : List RG := jnS k 8 0 rs
theorem jnS_ind {k : Nat} (I : List RG → Prop) (hI : ∀ rs r q, I rs → r < q → q < rs.length → hangB rs r q → kd rs r = k → I (mrg rs r q)) : ∀ (n r : Nat) (rs : List RG), I rs → I (jnS k n r rs)
  | 0, r, rs, h => h
  | n + 1, r, rs, h => by
    unfold jnS
    split
    · next hr =>
      refine jnS_ind I hI n (r + 1) _ ?_
      split
      · next hk => exact gather_ind I hI h hk hr
      · exact h
    · exact h
theorem mrg_wrnc {L : Nat} (rs : List RG) (r q : Nat) (h : WR L rs ∧ NC rs) (hr : r < q) (hq : q < rs.length) (hh : hangB rs r q) : WR L (mrg rs r q) ∧ NC (mrg rs r q) := ⟨WR_mrg h.1 (by omega) hq, nc_mrg h.1.1 h.2 hr hq hh (h.1.at (by omega)).2.1 (h.1.at hq).2.1⟩
theorem joinX_ok {L k : Nat} {rs : List RG} (h : WR L rs) (hc : NC rs) : WR L (joinX k rs) ∧ NC (joinX k rs) := jnS_ind (fun rs => WR L rs ∧ NC rs) (fun rs r q h hr hq hh _ => mrg_wrnc rs r q h hr hq hh) 8 0 rs ⟨h, hc⟩
theorem joins_ok {lay : List Nat} (hwf : wfB lay = true) (d : Nat) {μ : Mem} {x : Nat} {S : XS} (h : XAt μ x S) (v : Int32) : Rn lay (d + 4) mX_joins [rf 15 x, vi v] μ (if 0 ≤ v.toInt ∧ v.toInt < 4 then PX x (nI S.1.1.length - nI (joinX (tN v) S.1.1).length) (xSet S (joinX (tN v) S.1.1, S.1.2)) else PX x (mI 1) (xBad S)) := by
  refine Rn_intro ok_X_joins hwf rfl (fun G hC => g_X_joins_0 hC ?_)
  have hw := h.2.2.2.2.2.1.1
  have hn := hw.1.1
  refine useV (isKind_ok hwf _ v μ) ?_
  rw [bI_eq0]
  refine ⟨fun q => ?_, fun q => ?_⟩
  · have q := Classical.not_not.mp q
    rw [if_pos q] at hC
    obtain ⟨k, k1, k2, k3⟩ := nat_of q.1
    have ek : tN v = k := by unfold tN; rw [k3]; rfl
    rw [ek] at hC
    rw [k2]
    refine useN (copy_ok hwf _ (t := x + 6) h.1 hw (by omega)) (fun μ1 hp => ?_)
    obtain ⟨p1, p2⟩ := hp
    have h1 := h.trial p2
    have fin : ∀ (rs : List RG) (μ' : Mem), XAt μ' x S → TeAt μ' (x + 6) (rs, S.1.2) → WR S.1.2.1 rs ∧ NC rs → rs = joinX k S.1.1 → G 69 [rf 15 x, un, un] [] μ' := by
      intro rs μ' hx hT hW he
      refine g_X_joins_69 hC ?_
      rw [hx.1.1, hT.1]
      refine useSettle hwf (d + 1) hx hT ⟨hW.1, hw.2⟩ hW.2 (fun μ3 q3 => ⟨_, rfl, ?_, ?_⟩)
      · rw [he]
      · rw [← he]
        exact q3
    have loop : ∀ n r (rs : List RG) (μ' : Mem), r + n = 8 → XAt μ' x S → TeAt μ' (x + 6) (rs, S.1.2) → WR S.1.2.1 rs ∧ NC rs → jnS k n r rs = joinX k S.1.1 → G 25 [rf 15 x, vi (nI k), vi (nI r)] [] μ' := by
      intro n
      induction n with
      | zero =>
        intro r rs μ' hr hx hT hW he
        have := hW.1.1
        refine g_X_joins_25 hC ?_
        rw [hT.1, nx_le (by show rs.length < _; omega) (by omega)]
        exact ⟨fun _ => fin rs μ' hx hT hW he, fun z => absurd (by show rs.length ≤ r; omega) z⟩
      | succ n ih =>
        intro r rs μ' hr hx hT hW he
        have hl := hW.1.1
        refine g_X_joins_25 hC ?_
        rw [hT.1, nx_le (by show rs.length < _; omega) (by omega), nx_le (by omega) (by omega), nx_in' (by omega) (by omega), nx_cl (by omega), nI_add]
        refine ⟨fun z => ?_, fun z => ⟨fun z2 => absurd z2 (by omega), fun _ => ⟨by omega, fun z3 => ?_, fun z3 => ?_⟩⟩⟩
        · refine fin rs μ' hx hT hW ?_
          rw [← he]
          unfold jnS
          rw [if_neg (by have : rs.length ≤ r := z; omega)]
        · have z : ¬ rs.length ≤ r := z
          rw [(hT.2.2.1 r (by show r < rs.length; omega)).1, nx_eq (by have := (hW.1.at (show r < rs.length by omega)).1; show kd rs r < _; omega) (by omega)] at z3
          refine ih (r + 1) rs μ' (by omega) hx hT hW ?_
          rw [← he]
          conv => rhs; unfold jnS
          rw [if_pos (by omega), if_neg z3]
        · have z : ¬ rs.length ≤ r := z
          rw [(hT.2.2.1 r (by show r < rs.length; omega)).1, nx_eq (by have := (hW.1.at (show r < rs.length by omega)).1; show kd rs r < _; omega) (by omega)] at z3
          have z3 : kd rs r = k := z3
          refine useN (gather_ok hwf d hT ⟨hW.1, hw.2⟩ (show r < rs.length by omega)) (fun μ2 hp => ?_)
          obtain ⟨c1, c2⟩ := hp
          refine ih (r + 1) (gather rs r) μ2 (by omega) (hx.trial c2) c1 (gather_ind (k := k) (fun rs => WR S.1.2.1 rs ∧ NC rs) (fun rs r q h hr hq hh _ => mrg_wrnc rs r q h hr hq hh) hW z3 (by omega)) ?_
          rw [← he]
          conv => rhs; unfold jnS
          rw [if_pos (by omega), if_pos z3]
    exact loop 8 0 S.1.1 μ1 (by omega) h1 p1 ⟨hw.1, h.2.2.2.2.2.1.2.1⟩ rfl
  · rw [if_neg q]
    exact useBad hwf _ h
end
section
/-! the cuts: rising, and the ends of all ranges that are not empty -/
theorem posC_cons (x : Nat) (l : List Nat) (p : Nat) : posC (x :: l) p = if x < p then posC l p + 1 else 0 := by
  unfold posC
  rw [List.takeWhile_cons]
  by_cases h : x < p
  · rw [if_pos h, if_pos (decide_eq_true h), List.length_cons]
  · rw [if_neg h, if_neg (fun z => h (of_decide_eq_true z))]
    rfl
theorem insC_lt {x p : Nat} {l : List Nat} (h : x < p) : insC (x :: l) p = x :: insC l p := by
  unfold insC
  rw [posC_cons, if_pos h]
  by_cases e : l[posC l p]? = some p
  · rw [if_pos (by rw [List.getElem?_cons_succ]; exact e), if_pos e]
  · rw [if_neg (by rw [List.getElem?_cons_succ]; exact e), if_neg e]
    rfl
theorem insC_ge {x p : Nat} {l : List Nat} (h : ¬ x < p) : insC (x :: l) p = if x = p then x :: l else p :: x :: l := by
  unfold insC
  rw [posC_cons, if_neg h]
  by_cases e : x = p
  · rw [if_pos (by rw [e]; rfl), if_pos e]
  · rw [if_neg (show ¬ (x :: l)[0]? = some p from fun q => e (Option.some.inj q)), if_neg e]
    rfl
theorem insC_nil (p : Nat) : insC [] p = [p] := by simp [insC, posC]
theorem insC_self (p : Nat) : ∀ l : List Nat, p ∈ insC l p
  | [] => by rw [insC_nil]; simp
  | x :: l => by
    by_cases h : x < p
    · rw [insC_lt h]
      exact List.mem_cons_of_mem _ (insC_self p l)
    · rw [insC_ge h]
      split
      · next e => rw [e]; exact List.mem_cons_self
      · exact List.mem_cons_self
theorem insC_keep {p c : Nat} : ∀ {l : List Nat}, c ∈ l → c ∈ insC l p
  | [], h => by cases h
  | x :: l, h => by
    by_cases hx : x < p
    · rw [insC_lt hx]
      rcases List.mem_cons.mp h with e | e
      · rw [e]; exact List.mem_cons_self
      · exact List.mem_cons_of_mem _ (insC_keep e)
    · rw [insC_ge hx]
      split
      · exact h
      · exact List.mem_cons_of_mem _ h
theorem insC_srt (p : Nat) : ∀ {l : List Nat}, l.Pairwise (· < ·) → (insC l p).Pairwise (· < ·)
  | [], _ => by rw [insC_nil]; exact List.pairwise_singleton _ _
  | x :: l, h => by
    obtain ⟨h1, h2⟩ := List.pairwise_cons.mp h
    by_cases hx : x < p
    · rw [insC_lt hx]
      refine List.pairwise_cons.mpr ⟨fun y hy => ?_, insC_srt p h2⟩
      rcases insC_in hy with e | e
      · omega
      · exact h1 y e
    · rw [insC_ge hx]
      split
      · exact h
      · refine List.pairwise_cons.mpr ⟨fun y hy => ?_, h⟩
        rcases List.mem_cons.mp hy with e | e
        · omega
        · have := h1 y e
          omega
theorem cutU_srt (rs : List RG) (sk : Nat) : ∀ i, (cutU rs sk i).Pairwise (· < ·)
  | 0 => List.Pairwise.nil
  | i + 1 => by
    unfold cutU
    split
    · exact cutU_srt rs sk i
    · exact insC_srt _ (insC_srt _ (cutU_srt rs sk i))
theorem cutU_mem (rs : List RG) (sk : Nat) : ∀ i r, r < i → ¬ r = sk → ¬ ra rs r = rb rs r → ra rs r ∈ cutU rs sk i ∧ rb rs r ∈ cutU rs sk i
  | 0, r, h, _, _ => absurd h (Nat.not_lt_zero _)
  | i + 1, r, h, h1, h2 => by
    unfold cutU
    by_cases e : r = i
    · subst e
      rw [if_neg (fun z => z.elim h1 h2)]
      exact ⟨insC_keep (insC_self _ _), insC_self _ _⟩
    · obtain ⟨a, b⟩ := cutU_mem rs sk i r (by omega) h1 h2
      split
      · exact ⟨a, b⟩
      · exact ⟨insC_keep (insC_keep a), insC_keep (insC_keep b)⟩
theorem gdn {l : List Nat} {i : Nat} (h : i < l.length) : l.getD i 0 = l[i] := by
  rw [List.getD_eq_getElem?_getD, List.getElem?_eq_getElem h]
  rfl
theorem srt_at {l : List Nat} (h : l.Pairwise (· < ·)) {i j : Nat} (hij : i < j) (hj : j < l.length) : l.getD i 0 < l.getD j 0 := by
  rw [gdn (by omega), gdn hj]
  exact List.pairwise_iff_getElem.mp h i j (by omega) hj hij
theorem srt_le {l : List Nat} (h : l.Pairwise (· < ·)) {i j : Nat} (hij : i ≤ j) (hj : j < l.length) : l.getD i 0 ≤ l.getD j 0 := by
  rcases Nat.lt_or_eq_of_le hij with e | e
  · exact Nat.le_of_lt (srt_at h e hj)
  · rw [e]
    exact Nat.le_refl _
/-- of two of the rising ones, the one that is larger comes behind -/
theorem srt_inv {l : List Nat} (h : l.Pairwise (· < ·)) {i j : Nat} (hi : i < l.length) (_hj : j < l.length) (hlt : l.getD i 0 < l.getD j 0) : i < j := by
  rcases Nat.lt_or_ge i j with q | q
  · exact q
  · have := srt_le h q hi
    omega
theorem mem_gd {l : List Nat} {c : Nat} (h : c ∈ l) : ∃ i, i < l.length ∧ l.getD i 0 = c := by
  obtain ⟨i, hi, he⟩ := List.getElem_of_mem h
  exact ⟨i, hi, by rw [gdn hi, he]⟩
/-- a range that lies over a cut lies over all of the section behind it -/
theorem cut_next {rs : List RG} {sk s r : Nat} (hr : r < rs.length) (hk : ¬ r = sk) (hs : s + 1 < (cutsOf rs sk).length) (h1 : ra rs r ≤ (cutsOf rs sk).getD s 0) (h2 : (cutsOf rs sk).getD s 0 < rb rs r) : (cutsOf rs sk).getD (s + 1) 0 ≤ rb rs r := by
  have hm := (cutU_mem rs sk rs.length r hr hk (by omega)).2
  obtain ⟨i, i1, i2⟩ := mem_gd hm
  have hsr := cutU_srt rs sk rs.length
  have i1 : i < (cutsOf rs sk).length := i1
  have i2 : (cutsOf rs sk).getD i 0 = rb rs r := i2
  have := srt_inv hsr (show s < (cutsOf rs sk).length by omega) i1 (by show (cutsOf rs sk).getD s 0 < (cutsOf rs sk).getD i 0; omega)
  have h3 := srt_le hsr (show s + 1 ≤ i by omega) i1
  have h3 : (cutsOf rs sk).getD (s + 1) 0 ≤ (cutsOf rs sk).getD i 0 := h3
  omega
/-- what the stacks of the nest hold -/
def zOK (rs : List RG) (cs : List Nat) (zs : List (List Nat)) : Prop := cs.Pairwise (· < ·) ∧ zs.length = cs.length - 1 ∧ (∀ r, r < rs.length → ra rs r < rb rs r → ∃ i, i < zs.length ∧ cs.getD i 0 = ra rs r) ∧ (∀ s r, s < zs.length → r < rs.length → ra rs r ≤ cs.getD s 0 → cs.getD s 0 < rb rs r → cs.getD (s + 1) 0 ≤ rb rs r) ∧ ∀ s, s < zs.length → (zs.getD s []).Nodup ∧ (zs.getD s []).length ≤ 5 ∧ ∀ r, r ∈ zs.getD s [] ↔ r < rs.length ∧ ra rs r ≤ cs.getD s 0 ∧ cs.getD s 0 < rb rs r
theorem clr_8 (c : Nat) : clr c 8 = c := by
  unfold clr
  rw [if_neg (by omega)]
theorem cov_bit (rs : List RG) (p r : Nat) : (cov rs p).testBit r = true ↔ r < rs.length ∧ ra rs r ≤ p ∧ p < rb rs r := by
  unfold cov
  rw [covU_bit, decide_eq_true_iff]
theorem zOK_T {T : TS} (hw : WT T) (hnc : NC T.1) : zOK T.1 (csT T) (zsT T) := by
  have hn := hw.1.1
  have hcvl : (cvT T).length = (csT T).length - 1 := cvL_len T.1 8 (csT T)
  have hzl : (zsT T).length = (csT T).length - 1 := by
    unfold zsT
    rw [chs_len, hcvl]
  have hsr : (csT T).Pairwise (· < ·) := cutU_srt T.1 8 T.1.length
  refine ⟨hsr, hzl, fun r hr hlt => ?_, fun s r hs hr h1 h2 => ?_, fun s hs => ?_⟩
  · obtain ⟨m1, m2⟩ := cutU_mem T.1 8 T.1.length r hr (by omega) (by omega)
    obtain ⟨i, i1, i2⟩ := mem_gd m1
    obtain ⟨j, j1, j2⟩ := mem_gd m2
    have i1 : i < (csT T).length := i1
    have j1 : j < (csT T).length := j1
    have := srt_inv hsr i1 j1 (by show (cutU T.1 8 T.1.length).getD i 0 < (cutU T.1 8 T.1.length).getD j 0; omega)
    exact ⟨i, by omega, i2⟩
  · exact cut_next hr (by omega) (by show s + 1 < (csT T).length; omega) h1 h2
  · have hs2 : s < (cvT T).length := by omega
    obtain ⟨z1, z2⟩ := zs_ok hw hnc hs2
    refine ⟨z1.1, z2.1, fun r => ?_⟩
    rw [z1.2 r]
    have : (cvT T).getD s 0 = clr (cov T.1 ((csT T).getD s 0)) 8 := cvL_at (by omega)
    rw [this, clr_8, cov_bit]
    exact ⟨fun q => q.2, fun q => ⟨by omega, q⟩⟩
end
section
/-! the nodes: what holds of them ahead of every place -/
abbrev na (ns : List Nd) (k : Nat) : Nd := ns.getD k nd0
theorem na_l {ns es : List Nd} {k : Nat} (h : k < ns.length) : na (ns ++ es) k = na ns k := by
  unfold na
  rw [List.getD_eq_getElem?_getD, List.getD_eq_getElem?_getD, List.getElem?_append_left h]
theorem na_in {ns : List Nd} {k : Nat} (h : k < ns.length) : na ns k ∈ ns := by
  unfold na
  rw [List.getD_eq_getElem?_getD, List.getElem?_eq_getElem h]
  exact List.getElem_mem h
theorem na_r {ns es : List Nd} {k : Nat} (h : ns.length ≤ k) (h2 : k < (ns ++ es).length) : na (ns ++ es) k ∈ es := by
  unfold na
  rw [List.length_append] at h2
  rw [List.getD_eq_getElem?_getD, List.getElem?_append_right h, List.getElem?_eq_getElem (by omega)]
  exact List.getElem_mem (by omega)
theorem empU_in {rs : List RG} {p dp q : Nat} {x : Nd} : ∀ {n : Nat}, x ∈ empU rs p dp q n → ∃ i, i < n ∧ ra rs i = p ∧ rb rs i = p ∧ x = (i, p, p, dp, if dp = 0 then none else some q)
  | 0, h => by cases h
  | n + 1, h => by
    unfold empU at h
    rcases List.mem_append.mp h with h | h
    · obtain ⟨i, h1, h2⟩ := empU_in h
      exact ⟨i, by omega, h2⟩
    · split at h
      · next e =>
        rw [List.mem_singleton] at h
        exact ⟨n, by omega, e.2, by omega, h⟩
      · cases h
/-- pieces put down and stretched: all of what there is then -/
theorem pcs_at (x : List Nat) (b e g : Nat) (ns : List Nd) (op : Nat → Nat) (hop : ∀ j, j < g → op j < ns.length) : ∀ K,
    (pcs x b e g K (ns, op)).1.length = ns.length + (K - g) ∧
    (∀ j, (pcs x b e g K (ns, op)).2 j = if g ≤ j ∧ j < K then ns.length + (j - g) else op j) ∧
    (∀ k, k < ns.length → (∃ j, j < K ∧ j < g ∧ k = op j) → na (pcs x b e g K (ns, op)).1 k = ((na ns k).1, (na ns k).2.1, e, (na ns k).2.2.2)) ∧
    (∀ k, k < ns.length → ¬ (∃ j, j < K ∧ j < g ∧ k = op j) → na (pcs x b e g K (ns, op)).1 k = na ns k) ∧
    (∀ i, g ≤ i → i < K → na (pcs x b e g K (ns, op)).1 (ns.length + (i - g)) = (x.getD i 0, b, e, i, if i = 0 then none else some (if i - 1 < g then op (i - 1) else ns.length + (i - 1 - g))))
  | 0 => by
    refine ⟨by show ns.length = _; omega, fun j => by rw [if_neg (by omega)]; rfl, fun k hk ⟨j, h1, _⟩ => absurd h1 (Nat.not_lt_zero _), fun k hk _ => rfl, fun i h1 h2 => absurd h2 (Nat.not_lt_zero _)⟩
  | K + 1 => by
    obtain ⟨i1, i2, i3, i4, i5⟩ := pcs_at x b e g ns op hop K
    by_cases hg : g ≤ K
    · have e0 : pcs x b e g (K + 1) (ns, op) = ((pcs x b e g K (ns, op)).1 ++ [(x.getD K 0, b, e, K, if K = 0 then none else some ((pcs x b e g K (ns, op)).2 (K - 1)))], fun j => if j = K then (pcs x b e g K (ns, op)).1.length else (pcs x b e g K (ns, op)).2 j) := by
        show (if g ≤ K then _ else _) = _
        rw [if_pos hg]
      rw [e0]
      refine ⟨by show ((pcs x b e g K (ns, op)).1 ++ [_]).length = _; rw [List.length_append, i1, List.length_singleton]; omega, fun j => ?_, fun k hk hj => ?_, fun k hk hj => ?_, fun i h1 h2 => ?_⟩
      · show (if j = K then (pcs x b e g K (ns, op)).1.length else (pcs x b e g K (ns, op)).2 j) = _
        by_cases ej : j = K
        · rw [if_pos ej, if_pos (by omega), i1, ej]
        · rw [if_neg ej, i2 j]
          by_cases c : g ≤ j ∧ j < K
          · rw [if_pos c, if_pos (by omega)]
          · rw [if_neg c, if_neg (by omega)]
      · show na ((pcs x b e g K (ns, op)).1 ++ [_]) k = _
        rw [na_l (by omega)]
        obtain ⟨j, j1, j2, j3⟩ := hj
        exact i3 k hk ⟨j, by omega, j2, j3⟩
      · show na ((pcs x b e g K (ns, op)).1 ++ [_]) k = _
        rw [na_l (by omega)]
        exact i4 k hk (fun ⟨j, j1, j2, j3⟩ => hj ⟨j, by omega, j2, j3⟩)
      · show na ((pcs x b e g K (ns, op)).1 ++ [_]) (ns.length + (i - g)) = _
        by_cases ei : i = K
        · subst ei
          rw [show ns.length + (i - g) = (pcs x b e g i (ns, op)).1.length by omega]
          unfold na
          rw [nd_last, i2 (i - 1)]
          by_cases c0 : i = 0
          · rw [if_pos c0, if_pos c0]
          · rw [if_neg c0, if_neg c0]
            by_cases c : i - 1 < g
            · rw [if_neg (by omega), if_pos c]
            · rw [if_pos (by omega), if_neg c]
        · rw [na_l (by omega)]
          exact i5 i h1 (by omega)
    · have e0 : pcs x b e g (K + 1) (ns, op) = (setE (pcs x b e g K (ns, op)).1 ((pcs x b e g K (ns, op)).2 K) e, (pcs x b e g K (ns, op)).2) := by
        show (if g ≤ K then _ else _) = _
        rw [if_neg hg]
      have eK : (pcs x b e g K (ns, op)).2 K = op K := by rw [i2 K, if_neg (by omega)]
      have hK := hop K (by omega)
      rw [e0, eK]
      refine ⟨by show (setE _ _ _).length = _; rw [setE_len, i1]; omega, fun j => ?_, fun k hk hj => ?_, fun k hk hj => ?_, fun i h1 h2 => by omega⟩
      · show (pcs x b e g K (ns, op)).2 j = _
        rw [i2 j]
        by_cases c : g ≤ j ∧ j < K
        · omega
        · rw [if_neg c, if_neg (by omega)]
      · show na (setE _ _ _) k = _
        unfold na
        rw [setE_at (by omega)]
        by_cases ek : k = op K
        · rw [if_pos ek, ← ek]
          by_cases c : ∃ j, j < K ∧ j < g ∧ k = op j
          · have := i3 k hk c
            unfold na at this
            rw [this]
          · have := i4 k hk c
            unfold na at this
            rw [this]
        · rw [if_neg ek]
          obtain ⟨j, j1, j2, j3⟩ := hj
          have : j ≠ K := fun z => ek (by rw [j3, z])
          exact i3 k hk ⟨j, by omega, j2, j3⟩
      · show na (setE _ _ _) k = _
        unfold na
        rw [setE_at (by omega), if_neg (fun z => hj ⟨K, by omega, by omega, z⟩)]
        exact i4 k hk (fun ⟨j, j1, j2, j3⟩ => hj ⟨j, by omega, j2, j3⟩)
def pcOk (rs : List RG) (n : Nd) : Prop := n.1 < rs.length ∧ ra rs n.1 ≤ n.2.1 ∧ n.2.2.1 ≤ rb rs n.1 ∧ n.2.2.2.1 ≤ 4
/-- an empty one's depth and the one in which it lies next are those of the pieces around it -/
def emAt (ns : List Nd) (n : Nd) : Prop := ∃ f : Nat → Nat, (∀ i, i < n.2.2.2.1 → f i < ns.length ∧ (na ns (f i)).2.1 < n.2.1 ∧ n.2.1 < (na ns (f i)).2.2.1 ∧ (na ns (f i)).2.2.2.1 = i) ∧ (∀ j, j < ns.length → (na ns j).2.1 < n.2.1 → n.2.1 < (na ns j).2.2.1 → ∃ i, i < n.2.2.2.1 ∧ j = f i) ∧ n.2.2.2.2 = (if n.2.2.2.1 = 0 then none else some (f (n.2.2.2.1 - 1)))
def emOk (rs : List RG) (n : Nd) : Prop := n.2.1 = n.2.2.1 ∧ n.1 < rs.length ∧ ra rs n.1 = n.2.1 ∧ rb rs n.1 = n.2.1 ∧ n.2.2.2.1 ≤ 5
/-- the open ones -/
def opOk (cs : List Nat) (zs : List (List Nat)) (p : Nat) (ns : List Nd) (op : Nat → Nat) (dp c : Nat) : Prop := ∀ j, j < dp → op j < ns.length ∧ (na ns (op j)).1 = (zs.getD (c - 1) []).getD j 0 ∧ (na ns (op j)).2.1 < p ∧ (na ns (op j)).2.1 ≤ cs.getD (c - 1) 0 ∧ (na ns (op j)).2.2.1 = cs.getD c 0 ∧ (na ns (op j)).2.2.2.1 = j
def NI (rs : List RG) (cs : List Nat) (zs : List (List Nat)) (p : Nat) (ns : List Nd) (op : Nat → Nat) (dp c : Nat) : Prop :=
  (c ≤ cs.length ∧ (0 < c → cs.getD (c - 1) 0 < p) ∧ (c < cs.length → p ≤ cs.getD c 0)) ∧
  dp = (if 1 ≤ c ∧ c - 1 < zs.length then (zs.getD (c - 1) []).length else 0) ∧
  opOk cs zs p ns op dp c ∧
  (∀ k, k < ns.length → (na ns k).2.1 < (na ns k).2.2.1 → pcOk rs (na ns k) ∧ (na ns k).2.1 < p ∧ ((∃ j, j < dp ∧ k = op j) ∨ (0 < c ∧ (na ns k).2.2.1 ≤ cs.getD (c - 1) 0))) ∧
  (∀ k l, k < ns.length → l < ns.length → k ≠ l → (na ns k).2.1 < (na ns k).2.2.1 → (na ns l).2.1 < (na ns l).2.2.1 → (na ns k).1 = (na ns l).1 → (na ns k).2.2.1 ≤ (na ns l).2.1 ∨ (na ns l).2.2.1 ≤ (na ns k).2.1) ∧
  (∀ k, k < ns.length → ¬ (na ns k).2.1 < (na ns k).2.2.1 → emOk rs (na ns k) ∧ emAt ns (na ns k) ∧ (na ns k).2.1 < p) ∧
  (∀ r, r < rs.length → ra rs r < rb rs r → ra rs r < p → ∃ k, k < ns.length ∧ (na ns k).1 = r ∧ (na ns k).2.1 < (na ns k).2.2.1) ∧
  ns.length ≤ 5 * (if c < zs.length then c else zs.length) + emC rs p rs.length
/-- empty ones come, nothing else: not at a cut, or at the last one -/
theorem ni_emp {rs : List RG} {cs : List Nat} {zs : List (List Nat)} {p : Nat} {ns : List Nd} {op : Nat → Nat} {dp c : Nat} (h : NI rs cs zs p ns op dp c) (d2 c2 : Nat) (hn : rs.length ≤ 8)
    (hA : c2 ≤ cs.length ∧ (0 < c2 → cs.getD (c2 - 1) 0 < p + 1) ∧ (c2 < cs.length → p + 1 ≤ cs.getD c2 0)) (hB : d2 = (if 1 ≤ c2 ∧ c2 - 1 < zs.length then (zs.getD (c2 - 1) []).length else 0)) (hd : d2 ≤ 5)
    (hO : opOk cs zs p ns op d2 c2) (hO2 : ∀ j, j < d2 → p < cs.getD c2 0)
    (hP : ∀ k, k < ns.length → (na ns k).2.1 < (na ns k).2.2.1 → (∃ j, j < d2 ∧ k = op j) ∨ (0 < c2 ∧ (na ns k).2.2.1 ≤ cs.getD (c2 - 1) 0 ∧ (na ns k).2.2.1 ≤ p))
    (hR : ∀ r, r < rs.length → ra rs r < rb rs r → ra rs r ≠ p) (hL : (if c < zs.length then c else zs.length) ≤ (if c2 < zs.length then c2 else zs.length)) :
    NI rs cs zs (p + 1) (ns ++ empU rs p d2 (op (d2 - 1)) rs.length) op d2 c2 := by
  obtain ⟨a1, a2, a3, a4, a5, a6, a7, a8⟩ := h
  have hem : ∀ k, ns.length ≤ k → k < (ns ++ empU rs p d2 (op (d2 - 1)) rs.length).length → ∃ i, i < rs.length ∧ ra rs i = p ∧ rb rs i = p ∧ na (ns ++ empU rs p d2 (op (d2 - 1)) rs.length) k = (i, p, p, d2, if d2 = 0 then none else some (op (d2 - 1))) := fun k h1 h2 => empU_in (na_r h1 h2)
  have hlt : ∀ k, k < (ns ++ empU rs p d2 (op (d2 - 1)) rs.length).length → (na (ns ++ empU rs p d2 (op (d2 - 1)) rs.length) k).2.1 < (na (ns ++ empU rs p d2 (op (d2 - 1)) rs.length) k).2.2.1 → k < ns.length := fun k h1 h2 => by
    rcases Nat.lt_or_ge k ns.length with q | q
    · exact q
    · obtain ⟨i, _, _, _, e⟩ := hem k q h1
      rw [e] at h2
      exact absurd h2 (Nat.lt_irrefl _)
  have hle : ns.length ≤ (ns ++ empU rs p d2 (op (d2 - 1)) rs.length).length := by
    rw [List.length_append]
    omega
  refine ⟨hA, hB, fun j hj => ?_, fun k hk hlt2 => ?_, fun k l hk hl hne h1 h2 h3 => ?_, fun k hk hnl => ?_, fun r hr h1 h2 => ?_, ?_⟩
  · obtain ⟨o1, o2, o3, o4⟩ := hO j hj
    rw [na_l o1]
    exact ⟨by omega, o2, by omega, o4⟩
  · have hk2 := hlt k hk hlt2
    rw [na_l hk2] at hlt2 ⊢
    obtain ⟨p1, p2, _⟩ := a4 k hk2 hlt2
    refine ⟨p1, by omega, ?_⟩
    rcases hP k hk2 hlt2 with q | q
    · exact Or.inl q
    · exact Or.inr ⟨q.1, q.2.1⟩
  · have hk2 := hlt k hk h1
    have hl2 := hlt l hl h2
    rw [na_l hk2] at h1 h3 ⊢
    rw [na_l hl2] at h2 h3 ⊢
    exact a5 k l hk2 hl2 hne h1 h2 h3
  · rcases Nat.lt_or_ge k ns.length with q | q
    · rw [na_l q] at hnl ⊢
      obtain ⟨e1, ⟨f, f1, f2, f3⟩, e3⟩ := a6 k q hnl
      refine ⟨e1, ⟨f, fun i hi => ?_, fun j hj h1 h2 => ?_, f3⟩, by omega⟩
      · obtain ⟨g1, g2⟩ := f1 i hi
        rw [na_l g1]
        exact ⟨by omega, g2⟩
      · have hj2 := hlt j hj (by omega)
        rw [na_l hj2] at h1 h2
        exact f2 j hj2 h1 h2
    · obtain ⟨i, i1, i2, i3, i4⟩ := hem k q hk
      rw [i4]
      refine ⟨⟨rfl, i1, i2, i3, hd⟩, ⟨op, fun j hj => ?_, fun j hj h1 h2 => ?_, rfl⟩, by show p < p + 1; omega⟩
      · obtain ⟨o1, o2, o3, o4, o5, o6⟩ := hO j hj
        rw [na_l o1]
        have := hO2 j hj
        exact ⟨by omega, o3, by show p < _; omega, o6⟩
      · have h1 : (na (ns ++ empU rs p d2 (op (d2 - 1)) rs.length) j).2.1 < p := h1
        have h2 : p < (na (ns ++ empU rs p d2 (op (d2 - 1)) rs.length) j).2.2.1 := h2
        have hj2 := hlt j hj (by omega)
        rw [na_l hj2] at h1 h2
        rcases hP j hj2 (by omega) with w | w
        · exact w
        · omega
  · have := hR r hr h1
    obtain ⟨k, k1, k2, k3⟩ := a7 r hr h1 (by omega)
    exact ⟨k, by omega, by rw [na_l k1]; exact k2, by rw [na_l k1]; exact k3⟩
  · rw [emC_step rs p d2 (op (d2 - 1)) rs.length, List.length_append]
    omega
end
section
/-! the nodes at a cut -/
theorem goOn_z {zs : List (List Nat)} {c : Nat} (hc : c < zs.length) : goOn zs c ≤ (zs.getD c []).length ∧ (0 < goOn zs c → 1 ≤ c ∧ goOn zs c ≤ (zs.getD (c - 1) []).length) ∧ ∀ j, j < goOn zs c → (zs.getD (c - 1) []).getD j 0 = (zs.getD c []).getD j 0 := by
  unfold goOn
  by_cases h : 1 ≤ c ∧ c < zs.length
  · rw [if_pos h]
    obtain ⟨l1, l2⟩ := alk_le (zs.getD (c - 1) []) (zs.getD c [])
    refine ⟨l2, fun _ => ⟨h.1, l1⟩, fun j hj => ?_⟩
    obtain ⟨d1, d2⟩ := alk_dig j _ _ hj
    unfold dig at d1
    rw [gd_in (by omega), gd_in (by omega)] at d1
    have d1 : (zs.getD (c - 1) []).getD j 0 + 1 = (zs.getD c []).getD j 0 + 1 := d1
    omega
  · rw [if_neg h]
    exact ⟨by omega, fun q => absurd q (Nat.lt_irrefl _), fun j hj => absurd hj (Nat.not_lt_zero _)⟩
theorem nd_get {l : List Nat} (h : l.Nodup) {i j : Nat} (hi : i < l.length) (hj : j < l.length) (he : l.getD i 0 = l.getD j 0) : i = j := by
  rw [gdn hi, gdn hj] at he
  exact (List.getElem_inj h).mp he
theorem gd_mem {l : List Nat} {i : Nat} (h : i < l.length) : l.getD i 0 ∈ l := by
  rw [gdn h]
  exact List.getElem_mem h
theorem ni_cut {rs : List RG} {cs : List Nat} {zs : List (List Nat)} {p : Nat} {ns : List Nd} {op : Nat → Nat} {dp c : Nat} (hz : zOK rs cs zs) (h : NI rs cs zs p ns op dp c) (hn : rs.length ≤ 8) (hc : c < zs.length) (hp : cs.getD c 0 = p) :
    NI rs cs zs (p + 1) (pcs (zs.getD c []) (cs.getD c 0) (cs.getD (c + 1) 0) (goOn zs c) (zs.getD c []).length (ns ++ empU rs p (goOn zs c) (op (goOn zs c - 1)) rs.length, op)).1 (pcs (zs.getD c []) (cs.getD c 0) (cs.getD (c + 1) 0) (goOn zs c) (zs.getD c []).length (ns ++ empU rs p (goOn zs c) (op (goOn zs c - 1)) rs.length, op)).2 (zs.getD c []).length (c + 1) := by
  obtain ⟨a1, a2, a3, a4, a5, a6, a7, a8⟩ := h
  obtain ⟨z1, z2, z3, z4, z5⟩ := hz
  obtain ⟨y1, y2, y3⟩ := z5 c hc
  obtain ⟨g1, g2, g3⟩ := goOn_z hc
  have hgd : goOn zs c ≤ dp := by
    rcases Nat.eq_zero_or_pos (goOn zs c) with q | q
    · omega
    · obtain ⟨w1, w2⟩ := g2 q
      rw [a2, if_pos ⟨w1, by omega⟩]
      exact w2
  have hlt1 : cs.getD c 0 < cs.getD (c + 1) 0 := srt_at z1 (by omega) (by omega)
  have hel := emC_step rs p (goOn zs c) (op (goOn zs c - 1)) rs.length
  have hl1 : (ns ++ empU rs p (goOn zs c) (op (goOn zs c - 1)) rs.length).length = ns.length + (empU rs p (goOn zs c) (op (goOn zs c - 1)) rs.length).length := List.length_append
  have hem : ∀ k, ns.length ≤ k → k < (ns ++ empU rs p (goOn zs c) (op (goOn zs c - 1)) rs.length).length → ∃ i, i < rs.length ∧ ra rs i = p ∧ rb rs i = p ∧ na (ns ++ empU rs p (goOn zs c) (op (goOn zs c - 1)) rs.length) k = (i, p, p, goOn zs c, if goOn zs c = 0 then none else some (op (goOn zs c - 1))) := fun k h1 h2 => empU_in (na_r h1 h2)
  have hna : ∀ k, k < ns.length → na (ns ++ empU rs p (goOn zs c) (op (goOn zs c - 1)) rs.length) k = na ns k := fun k hk => na_l hk
  generalize hE : ns ++ empU rs p (goOn zs c) (op (goOn zs c - 1)) rs.length = ns1 at hl1 hem hna
  obtain ⟨q1, q2, q3, q4, q5⟩ := pcs_at (zs.getD c []) (cs.getD c 0) (cs.getD (c + 1) 0) (goOn zs c) ns1 op (fun j hj => by have := (a3 j (by omega)).1; omega) (zs.getD c []).length
  generalize pcs (zs.getD c []) (cs.getD c 0) (cs.getD (c + 1) 0) (goOn zs c) (zs.getD c []).length (ns1, op) = R at q1 q2 q3 q4 q5
  rw [hp] at q5 hlt1
  -- what a node now is
  have cls : ∀ k, k < R.1.length → (∃ j, j < goOn zs c ∧ k = op j ∧ k < ns.length ∧ na R.1 k = ((na ns k).1, (na ns k).2.1, cs.getD (c + 1) 0, (na ns k).2.2.2)) ∨ (k < ns.length ∧ na R.1 k = na ns k ∧ ∀ j, j < goOn zs c → k ≠ op j) ∨ (ns.length ≤ k ∧ ∃ i, i < rs.length ∧ ra rs i = p ∧ rb rs i = p ∧ na R.1 k = (i, p, p, goOn zs c, if goOn zs c = 0 then none else some (op (goOn zs c - 1)))) ∨ (∃ i, goOn zs c ≤ i ∧ i < (zs.getD c []).length ∧ k = ns1.length + (i - goOn zs c) ∧ (na R.1 k).1 = (zs.getD c []).getD i 0 ∧ (na R.1 k).2.1 = p ∧ (na R.1 k).2.2.1 = cs.getD (c + 1) 0 ∧ (na R.1 k).2.2.2.1 = i) := by
    intro k hk
    by_cases k1 : k < ns.length
    · by_cases hj : ∃ j, j < (zs.getD c []).length ∧ j < goOn zs c ∧ k = op j
      · obtain ⟨j, j1, j2, j3⟩ := hj
        refine Or.inl ⟨j, j2, j3, k1, ?_⟩
        rw [q3 k (by omega) ⟨j, j1, j2, j3⟩, hna k k1]
      · refine Or.inr (Or.inl ⟨k1, by rw [q4 k (by omega) hj, hna k k1], fun j j2 j3 => hj ⟨j, by omega, j2, j3⟩⟩)
    · by_cases k2 : k < ns1.length
      · have hj : ¬ ∃ j, j < (zs.getD c []).length ∧ j < goOn zs c ∧ k = op j := fun ⟨j, j1, j2, j3⟩ => by
          have := (a3 j (by omega)).1
          omega
        obtain ⟨i, i1, i2, i3, i4⟩ := hem k (by omega) k2
        exact Or.inr (Or.inr (Or.inl ⟨by omega, i, i1, i2, i3, by rw [q4 k k2 hj]; exact i4⟩))
      · refine Or.inr (Or.inr (Or.inr ⟨goOn zs c + (k - ns1.length), by omega, by omega, by omega, ?_⟩))
        have := q5 (goOn zs c + (k - ns1.length)) (by omega) (by omega)
        rw [show ns1.length + (goOn zs c + (k - ns1.length) - goOn zs c) = k by omega] at this
        rw [this]
        exact ⟨rfl, rfl, rfl, rfl⟩
  have hop2 : ∀ j, j < (zs.getD c []).length → R.2 j < R.1.length ∧ (na R.1 (R.2 j)).1 = (zs.getD c []).getD j 0 ∧ (na R.1 (R.2 j)).2.1 ≤ p ∧ (na R.1 (R.2 j)).2.2.1 = cs.getD (c + 1) 0 ∧ (na R.1 (R.2 j)).2.2.2.1 = j := by
    intro j hj
    rw [q2 j]
    by_cases hg : j < goOn zs c
    · rw [if_neg (by omega)]
      obtain ⟨o1, o2, o3, o4, o5, o6⟩ := a3 j (by omega)
      rw [q3 (op j) (by omega) ⟨j, hj, hg, rfl⟩, hna (op j) o1]
      refine ⟨by omega, ?_, by show (na ns (op j)).2.1 ≤ p; omega, rfl, o6⟩
      show (na ns (op j)).1 = _
      rw [o2]
      exact g3 j hg
    · rw [if_pos (by omega), q5 j (by omega) hj]
      exact ⟨by omega, rfl, Nat.le_refl _, rfl, rfl⟩
  have hz4 : ∀ j, j < (zs.getD c []).length → (zs.getD c []).getD j 0 < rs.length ∧ ra rs ((zs.getD c []).getD j 0) ≤ p ∧ cs.getD (c + 1) 0 ≤ rb rs ((zs.getD c []).getD j 0) := fun j hj => by
    obtain ⟨m1, m2, m3⟩ := (y3 _).mp (gd_mem hj)
    exact ⟨m1, by omega, z4 c _ hc m1 m2 m3⟩
  -- where an old piece ends
  have old : ∀ k, k < ns.length → (na ns k).2.1 < (na ns k).2.2.1 → (na ns k).2.2.1 ≤ p := fun k hk hlt => by
    rcases (a4 k hk hlt).2.2 with ⟨j, j1, j2⟩ | ⟨c1, c2⟩
    · have := (a3 j j1).2.2.2.2.1
      rw [← j2] at this
      omega
    · have := a1.2.1 c1
      omega
  refine ⟨⟨by omega, fun _ => by rw [Nat.add_sub_cancel]; omega, fun _ => by omega⟩, ?_, fun j hj => ?_, fun k hk hlt => ?_, fun k l hk hl hne hk1 hl1 he => ?_, fun k hk hnl => ?_, fun r hr h1 h2 => ?_, ?_⟩
  · rw [if_pos ⟨by omega, by omega⟩, Nat.add_sub_cancel]
  · obtain ⟨o1, o2, o3, o4, o5⟩ := hop2 j hj
    rw [Nat.add_sub_cancel]
    exact ⟨o1, o2, by omega, by omega, o4, o5⟩
  · rcases cls k hk with ⟨j, j1, j2, j3, j4⟩ | ⟨k1, k2, k3⟩ | ⟨k1, i, i1, i2, i3, i4⟩ | ⟨i, i1, i2, i3, i4, i5, i6, i7⟩
    · obtain ⟨o1, o2, o3, o4, o5, o6⟩ := a3 j (by omega)
      obtain ⟨w1, w2, w3⟩ := hz4 j (by omega)
      have er : (na ns k).1 = (zs.getD c []).getD j 0 := by
        rw [j2, o2]
        exact g3 j j1
      rw [← j2] at o3 o5 o6
      obtain ⟨⟨p1, p2, p3, p4⟩, _⟩ := a4 k j3 (by omega)
      refine ⟨?_, by rw [j4]; show (na ns k).2.1 < _; omega, Or.inl ⟨j, by omega, ?_⟩⟩
      · rw [j4]
        exact ⟨p1, p2, by show cs.getD (c + 1) 0 ≤ rb rs (na ns k).1; rw [er]; exact w3, p4⟩
      · rw [q2 j, if_neg (by omega)]
        exact j2
    · rw [k2] at hlt ⊢
      obtain ⟨p1, p2, p3⟩ := a4 k k1 hlt
      have := old k k1 hlt
      exact ⟨p1, by omega, Or.inr ⟨by omega, by rw [Nat.add_sub_cancel]; omega⟩⟩
    · rw [i4] at hlt
      exact absurd hlt (Nat.lt_irrefl _)
    · obtain ⟨w1, w2, w3⟩ := hz4 i i2
      refine ⟨⟨by rw [i4]; exact w1, by rw [i4, i5]; exact w2, by rw [i4, i6]; exact w3, by rw [i7]; omega⟩, by rw [i5]; omega, Or.inl ⟨i, i2, ?_⟩⟩
      rw [q2 i, if_pos (by omega)]
      exact i3
  · rcases cls k hk with ⟨j, j1, j2, j3, j4⟩ | ⟨k1, k2, k3⟩ | ⟨k1, i, i1, i2, i3, i4⟩ | ⟨i, i1, i2, i3, i4, i5, i6, i7⟩
    · obtain ⟨o1, o2, o3, o4, o5, o6⟩ := a3 j (by omega)
      rw [← j2] at o2 o3 o5
      rcases cls l hl with ⟨j', j1', j2', j3', j4'⟩ | ⟨k1', k2', k3'⟩ | ⟨k1', i', i1', i2', i3', i4'⟩ | ⟨i', i1', i2', i3', i4', i5', i6', i7'⟩
      · obtain ⟨o1', o2', o3', o4', o5', o6'⟩ := a3 j' (by omega)
        rw [← j2'] at o3' o5'
        rw [j4, j4'] at he
        have := a5 k l j3 j3' hne (by omega) (by omega) he
        omega
      · rw [k2'] at hl1 ⊢
        rw [j4, k2'] at he
        have := a5 k l j3 k1' hne (by omega) hl1 he
        rw [j4]
        have := (a4 l k1' hl1).2.1
        show cs.getD (c + 1) 0 ≤ _ ∨ _ ≤ (na ns k).2.1
        omega
      · rw [i4'] at hl1
        exact absurd hl1 (Nat.lt_irrefl _)
      · rw [j4, i4'] at he
        have he : (na ns k).1 = (zs.getD c []).getD i' 0 := he
        rw [o2, g3 j j1] at he
        have := nd_get y1 (by omega) i2' he
        omega
    · rw [k2] at hk1
      rcases cls l hl with ⟨j', j1', j2', j3', j4'⟩ | ⟨k1', k2', k3'⟩ | ⟨k1', i', i1', i2', i3', i4'⟩ | ⟨i', i1', i2', i3', i4', i5', i6', i7'⟩
      · obtain ⟨o1', o2', o3', o4', o5', o6'⟩ := a3 j' (by omega)
        rw [← j2'] at o3' o5'
        rw [k2, j4'] at he
        have := a5 k l k1 j3' hne hk1 (by omega) he
        have := (a4 k k1 hk1).2.1
        rw [k2, j4']
        show (na ns k).2.2.1 ≤ (na ns l).2.1 ∨ cs.getD (c + 1) 0 ≤ _
        omega
      · rw [k2'] at hl1
        rw [k2, k2'] at he ⊢
        exact a5 k l k1 k1' hne hk1 hl1 he
      · rw [i4'] at hl1
        exact absurd hl1 (Nat.lt_irrefl _)
      · have := old k k1 hk1
        rw [k2, i5']
        exact Or.inl this
    · rw [i4] at hk1
      exact absurd hk1 (Nat.lt_irrefl _)
    · rcases cls l hl with ⟨j', j1', j2', j3', j4'⟩ | ⟨k1', k2', k3'⟩ | ⟨k1', i', i1', i2', i3', i4'⟩ | ⟨i', i1', i2', i3', i4', i5', i6', i7'⟩
      · obtain ⟨o1', o2', o3', o4', o5', o6'⟩ := a3 j' (by omega)
        rw [← j2'] at o2'
        rw [i4, j4'] at he
        have he : (zs.getD c []).getD i 0 = (na ns l).1 := he
        rw [o2', g3 j' j1'] at he
        have := nd_get y1 i2 (by omega) he
        omega
      · rw [k2'] at hl1
        have := old l k1' hl1
        rw [k2', i5]
        exact Or.inr this
      · rw [i4'] at hl1
        exact absurd hl1 (Nat.lt_irrefl _)
      · rw [i4, i4'] at he
        have := nd_get y1 i2 i2' he
        omega
  · rcases cls k hk with ⟨j, j1, j2, j3, j4⟩ | ⟨k1, k2, k3⟩ | ⟨k1, i, i1, i2, i3, i4⟩ | ⟨i, i1, i2, i3, i4, i5, i6, i7⟩
    · obtain ⟨o1, o2, o3, o4, o5, o6⟩ := a3 j (by omega)
      rw [← j2] at o3
      rw [j4] at hnl
      have hnl : ¬ (na ns k).2.1 < cs.getD (c + 1) 0 := hnl
      omega
    · rw [k2] at hnl ⊢
      obtain ⟨e1, ⟨f, f1, f2, f3⟩, e3⟩ := a6 k k1 hnl
      refine ⟨e1, ⟨f, fun i hi => ?_, fun j hj h1 h2 => ?_, f3⟩, by omega⟩
      · obtain ⟨u1, u2, u3, u4⟩ := f1 i hi
        rcases cls (f i) (by omega) with ⟨j', j1', j2', j3', j4'⟩ | ⟨k1', k2', k3'⟩ | ⟨k1', _⟩ | ⟨i', i1', i2', i3', i4', i5', i6', i7'⟩
        · rw [j4']
          exact ⟨by omega, u2, by show _ < cs.getD (c + 1) 0; omega, u4⟩
        · rw [k2']
          exact ⟨by omega, u2, u3, u4⟩
        · omega
        · omega
      · rcases cls j hj with ⟨j', j1', j2', j3', j4'⟩ | ⟨k1', k2', k3'⟩ | ⟨k1', i', i1', i2', i3', i4'⟩ | ⟨i', i1', i2', i3', i4', i5', i6', i7'⟩
        · obtain ⟨o1', o2', o3', o4', o5', o6'⟩ := a3 j' (by omega)
          rw [← j2'] at o5'
          rw [j4'] at h1
          exact f2 j j3' h1 (by omega)
        · rw [k2'] at h1 h2
          exact f2 j k1' h1 h2
        · rw [i4'] at h1 h2
          have h1 : p < (na ns k).2.1 := h1
          omega
        · rw [i5'] at h1
          omega
    · rw [i4]
      refine ⟨⟨rfl, i1, i2, i3, by show goOn zs c ≤ 5; omega⟩, ⟨op, fun j hj => ?_, fun j hj h1 h2 => ?_, rfl⟩, by show p < p + 1; omega⟩
      · have hj : j < goOn zs c := hj
        obtain ⟨o1, o2, o3, o4, o5, o6⟩ := a3 j (by omega)
        rw [q3 (op j) (by omega) ⟨j, by omega, hj, rfl⟩, hna (op j) o1]
        exact ⟨by omega, o3, by show p < cs.getD (c + 1) 0; omega, o6⟩
      · have h1 : (na R.1 j).2.1 < p := h1
        have h2 : p < (na R.1 j).2.2.1 := h2
        rcases cls j hj with ⟨j', j1', j2', j3', j4'⟩ | ⟨k1', k2', k3'⟩ | ⟨k1', i', i1', i2', i3', i4'⟩ | ⟨i', i1', i2', i3', i4', i5', i6', i7'⟩
        · exact ⟨j', j1', j2'⟩
        · rw [k2'] at h1 h2
          have := old j k1' (by omega)
          omega
        · rw [i4'] at h1
          exact absurd h1 (Nat.lt_irrefl _)
        · omega
    · rw [i5, i6] at hnl
      exact absurd hlt1 hnl
  · rcases Nat.lt_or_ge (ra rs r) p with q | q
    · obtain ⟨k, k1, k2, k3⟩ := a7 r hr h1 q
      have hkR : k < R.1.length := by omega
      refine ⟨k, hkR, ?_⟩
      rcases cls k hkR with ⟨j', j1', j2', j3', j4'⟩ | ⟨k1', k2', k3'⟩ | ⟨k1', _⟩ | ⟨i', i1', i2', i3', i4', i5', i6', i7'⟩
      · rw [j4']
        have := (a4 k j3' k3).2.1
        exact ⟨k2, by show (na ns k).2.1 < cs.getD (c + 1) 0; omega⟩
      · rw [k2']
        exact ⟨k2, k3⟩
      · omega
      · omega
    · have hm : r ∈ zs.getD c [] := (y3 r).mpr ⟨hr, by omega, by omega⟩
      obtain ⟨j, j1, j2⟩ := mem_gd hm
      obtain ⟨o1, o2, o3, o4, o5⟩ := hop2 j j1
      exact ⟨R.2 j, o1, by rw [o2]; exact j2, by omega⟩
  · have e0 : (if c < zs.length then c else zs.length) = c := if_pos hc
    rw [e0] at a8
    have e1 : c + 1 ≤ (if c + 1 < zs.length then c + 1 else zs.length) := by split <;> omega
    omega
/-- of all nodes, ahead of each place -/
theorem ni_all {rs : List RG} {cs : List Nat} {zs : List (List Nat)} (hz : zOK rs cs zs) (hn : rs.length ≤ 8) : ∀ p, NI rs cs zs p (lnS rs cs zs p).1 (lnS rs cs zs p).2.1 (lnS rs cs zs p).2.2.1 (lnS rs cs zs p).2.2.2
  | 0 => by
    show NI rs cs zs 0 [] (fun _ => 0) 0 0
    refine ⟨⟨by omega, fun q => absurd q (Nat.lt_irrefl _), fun _ => by omega⟩, by simp, fun j hj => absurd hj (Nat.not_lt_zero _), fun k hk => absurd hk (Nat.not_lt_zero _), fun k l hk => absurd hk (Nat.not_lt_zero _), fun k hk => absurd hk (Nat.not_lt_zero _), fun r _ _ h => absurd h (Nat.not_lt_zero _), by simp⟩
  | p + 1 => by
    have ih := ni_all hz hn p
    obtain ⟨z1, z2, z3, z4, z5⟩ := hz
    have hz : zOK rs cs zs := ⟨z1, z2, z3, z4, z5⟩
    have hst : ∀ ns op dp c, lnS rs cs zs p = (ns, op, dp, c) → lnS rs cs zs (p + 1) = if c < cs.length ∧ cs.getD c 0 = p then
        (if c < zs.length then
          ((pcs (zs.getD c []) (cs.getD c 0) (cs.getD (c + 1) 0) (goOn zs c) (zs.getD c []).length (ns ++ empU rs p (goOn zs c) (op (goOn zs c - 1)) rs.length, op)).1, (pcs (zs.getD c []) (cs.getD c 0) (cs.getD (c + 1) 0) (goOn zs c) (zs.getD c []).length (ns ++ empU rs p (goOn zs c) (op (goOn zs c - 1)) rs.length, op)).2, (zs.getD c []).length, c + 1)
        else (ns ++ empU rs p (goOn zs c) (op (goOn zs c - 1)) rs.length, op, 0, c + 1))
        else (ns ++ empU rs p dp (op (dp - 1)) rs.length, op, dp, c) := fun ns op dp c e => by
      conv => lhs; unfold lnS
      rw [e]
    generalize lnS rs cs zs p = s at ih hst
    obtain ⟨ns, op, dp, c⟩ := s
    have hst := hst ns op dp c rfl
    have ih : NI rs cs zs p ns op dp c := ih
    have hh := ih
    obtain ⟨a1, a2, a3, a4, a5, a6, a7, a8⟩ := ih
    by_cases hc : c < cs.length ∧ cs.getD c 0 = p
    · rw [if_pos hc] at hst
      by_cases hcz : c < zs.length
      · rw [if_pos hcz] at hst
        rw [hst]
        exact ni_cut hz hh hn hcz hc.2
      · rw [if_neg hcz] at hst
        have eg : goOn zs c = 0 := by
          unfold goOn
          rw [if_neg (by omega)]
        rw [eg] at hst
        rw [hst]
        refine ni_emp hh 0 (c + 1) hn ⟨by omega, fun _ => by rw [Nat.add_sub_cancel]; omega, fun q => by omega⟩ (by rw [if_neg (by omega)]) (by omega) (fun j hj => absurd hj (Nat.not_lt_zero _)) (fun j hj => absurd hj (Nat.not_lt_zero _)) (fun k hk hlt => ?_) (fun r hr h1 h2 => ?_) (by rw [if_neg hcz, if_neg (by omega)]; exact Nat.le_refl _)
        · refine Or.inr ⟨by omega, ?_⟩
          rw [Nat.add_sub_cancel]
          rcases (a4 k hk hlt).2.2 with ⟨j, j1, j2⟩ | ⟨c1, c2⟩
          · have := (a3 j j1).2.2.2.2.1
            rw [← j2] at this
            omega
          · have := a1.2.1 c1
            omega
        · obtain ⟨i, i1, i2⟩ := z3 r hr h1
          have := srt_at z1 (show i < c by omega) hc.1
          omega
    · rw [if_neg hc] at hst
      rw [hst]
      have hc1 : c < cs.length → p < cs.getD c 0 := fun q => by
        have := a1.2.2 q
        have : cs.getD c 0 ≠ p := fun w => hc ⟨q, w⟩
        omega
      have hdc : 0 < dp → 1 ≤ c ∧ c - 1 < zs.length := fun q => by
        by_cases w : 1 ≤ c ∧ c - 1 < zs.length
        · exact w
        · rw [if_neg w] at a2
          omega
      refine ni_emp hh dp c hn ⟨a1.1, fun q => by have := a1.2.1 q; omega, fun q => by have := hc1 q; omega⟩ a2 ?_ a3 (fun j hj => hc1 (by have := hdc (by omega); omega)) (fun k hk hlt => ?_) (fun r hr h1 h2 => ?_) (Nat.le_refl _)
      · rw [a2]
        split
        · next w => exact (z5 _ w.2).2.1
        · omega
      · rcases (a4 k hk hlt).2.2 with q | ⟨c1, c2⟩
        · exact Or.inl q
        · have := a1.2.1 c1
          exact Or.inr ⟨c1, c2, by omega⟩
      · obtain ⟨i, i1, i2⟩ := z3 r hr h1
        rcases Nat.lt_or_ge i c with q | q
        · have h3 := srt_le z1 (show i ≤ c - 1 by omega) (by omega)
          have := a1.2.1 (by omega)
          omega
        · have h3 := srt_le z1 q (by omega)
          have := hc1 (by omega)
          omega
theorem ndT_NI {T : TS} (hw : WT T) (hnc : NC T.1) : ∃ op dp c, NI T.1 (csT T) (zsT T) (T.2.1 + 1) (ndT T) op dp c := ⟨_, _, _, ni_all (zOK_T hw hnc) hw.1.1 (T.2.1 + 1)⟩
theorem ndT_B {T : TS} (hw : WT T) (hnc : NC T.1) : ndB T.2.1 (ndT T) := by
  obtain ⟨op, dp, c, a1, a2, a3, a4, a5, a6, a7, a8⟩ := ndT_NI hw hnc
  have hn := hw.1.1
  have hzl := (zOK_T hw hnc).2.1
  have hcl : (csT T).length ≤ 16 := csT_len hw 8
  have hem : emC T.1 (T.2.1 + 1) T.1.length ≤ 8 := Nat.le_trans (smN_one _ _) hn
  refine ⟨?_, fun k hk => ?_⟩
  · have : (if c < (zsT T).length then c else (zsT T).length) ≤ 15 := by split <;> omega
    omega
  · by_cases q : (na (ndT T) k).2.1 < (na (ndT T) k).2.2.1
    · obtain ⟨⟨p1, p2, p3, p4⟩, _⟩ := a4 k hk q
      have := (hw.1.at p1).2.2
      exact ⟨by show (na (ndT T) k).1 < 8; omega, Nat.le_of_lt q, by show (na (ndT T) k).2.2.1 ≤ _; omega, by show (na (ndT T) k).2.2.2.1 ≤ 5; omega⟩
    · obtain ⟨⟨p1, p2, p3, p4, p5⟩, _⟩ := a6 k hk q
      have := (hw.1.at p2).2.2
      exact ⟨by show (na (ndT T) k).1 < 8; omega, Nat.le_of_eq p1, by show (na (ndT T) k).2.2.1 ≤ _; omega, p5⟩
end
section
/-! draw -/
def dnx (x : Nat) : Nat := (x * 1103515245 + 12345) % 2147483648
def drG (L x : Nat) : RG := (x / 65536 % 4, (if x / 32768 % (L + 1) < x / 1024 % (L + 1) then x / 32768 % (L + 1) else x / 1024 % (L + 1)), (if x / 1024 % (L + 1) < x / 32768 % (L + 1) then x / 32768 % (L + 1) else x / 1024 % (L + 1)))
def drS (L x : Nat) (rs : List RG) : List RG := if crowd (rs ++ [drG L x]) = true then rs else rs ++ [drG L x]
def drX (L : Nat) : Nat → Nat → List RG → List RG
  | 0, _, rs => rs
  | n + 1, x, rs => drX L n (dnx x) (drS L (dnx x) rs)
theorem ite_nI {a b : Nat} (ha : a < 2147483648) (hb : b < 2147483648) : (if nI a < nI b then nI a else nI b) = nI (if a < b then a else b) := by
  by_cases h : a < b
  · rw [if_pos h, if_pos (by rw [nx_lt ha hb]; exact h)]
  · rw [if_neg h, if_neg (by rw [nx_lt ha hb]; exact h)]
theorem ite_nI' {a b : Nat} (ha : a < 2147483648) (hb : b < 2147483648) : (if nI a < nI b then nI b else nI a) = nI (if a < b then b else a) := by
  by_cases h : a < b
  · rw [if_pos h, if_pos (by rw [nx_lt ha hb]; exact h)]
  · rw [if_neg h, if_neg (by rw [nx_lt ha hb]; exact h)]
theorem dnx_lt (x : Nat) : dnx x < 2147483648 := Nat.mod_lt _ (by omega)
theorem drG_ok (L x : Nat) : (drG L x).1 < 4 ∧ (drG L x).2.1 ≤ (drG L x).2.2 ∧ (drG L x).2.2 ≤ L := by
  have h1 := Nat.mod_lt (x / 32768) (show 0 < L + 1 by omega)
  have h2 := Nat.mod_lt (x / 1024) (show 0 < L + 1 by omega)
  refine ⟨Nat.mod_lt _ (by omega), ?_, ?_⟩
  · show (if x / 32768 % (L + 1) < x / 1024 % (L + 1) then x / 32768 % (L + 1) else x / 1024 % (L + 1)) ≤ (if x / 1024 % (L + 1) < x / 32768 % (L + 1) then x / 32768 % (L + 1) else x / 1024 % (L + 1))
    split <;> split <;> omega
  · show (if x / 1024 % (L + 1) < x / 32768 % (L + 1) then x / 32768 % (L + 1) else x / 1024 % (L + 1)) ≤ L
    split <;> omega
theorem drS_ok {L : Nat} (x : Nat) {rs : List RG} (h : WR L rs ∧ NC rs) (hl : rs.length < 8) : (WR L (drS L x rs) ∧ NC (drS L x rs)) ∧ (drS L x rs).length ≤ rs.length + 1 := by
  unfold drS
  split
  · exact ⟨h, by omega⟩
  · next hc =>
    exact ⟨⟨WR_app h.1 hl (drG_ok L x), nc_of (by simpa using hc) (by simp; omega)⟩, by simp⟩
theorem app_erase (rs : List RG) (g : RG) : (rs ++ [g]).eraseIdx rs.length = rs := by
  rw [List.eraseIdx_append_of_length_le (Nat.le_refl _), Nat.sub_self]
  simp
theorem lne0 : ¬ lN 2147483648 = 0 ∧ ¬ lN 1024 = 0 ∧ ¬ lN 32768 = 0 ∧ ¬ lN 65536 = 0 ∧ ¬ lN 4 = 0 := by decide
theorem draw_ok {lay : List Nat} (hwf : wfB lay = true) (d : Nat) {μ : Mem} {x : Nat} {S : XS} (h : XAt μ x S) (s v : Int32) : Rn lay (d + 3) mX_draw [rf 15 x, vi s, vi v] μ (if (0 ≤ s.toInt ∧ s.toInt ≤ 999999) ∧ 0 ≤ v.toInt ∧ v.toInt ≤ 8 then PX x (nI (drX S.1.2.1 (tN v) (tN s) []).length) (xSet S (drX S.1.2.1 (tN v) (tN s) [], S.1.2)) else PX x (mI 1) (xBad S)) := by
  refine Rn_intro ok_X_draw hwf rfl (fun G hC => g_X_draw_0 hC ?_)
  have hw := h.2.2.2.2.2.1.1
  have hn := hw.1.1
  have hL := hw.2.1
  have e9 : (nI 999999).toInt = 999999 := by decide
  have e8 : (nI 8).toInt = 8 := by decide
  refine ⟨fun q => ?_, fun q => ⟨fun q2 => ?_, fun q2 => ⟨fun q3 => ?_, fun q3 => ⟨fun q4 => ?_, fun q4 => ?_⟩⟩⟩⟩
  · rw [i_lt, i_0] at q
    rw [if_neg (by omega)]
    exact useBad hwf _ h
  · rw [i_lt, e9] at q2
    rw [if_neg (by omega)]
    exact useBad hwf _ h
  · rw [i_lt, i_0] at q3
    rw [if_neg (by omega)]
    exact useBad hwf _ h
  · rw [i_lt, i_0] at q
    rw [i_lt, e9] at q2
    rw [i_lt, i_0] at q3
    rw [i_le, e8] at q4
    rw [if_pos (by omega)] at hC
    obtain ⟨s', s1, s2, s3⟩ := nat_of (v := s) (by omega)
    obtain ⟨n, n1, n2, n3⟩ := nat_of (v := v) (by omega)
    have es : tN s = s' := by unfold tN; rw [s3]; rfl
    have en : tN v = n := by unfold tN; rw [n3]; rfl
    rw [es, en] at hC
    rw [s2, n2, nI_l (by omega)]
    refine useN (copy_ok hwf _ (t := x + 6) h.1 hw (by omega)) (fun μ1 hp => ?_)
    obtain ⟨p1, p2⟩ := hp
    have loop : ∀ k i X (rs : List RG) (μ' : Mem), i + k = n → X < 2147483648 → XAt μ' x S → TeAt μ' (x + 6) (rs, S.1.2) → WR S.1.2.1 rs ∧ NC rs → rs.length ≤ i → drX S.1.2.1 k X rs = drX S.1.2.1 n s' [] → G 50 [rf 15 x, un, vi (nI n), vl (lN X), un, vi (nI i), un, un, un] [] μ' := by
      intro k
      induction k with
      | zero =>
        intro i X rs μ' hi hX hx hT hW hl he
        refine g_X_draw_50 hC ?_
        rw [nx_le (by omega) (by omega)]
        refine ⟨fun _ => ?_, fun z => absurd (by omega) z⟩
        refine g_X_draw_166 hC ?_
        refine useSettle hwf d hx hT ⟨hW.1, hw.2⟩ hW.2 (fun μ3 q3 => ⟨_, rfl, ?_, ?_⟩)
        · rw [q3.1.1, ← he]
          rfl
        · rw [← he]
          exact q3
      | succ k ih =>
        intro i X rs μ' hi hX hx hT hW hl he
        refine g_X_draw_50 hC ?_
        rw [nx_le (by omega) (by omega)]
        refine ⟨fun z => absurd z (by omega), fun _ => ⟨lne0.1, ?_⟩⟩
        rw [lN_mul, lN_add, pk_lRem (by omega) (by omega) (by omega)]
        have hX2 := dnx_lt X
        have he : drX S.1.2.1 k (dnx X) (drS S.1.2.1 (dnx X) rs) = drX S.1.2.1 n s' [] := he
        show G 70 [rf 15 x, un, vi (nI n), vl (lN (dnx X)), un, vi (nI i), un, un, un] [] μ'
        generalize dnx X = Y at hX2 he
        refine g_X_draw_70 hC ⟨lne0.2.1, ?_⟩
        rw [pk_lDiv (by omega) (by omega) (by omega), pk_lDiv (by omega) (by omega) (by omega), pk_lDiv (by omega) (by omega) (by omega), pk_lRem (by omega) (by omega) (by omega), lN_i]
        have hL5 : μ'.1 (x + 6) 5 = nI S.1.2.1 := hT.2.1
        refine useV (placeBy_ok hwf _ hL5 hL (by omega)) ⟨lne0.2.2.1, ?_⟩
        refine useV (placeBy_ok hwf _ hL5 hL (by omega)) ⟨lne0.2.2.2.1, lne0.2.2.2.2, ?_⟩
        have m1 := Nat.mod_lt (Y / 1024) (show 0 < S.1.2.1 + 1 by omega)
        have m2 := Nat.mod_lt (Y / 32768) (show 0 < S.1.2.1 + 1 by omega)
        refine g_X_draw_110 hC ?_
        rw [ite_nI (by omega) (by omega), ite_nI' (by omega) (by omega), nI_add]
        have hl8 : rs.length < 8 := by omega
        refine useQ (append_ok hwf _ (k := Y / 65536 % 4) (a := if Y / 32768 % (S.1.2.1 + 1) < Y / 1024 % (S.1.2.1 + 1) then Y / 32768 % (S.1.2.1 + 1) else Y / 1024 % (S.1.2.1 + 1)) (b := if Y / 1024 % (S.1.2.1 + 1) < Y / 32768 % (S.1.2.1 + 1) then Y / 32768 % (S.1.2.1 + 1) else Y / 1024 % (S.1.2.1 + 1)) hT hl8) (fun y μ2 hp => ?_)
        obtain ⟨_, c1, c2⟩ := hp
        have c1 : TeAt μ2 (x + 6) (rs ++ [drG S.1.2.1 Y], S.1.2) := c1
        have hx2 := hx.trial c2
        have hW2 : WR S.1.2.1 (rs ++ [drG S.1.2.1 Y]) := WR_app hW.1 hl8 (drG_ok _ _)
        obtain ⟨d1, d2⟩ := drS_ok Y hW hl8
        refine useV (isCrowded_ok hwf _ c1 ⟨hW2, hw.2⟩) ?_
        rw [bI_eq0]
        refine ⟨fun z => ?_, fun z => ?_⟩
        · have e : drS S.1.2.1 Y rs = rs ++ [drG S.1.2.1 Y] := by unfold drS; rw [if_neg z]
          rw [e] at he d1 d2
          exact ih (i + 1) Y _ μ2 (by omega) hX2 hx2 c1 d1 (by omega) he
        · have e : drS S.1.2.1 Y rs = rs := by unfold drS; rw [if_pos (Classical.not_not.mp z)]
          rw [e] at he
          have hll : (rs ++ [drG S.1.2.1 Y]).length = rs.length + 1 := by simp
          rw [c1.1]
          show ∃ P : PT, Rn lay (d + 2) mTe_remove [rf 13 (x + 6), vi (nI (rs ++ [drG S.1.2.1 Y]).length - nI 1)] μ2 P ∧ _
          rw [hll, nx_sub (by omega), Nat.add_sub_cancel]
          refine useN (remove_ok hwf _ c1 ⟨hW2, hw.2⟩ (j := rs.length) (by rw [hll]; omega)) (fun μ3 hp => ?_)
          obtain ⟨r1, r2⟩ := hp
          rw [app_erase] at r1
          exact ih (i + 1) Y rs μ3 (by omega) hX2 (hx2.trial r2) r1 hW (by omega) he
    refine loop n 0 s' [] _ (by omega) (by omega) (h.trial (p2.up (by simp))) ⟨by rw [up_at]; rfl, by rw [up_n2 (by omega)]; exact p1.2.1, fun i hi => absurd hi (Nat.not_lt_zero _), fun k hk => by rw [up_n1 (by omega)]; exact p1.2.2.2 k hk⟩ ⟨⟨by simp, fun r hr => by simp at hr⟩, nc_nil⟩ (by simp) rfl
  · rw [i_le, e8] at q4
    rw [if_neg (by omega)]
    exact useBad hwf _ h
end
section
/-! splits -/
def spU (T : TS) (k : Nat) : Nat → Nat
  | 0 => 0
  | r + 1 => spU T k r + (if kd T.1 r = k then fS (pcF r) (ndT T) (ndT T).length - 1 else 0)
def spB (ns : List Nd) (rs : List RG) (k : Nat) : Nat → List RG
  | 0 => rs
  | r + 1 => if kd rs r = k then (brk ns r (spB ns rs k r) ns.length).1 else spB ns rs k r
theorem spU_mono (T : TS) (k : Nat) : ∀ r n, r ≤ n → spU T k r ≤ spU T k n
  | r, 0, h => by
    have : r = 0 := by omega
    rw [this]
    exact Nat.le_refl _
  | r, n + 1, h => by
    rcases Nat.lt_or_eq_of_le h with q | q
    · have := spU_mono T k r n (by omega)
      show spU T k r ≤ spU T k n + _
      omega
    · rw [q]
      exact Nat.le_refl _
theorem brk_s (ns : List Nd) (r : Nat) (rs : List RG) (k : Nat) : brk ns r rs (k + 1) = if (ns.getD k nd0).1 = r ∧ (ns.getD k nd0).2.1 < (ns.getD k nd0).2.2.1 then (if (brk ns r rs k).2 = true then (brk ns r rs k).1.set r (kd (brk ns r rs k).1 r, (ns.getD k nd0).2.1, (ns.getD k nd0).2.2.1) else (brk ns r rs k).1 ++ [(kd (brk ns r rs k).1 r, (ns.getD k nd0).2.1, (ns.getD k nd0).2.2.1)], false) else brk ns r rs k := rfl
theorem fS_s (f : Nd → Nat) (ns : List Nd) (k : Nat) : fS f ns (k + 1) = fS f ns k + f (ns.getD k nd0) := rfl
theorem brk_fl (ns : List Nd) (r : Nat) (rs : List RG) (hr : r < rs.length) : ∀ K, (brk ns r rs K).1.length = rs.length + (fS (pcF r) ns K - 1) ∧ ((brk ns r rs K).2 = true → fS (pcF r) ns K = 0 ∧ (brk ns r rs K).1 = rs) ∧ (¬ (brk ns r rs K).2 = true → 0 < fS (pcF r) ns K) ∧ ∀ i, i < rs.length → i ≠ r → el (brk ns r rs K).1 i = el rs i
  | 0 => ⟨rfl, fun _ => ⟨rfl, rfl⟩, fun q => absurd rfl q, fun _ _ _ => rfl⟩
  | K + 1 => by
    obtain ⟨i1, i2, i3, i4⟩ := brk_fl ns r rs hr K
    rw [brk_s, fS_s]
    by_cases h : (ns.getD K nd0).1 = r ∧ (ns.getD K nd0).2.1 < (ns.getD K nd0).2.2.1
    · have hp : pcF r (ns.getD K nd0) = 1 := if_pos h
      rw [if_pos h, hp]
      by_cases hb : (brk ns r rs K).2 = true
      · obtain ⟨b1, b2⟩ := i2 hb
        rw [if_pos hb, b1]
        refine ⟨by show (List.set _ _ _).length = _; rw [List.length_set, i1, b1], fun q => (by cases q), fun _ => by omega, fun i hi hne => ?_⟩
        show el (List.set _ _ _) i = _
        rw [b2, el_set hr, if_neg hne]
      · have := i3 hb
        rw [if_neg hb]
        refine ⟨by show (_ ++ [_]).length = _; rw [List.length_append, i1, List.length_singleton]; omega, fun q => (by cases q), fun _ => by omega, fun i hi hne => ?_⟩
        show el (_ ++ [_]) i = _
        rw [el_app (by omega)]
        exact i4 i hi hne
    · have hp : pcF r (ns.getD K nd0) = 0 := if_neg h
      rw [if_neg h, hp, Nat.add_zero]
      exact ⟨i1, i2, i3, i4⟩
/-- pieces of r over the place p -/
def pvF (r p : Nat) : Nd → Nat := fun x => if x.1 = r ∧ x.2.1 < x.2.2.1 then (if x.2.1 ≤ p ∧ p < x.2.2.1 then 1 else 0) else 0
theorem brk_cnt (ns : List Nd) (r p : Nat) (rs : List RG) (hr : r < rs.length) : ∀ K, ((brk ns r rs K).1.filter (cvr p)).length + (if (brk ns r rs K).2 = true then 0 else (if cvr p (el rs r) = true then 1 else 0)) = (rs.filter (cvr p)).length + fS (pvF r p) ns K
  | 0 => rfl
  | K + 1 => by
    have ih := brk_cnt ns r p rs hr K
    obtain ⟨i1, i2, i3, i4⟩ := brk_fl ns r rs hr K
    rw [brk_s, fS_s]
    by_cases h : (ns.getD K nd0).1 = r ∧ (ns.getD K nd0).2.1 < (ns.getD K nd0).2.2.1
    · have hp : pvF r p (ns.getD K nd0) = (if cvr p (kd (brk ns r rs K).1 r, (ns.getD K nd0).2.1, (ns.getD K nd0).2.2.1) = true then 1 else 0) := by
        unfold pvF
        rw [if_pos h]
        by_cases w : (ns.getD K nd0).2.1 ≤ p ∧ p < (ns.getD K nd0).2.2.1
        · rw [if_pos w, if_pos (cvr_t.mpr w)]
        · rw [if_neg w, if_neg (fun q => w (cvr_t.mp q))]
      rw [if_pos h, hp]
      by_cases hb : (brk ns r rs K).2 = true
      · obtain ⟨b1, b2⟩ := i2 hb
        rw [if_pos hb] at ih
        rw [if_pos hb]
        show ((List.set (brk ns r rs K).1 r _).filter (cvr p)).length + (if false = true then 0 else _) = _
        rw [if_neg (by simp)]
        have := cnt_st (cvr p) (kd (brk ns r rs K).1 r, (ns.getD K nd0).2.1, (ns.getD K nd0).2.2.1) (brk ns r rs K).1 r (by omega)
        rw [b2] at this ih ⊢
        omega
      · rw [if_neg hb] at ih
        rw [if_neg hb]
        show (((brk ns r rs K).1 ++ [_]).filter (cvr p)).length + (if false = true then 0 else _) = _
        rw [if_neg (by simp), List.filter_append, List.length_append]
        by_cases w : cvr p (kd (brk ns r rs K).1 r, (ns.getD K nd0).2.1, (ns.getD K nd0).2.2.1) = true
        · rw [if_pos w, List.filter_cons, if_pos w]
          show _ + 1 + _ = _
          omega
        · rw [if_neg w, List.filter_cons, if_neg w]
          show _ + 0 + _ = _
          omega
    · have hp : pvF r p (ns.getD K nd0) = 0 := if_neg h
      rw [if_neg h, hp]
      exact ih
theorem fS_one {f : Nd → Nat} {ns : List Nd} : ∀ {n : Nat}, (∀ i, i < n → f (ns.getD i nd0) ≤ 1) → (∀ i j, i < n → j < n → i ≠ j → f (ns.getD i nd0) = 0 ∨ f (ns.getD j nd0) = 0) → fS f ns n ≤ 1
  | 0, _, _ => Nat.zero_le _
  | n + 1, h1, h2 => by
    have ih := fS_one (f := f) (ns := ns) (n := n) (fun i hi => h1 i (by omega)) (fun i j hi hj hne => h2 i j (by omega) (by omega) hne)
    rw [fS_s]
    have h3 := h1 n (by omega)
    rcases Nat.eq_zero_or_pos (f (ns.getD n nd0)) with q | q
    · omega
    · have : fS f ns n ≤ 0 * n := fS_le (fun k hk => by
        rcases h2 k n (by omega) (by omega) (by omega) with w | w <;> omega)
      omega
/-- over a place lies one piece of a range at most, and none where the range doesn't -/
theorem pv_le {T : TS} (hw : WT T) (hnc : NC T.1) {r p : Nat} : fS (pvF r p) (ndT T) (ndT T).length ≤ (if cvr p (el T.1 r) = true then 1 else 0) := by
  obtain ⟨op, dp, c, a1, a2, a3, a4, a5, a6, a7, a8⟩ := ndT_NI hw hnc
  by_cases hc : cvr p (el T.1 r) = true
  · rw [if_pos hc]
    refine fS_one (fun i hi => ?_) (fun i j hi hj hne => ?_)
    · unfold pvF
      split
      · split <;> omega
      · omega
    · unfold pvF
      by_cases w1 : ((ndT T).getD i nd0).1 = r ∧ ((ndT T).getD i nd0).2.1 < ((ndT T).getD i nd0).2.2.1
      · by_cases w2 : ((ndT T).getD j nd0).1 = r ∧ ((ndT T).getD j nd0).2.1 < ((ndT T).getD j nd0).2.2.1
        · rw [if_pos w1, if_pos w2]
          have := a5 i j hi hj hne w1.2 w2.2 (w1.1.trans w2.1.symm)
          have : ((ndT T).getD i nd0).2.2.1 ≤ ((ndT T).getD j nd0).2.1 ∨ ((ndT T).getD j nd0).2.2.1 ≤ ((ndT T).getD i nd0).2.1 := this
          by_cases u1 : ((ndT T).getD i nd0).2.1 ≤ p ∧ p < ((ndT T).getD i nd0).2.2.1
          · rw [if_neg (show ¬ (((ndT T).getD j nd0).2.1 ≤ p ∧ p < ((ndT T).getD j nd0).2.2.1) by omega)]
            exact Or.inr rfl
          · rw [if_neg u1]
            exact Or.inl rfl
        · rw [if_neg w2]
          exact Or.inr rfl
      · rw [if_neg w1]
        exact Or.inl rfl
  · rw [if_neg hc]
    have : fS (pvF r p) (ndT T) (ndT T).length ≤ 0 * (ndT T).length := fS_le (fun k hk => by
      unfold pvF
      by_cases w1 : ((ndT T).getD k nd0).1 = r ∧ ((ndT T).getD k nd0).2.1 < ((ndT T).getD k nd0).2.2.1
      · rw [if_pos w1]
        obtain ⟨⟨p1, p2, p3, p4⟩, _⟩ := a4 k hk w1.2
        have p2 : ra T.1 ((ndT T).getD k nd0).1 ≤ ((ndT T).getD k nd0).2.1 := p2
        have p3 : ((ndT T).getD k nd0).2.2.1 ≤ rb T.1 ((ndT T).getD k nd0).1 := p3
        rw [w1.1] at p2 p3
        rw [if_neg]
        · exact Nat.le_refl _
        · intro u
          exact hc (cvr_t.mpr ⟨by show ra T.1 r ≤ p; omega, by show p < rb T.1 r; omega⟩)
      · rw [if_neg w1]
        exact Nat.le_refl _)
    omega
theorem pv_pc (r p : Nat) (ns : List Nd) : ∀ n, fS (pvF r p) ns n ≤ fS (pcF r) ns n
  | 0 => Nat.le_refl _
  | n + 1 => by
    have := pv_pc r p ns n
    rw [fS_s, fS_s]
    have : pvF r p (ns.getD n nd0) ≤ pcF r (ns.getD n nd0) := by
      unfold pvF pcF
      split
      · split <;> omega
      · omega
    omega
theorem spB_s (ns : List Nd) (rs : List RG) (k r : Nat) : spB ns rs k (r + 1) = if kd rs r = k then (brk ns r (spB ns rs k r) ns.length).1 else spB ns rs k r := rfl
/-- of the ranges behind the first r broken up: how many, which are as they were, what they cover -/
theorem spB_at {T : TS} (hw : WT T) (hnc : NC T.1) (k : Nat) : ∀ r, r ≤ T.1.length → (spB (ndT T) T.1 k r).length = T.1.length + spU T k r ∧ (∀ i, r ≤ i → i < T.1.length → el (spB (ndT T) T.1 k r) i = el T.1 i) ∧ ∀ p, ((spB (ndT T) T.1 k r).filter (cvr p)).length ≤ (T.1.filter (cvr p)).length
  | 0, _ => ⟨rfl, fun _ _ _ => rfl, fun _ => Nat.le_refl _⟩
  | r + 1, h => by
    obtain ⟨i1, i2, i3⟩ := spB_at hw hnc k r (by omega)
    have eU : spU T k (r + 1) = spU T k r + (if kd T.1 r = k then fS (pcF r) (ndT T) (ndT T).length - 1 else 0) := rfl
    rw [spB_s, eU]
    by_cases hk : kd T.1 r = k
    · rw [if_pos hk, if_pos hk]
      have hr : r < (spB (ndT T) T.1 k r).length := by omega
      obtain ⟨b1, b2, b3, b4⟩ := brk_fl (ndT T) r (spB (ndT T) T.1 k r) hr (ndT T).length
      refine ⟨by omega, fun i h1 h2 => ?_, fun p => ?_⟩
      · rw [b4 i (by omega) (by omega)]
        exact i2 i (by omega) h2
      · have hcn := brk_cnt (ndT T) r p (spB (ndT T) T.1 k r) hr (ndT T).length
        have h3 := i3 p
        have h4 := pv_le hw hnc (r := r) (p := p)
        have h5 := pv_pc r p (ndT T) (ndT T).length
        rw [i2 r (Nat.le_refl _) (by omega)] at hcn
        by_cases hb : (brk (ndT T) r (spB (ndT T) T.1 k r) (ndT T).length).2 = true
        · rw [if_pos hb] at hcn
          have := (b2 hb).1
          omega
        · rw [if_neg hb] at hcn
          omega
    · rw [if_neg hk, if_neg hk]
      exact ⟨by omega, fun i h1 h2 => i2 i (by omega) h2, i3⟩
theorem mx_nI {a : Nat} (ha : a < 2147483648) : (if nI 0 < nI a - nI 1 then nI a - nI 1 else nI 0) = nI (a - 1) := by
  rcases Nat.eq_zero_or_pos a with q | q
  · subst q
    decide
  · rw [nx_sub (by omega)]
    by_cases h : 0 < a - 1
    · rw [if_pos (by rw [nx_lt (by omega) (by omega)]; exact h)]
    · rw [if_neg (by rw [nx_lt (by omega) (by omega)]; exact h), show a - 1 = 0 by omega]
theorem spU_le {T : TS} (hB : ndB T.2.1 (ndT T)) (k : Nat) : ∀ r, spU T k r ≤ 100 * r
  | 0 => Nat.le_refl _
  | r + 1 => by
    have ih := spU_le hB k r
    have eU : spU T k (r + 1) = spU T k r + (if kd T.1 r = k then fS (pcF r) (ndT T) (ndT T).length - 1 else 0) := rfl
    have h1 : fS (pcF r) (ndT T) (ndT T).length ≤ 1 * (ndT T).length := fS_le (fun k _ => by
      unfold pcF
      split <;> omega)
    have := hB.1
    rw [eU]
    split <;> omega
theorem splits_ok {lay : List Nat} (hwf : wfB lay = true) (d : Nat) {μ : Mem} {x : Nat} {S : XS} (h : XAt μ x S) (v : Int32) : Rn lay (d + 10) mX_splits [rf 15 x, vi v] μ (if 0 ≤ v.toInt ∧ v.toInt < 4 then (if S.1.1.length + spU S.1 (tN v) S.1.1.length ≤ 8 then PX x (nI (spU S.1 (tN v) S.1.1.length)) (xSet S (spB (ndT S.1) S.1.1 (tN v) S.1.1.length, S.1.2)) else PX x (mI 3) (xFull S)) else PX x (mI 1) (xBad S)) := by
  refine Rn_intro ok_X_splits hwf rfl (fun G hC => g_X_splits_0 hC ?_)
  have hw := h.2.2.2.2.2.1.1
  have hnc := h.2.2.2.2.2.1.2.1
  have hn := hw.1.1
  have hL := hw.2.1
  have hB := ndT_B hw hnc
  refine useV (isKind_ok hwf _ v μ) ?_
  rw [bI_eq0]
  refine ⟨fun q => ?_, fun q => ?_⟩
  · have q := Classical.not_not.mp q
    rw [if_pos q] at hC
    obtain ⟨k, k1, k2, k3⟩ := nat_of q.1
    have ek : tN v = k := by unfold tN; rw [k3]; rfl
    rw [ek] at hC
    rw [k3] at q
    rw [k2]
    refine useNest hwf d h (fun μ1 h1 hN => ?_)
    have hu := spU_le hB k
    have l2 : ∀ n r (μ' : Mem), r + n = S.1.1.length → XAt μ' x S → NdAt μ' (x + 115) (ndT S.1) → TeAt μ' (x + 6) (spB (ndT S.1) S.1.1 k r, S.1.2) → WR S.1.2.1 (spB (ndT S.1) S.1.1 k r) → S.1.1.length + spU S.1 k S.1.1.length ≤ 8 → G 105 [rf 15 x, vi (nI k), vi (nI (spU S.1 k S.1.1.length)), vi (nI r)] [] μ' := by
      intro n
      induction n with
      | zero =>
        intro r μ' hr hx hND hT hW h8
        refine g_X_splits_105 hC ?_
        rw [hx.1.1, nx_le (by omega) (by omega)]
        refine ⟨fun _ => ?_, fun z => absurd (by omega) z⟩
        refine g_X_splits_153 hC ?_
        have er : r = S.1.1.length := by omega
        subst er
        have hcn := (spB_at hw hnc k S.1.1.length (Nat.le_refl _))
        rw [if_pos h8]
        refine useSettle hwf (d + 7) hx hT ⟨hW, hw.2⟩ (fun p => ?_) (fun μ3 q3 => ⟨_, rfl, rfl, q3⟩)
        rw [pop_cvr (by rw [hcn.1]; exact h8)]
        have h2 := hnc p
        rw [pop_cvr hn] at h2
        exact Nat.le_trans (hcn.2.2 p) h2
      | succ n ih =>
        intro r μ' hr hx hND hT hW h8
        refine g_X_splits_105 hC ?_
        have hrl : r < S.1.1.length := by omega
        have hkr := (hw.1.at hrl).1
        rw [hx.1.1, nx_le (by omega) (by omega), nx_le (by omega) (by omega), nx_in' (by omega) (by omega), nx_cl (by omega), (hx.1.2.2.1 r hrl).1, nx_eq (by omega) (by omega), nI_add]
        refine ⟨fun z => absurd z (by omega), fun _ => ⟨fun z => absurd z (by omega), fun _ => ⟨by omega, fun z => ?_, fun z => ?_⟩⟩⟩
        · have e : spB (ndT S.1) S.1.1 k (r + 1) = spB (ndT S.1) S.1.1 k r := by rw [spB_s, if_neg z]
          exact ih (r + 1) μ' (by omega) hx hND (by rw [e]; exact hT) (by rw [e]; exact hW) h8
        · have e : spB (ndT S.1) S.1.1 k (r + 1) = (brk (ndT S.1) r (spB (ndT S.1) S.1.1 k r) (ndT S.1).length).1 := by rw [spB_s, if_pos z]
          obtain ⟨b1, _⟩ := spB_at hw hnc k (r + 1) (by omega)
          obtain ⟨c1, _⟩ := spB_at hw hnc k r (by omega)
          have hm := spU_mono S.1 k (r + 1) S.1.1.length (by omega)
          rw [e] at b1
          refine useN (breakUp_ok hwf (d + 7) (U := (spB (ndT S.1) S.1.1 k r, S.1.2)) hND hB hT ⟨hW, hw.2⟩ (by show r < (spB (ndT S.1) S.1.1 k r).length; omega) (by omega) (by show (brk (ndT S.1) r (spB (ndT S.1) S.1.1 k r) (ndT S.1).length).1.length ≤ 8; omega)) (fun μ2 hp => ?_)
          obtain ⟨p1, p2, p3⟩ := hp
          refine ih (r + 1) μ2 (by omega) (hx.trial p3) ?_ (by rw [e]; exact p1) (by rw [e]; exact p2) h8
          have hfr : ∀ b, x + 115 ≤ b → μ2.1 b = μ'.1 b := fun b hb => p3.1 b (by simp; omega)
          refine ⟨by rw [hfr _ (by omega)]; exact hND.1, fun j hj => ?_⟩
          rw [hfr (x + 115 + 6) (by omega), hfr (x + 115 + 7) (by omega), hfr (x + 115 + 8) (by omega), hfr (x + 115 + 9) (by omega), hfr (x + 115 + 10) (by omega)]
          exact hND.2 j hj
    have l1 : ∀ n r (μ' : Mem), r + n = S.1.1.length → XAt μ' x S → NdAt μ' (x + 115) (ndT S.1) → G 20 [rf 15 x, vi (nI k), vi (nI (spU S.1 k r)), vi (nI r)] [] μ' := by
      intro n
      induction n with
      | zero =>
        intro r μ' hr hx hND
        refine g_X_splits_20 hC ?_
        rw [hx.1.1, nx_le (by omega) (by omega)]
        refine ⟨fun _ => ?_, fun z => absurd (by omega) z⟩
        refine g_X_splits_73 hC ?_
        have er : r = S.1.1.length := by omega
        subst er
        have hu2 := hu S.1.1.length
        rw [hx.1.1, nI_add, nx_le (by omega) (by omega)]
        refine ⟨fun z => ?_, fun z => ?_⟩
        · refine useN (copy_ok hwf _ (t := x + 6) hx.1 hw (by omega)) (fun μ2 hp => ?_)
          obtain ⟨p1, p2⟩ := hp
          refine l2 S.1.1.length 0 μ2 (by omega) (hx.trial p2) ?_ p1 hw.1 z
          have hfr : ∀ b, x + 115 ≤ b → μ2.1 b = μ'.1 b := fun b hb => p2.1 b (by simp; omega)
          refine ⟨by rw [hfr _ (by omega)]; exact hND.1, fun j hj => ?_⟩
          rw [hfr (x + 115 + 6) (by omega), hfr (x + 115 + 7) (by omega), hfr (x + 115 + 8) (by omega), hfr (x + 115 + 9) (by omega), hfr (x + 115 + 10) (by omega)]
          exact hND.2 j hj
        · rw [if_neg z]
          exact useFull hwf _ hx
      | succ n ih =>
        intro r μ' hr hx hND
        refine g_X_splits_20 hC ?_
        have hrl : r < S.1.1.length := by omega
        have hkr := (hw.1.at hrl).1
        have hur := hu r
        rw [hx.1.1, nx_le (by omega) (by omega), nx_le (by omega) (by omega), nx_in' (by omega) (by omega), nx_cl (by omega), (hx.1.2.2.1 r hrl).1, nx_eq (by omega) (by omega), nI_add]
        have eU : spU S.1 k (r + 1) = spU S.1 k r + (if kd S.1.1 r = k then fS (pcF r) (ndT S.1) (ndT S.1).length - 1 else 0) := rfl
        refine ⟨fun z => absurd z (by omega), fun _ => ⟨fun z => absurd z (by omega), fun _ => ⟨by omega, fun z => ?_, fun z => ?_⟩⟩⟩
        · have := ih (r + 1) μ' (by omega) hx hND
          rw [eU, if_neg z] at this
          exact this
        · have h1 : fS (pcF r) (ndT S.1) (ndT S.1).length ≤ 1 * (ndT S.1).length := fS_le (fun k _ => by
            unfold pcF
            split <;> omega)
          have h83 := hB.1
          refine useV (piecesOf_ok hwf _ hND hB hL (by omega)) ?_
          rw [mx_nI (by omega), nI_add]
          have := ih (r + 1) μ' (by omega) hx hND
          rw [eU, if_pos z] at this
          exact this
    exact l1 S.1.1.length 0 μ1 (by omega) h1 hN.2.2.1
  · rw [if_neg q]
    exact useBad hwf _ h
end
section
/-! the reference: its state, its small methods -/
/-- nothing but the cells of S and, of the object's own cell m, the places F, has changed -/
def FM (m : Nat) (S F : List Nat) (μ μ1 : Mem) : Prop := (∀ b, b ≠ m → b ∉ S → μ1.1 b = μ.1 b) ∧ (∀ j, j ∉ F → μ1.1 m j = μ.1 m j) ∧ ∀ b, b ∉ S → μ1.2 b = μ.2 b
theorem FM.rf (m : Nat) (S F : List Nat) (μ : Mem) : FM m S F μ μ := ⟨fun _ _ _ => rfl, fun _ _ => rfl, fun _ _ => rfl⟩
theorem FM.tr {m : Nat} {S F : List Nat} {μ μ1 μ2 : Mem} (h : FM m S F μ μ1) (h2 : FM m S F μ1 μ2) : FM m S F μ μ2 := ⟨fun b h3 h4 => (h2.1 b h3 h4).trans (h.1 b h3 h4), fun j hj => (h2.2.1 j hj).trans (h.2.1 j hj), fun b hb => (h2.2.2 b hb).trans (h.2.2 b hb)⟩
theorem FM.up {m : Nat} {S F : List Nat} {μ μ1 : Mem} {a k : Nat} {v : Int32} (h : FM m S F μ μ1) (ha : a ∈ S) (hm : a ≠ m) : FM m S F μ (upI μ1 a k v) := ⟨fun b h1 h2 => by
  rw [up_cell (show b ≠ a from fun e => h2 (by rw [e]; exact ha))]
  exact h.1 b h1 h2, fun j hj => by rw [up_n1 (Ne.symm hm)]; exact h.2.1 j hj, h.2.2⟩
theorem FM.upf {m : Nat} {S F : List Nat} {μ μ1 : Mem} {k : Nat} {v : Int32} (h : FM m S F μ μ1) (hk : k ∈ F) : FM m S F μ (upI μ1 m k v) := ⟨fun b h1 h2 => by
  rw [up_cell h1]
  exact h.1 b h1 h2, fun j hj => by rw [up_n2 (show j ≠ k from fun e => hj (by rw [e]; exact hk))]; exact h.2.1 j hj, h.2.2⟩
theorem FM.upl {m : Nat} {S F : List Nat} {μ μ1 : Mem} {a k : Nat} {v : Int64} (h : FM m S F μ μ1) (ha : a ∈ S) : FM m S F μ (upL μ1 a k v) := ⟨h.1, h.2.1, fun b hb => by
  rw [upL_ne (show b ≠ a from fun e => hb (by rw [e]; exact ha))]
  exact h.2.2 b hb⟩
theorem FM.mono {m : Nat} {S S' F F' : List Nat} {μ μ1 : Mem} (h : FM m S F μ μ1) (hs : ∀ b ∈ S, b ∈ S') (hf : ∀ j ∈ F, j ∈ F') : FM m S' F' μ μ1 := ⟨fun b h1 h2 => h.1 b h1 (fun q => h2 (hs b q)), fun j hj => h.2.1 j (fun q => hj (hf j q)), fun b hb => h.2.2 b (fun q => hb (hs b q))⟩
def MTe (μ : Mem) (m : Nat) (T : TS) : Prop := μ.1 m 2 = nI T.1.length ∧ μ.1 m 1 = nI T.2.1 ∧ RAt μ (m + 2) (m + 3) (m + 4) T.1 ∧ ∀ k, k < 4 → μ.1 (m + 5) k = nI (T.2.2.getD k 0)
theorem MTe.fr {μ μ1 : Mem} {m : Nat} {T : TS} {S F : List Nat} (h : MTe μ m T) (hf : FM m S F μ μ1) (h1 : ∀ b ∈ [m + 2, m + 3, m + 4, m + 5], b ∉ S) (h2 : 1 ∉ F ∧ 2 ∉ F) : MTe μ1 m T := by
  obtain ⟨a, b, c, e⟩ := h
  refine ⟨by rw [hf.2.1 2 h2.2]; exact a, by rw [hf.2.1 1 h2.1]; exact b, fun i hi => ?_, fun k hk => by rw [hf.1 (m + 5) (by omega) (h1 _ (by simp))]; exact e k hk⟩
  rw [hf.1 (m + 2) (by omega) (h1 _ (by simp)), hf.1 (m + 3) (by omega) (h1 _ (by simp)), hf.1 (m + 4) (by omega) (h1 _ (by simp))]
  exact c i hi
/-- a text kept in the row 'ahead', at slot u -/
def SlAt (μ : Mem) (m u : Nat) (T : TS) : Prop := μ.1 (m + 6) (30 * u) = nI T.2.1 ∧ μ.1 (m + 6) (30 * u + 1) = nI T.1.length ∧ (∀ k, k < 4 → μ.1 (m + 6) (30 * u + 2 + k) = nI (T.2.2.getD k 0)) ∧ ∀ i, i < T.1.length → μ.1 (m + 6) (30 * u + 6 + i) = nI (kd T.1 i) ∧ μ.1 (m + 6) (30 * u + 14 + i) = nI (ra T.1 i) ∧ μ.1 (m + 6) (30 * u + 22 + i) = nI (rb T.1 i)
def MHi (μ : Mem) (m : Nat) (hist : List TS) : Prop := μ.1 m 8 = nI hist.length ∧ hist.length ≤ 12 ∧ ∀ j T, hist[j]? = some T → SlAt μ m (hist.length - 1 - j) T ∧ WT T
theorem SlAt.eq {μ μ1 : Mem} {m u : Nat} {T : TS} (h : SlAt μ m u T) (e : ∀ j, 30 * u ≤ j → j < 30 * u + 30 → μ1.1 (m + 6) j = μ.1 (m + 6) j) (hl : T.1.length ≤ 8) : SlAt μ1 m u T := by
  obtain ⟨a, b, c, f⟩ := h
  refine ⟨by rw [e _ (by omega) (by omega)]; exact a, by rw [e _ (by omega) (by omega)]; exact b, fun k hk => by rw [e _ (by omega) (by omega)]; exact c k hk, fun i hi => ?_⟩
  rw [e _ (by omega) (by omega), e _ (by omega) (by omega), e _ (by omega) (by omega)]
  exact f i hi
theorem MHi.fr {μ μ1 : Mem} {m : Nat} {hist : List TS} {S F : List Nat} (h : MHi μ m hist) (hf : FM m S F μ μ1) (h1 : m + 6 ∉ S) (h2 : 8 ∉ F) : MHi μ1 m hist := by
  obtain ⟨a, b, c⟩ := h
  refine ⟨by rw [hf.2.1 8 h2]; exact a, b, fun j T hj => ?_⟩
  obtain ⟨c1, c2⟩ := c j T hj
  exact ⟨c1.eq (fun i _ _ => by rw [hf.1 (m + 6) (by omega) h1]) c2.1.1, c2⟩
def MAt (μ : Mem) (m : Nat) (S : XS) : Prop := MTe μ m S.1 ∧ MHi μ m S.2.1 ∧ μ.1 (m + 1) 0 = S.2.2.1 ∧ μ.1 (m + 1) 1 = S.2.2.2.1 ∧ μ.1 (m + 1) 2 = S.2.2.2.2 ∧ okX S
/-- cells and places that have no part in the state -/
abbrev mwS (m : Nat) : List Nat := [m + 7, m + 8, m + 9, m + 10, m + 11, m + 12, m + 13, m + 14, m + 15, m + 16, m + 17, m + 18, m + 19, m + 20]
abbrev mwF : List Nat := [9, 18]
theorem MAt.fr {μ μ1 : Mem} {m : Nat} {S : XS} (h : MAt μ m S) (hf : FM m (mwS m) mwF μ μ1) : MAt μ1 m S := by
  obtain ⟨a, b, c, e, f, g⟩ := h
  have e1 := hf.1 (m + 1) (by omega) (by simp)
  exact ⟨a.fr hf (by simp) (by simp), b.fr hf (by simp) (by simp), by rw [e1]; exact c, by rw [e1]; exact e, by rw [e1]; exact f, g⟩
abbrev PM (m : Nat) (c : Int32) (S : XS) : PT := Pq fun v μ1 => v = c ∧ MAt μ1 m S
theorem MAt.cnt {μ : Mem} {m k : Nat} {v : Int32} {S : XS} (h : MAt μ m S) : MTe (upI μ (m + 1) k v) m S.1 ∧ MHi (upI μ (m + 1) k v) m S.2.1 := by
  have hf : FM m [m + 1] [] μ (upI μ (m + 1) k v) := (FM.rf _ _ _ _).up (by simp) (by omega)
  exact ⟨h.1.fr hf (by simp) (by simp), h.2.1.fr hf (by simp) (by simp)⟩
theorem c012 : (nI 0).toNatClampNeg = 0 ∧ (nI 1).toNatClampNeg = 1 ∧ (nI 2).toNatClampNeg = 2 ∧ (nI 3).toNatClampNeg = 3 := by decide
theorem vin {a n : Nat} (h : a < n) (hn : n < 2147483648) : vp_in (nI a) n := by rw [nx_in' (by omega) hn]; exact h
theorem useMBad {lay : List Nat} (hwf : wfB lay = true) (d : Nat) {μ : Mem} {m : Nat} {S : XS} (h : MAt μ m S) : ∃ P : PT, Rn lay d mM_bad [rf 16 m] μ P ∧ ∀ (v : Int32) (μ1 : Mem), P (some (vi v)) μ1 → PM m (mI 1) (xBad S) (some (vi v)) μ1 := by
  refine ⟨PM m (mI 1) (xBad S), Rn_intro ok_M_bad hwf rfl (fun G hC => g_M_bad_0 hC ?_), fun v μ1 hp => hp⟩
  obtain ⟨a, b⟩ := h.cnt (k := 0) (v := μ.1 (m + 1) 0 + nI 1)
  obtain ⟨_, _, c, e, f, g⟩ := h
  rw [c012.1]
  exact ⟨vin (by omega) (by omega), vin (by omega) (by omega), _, rfl, rfl, a, b, by rw [up_at, c]; rfl, by rw [up_n2 (by omega)]; exact e, by rw [up_n2 (by omega)]; exact f, g⟩
theorem useMNo {lay : List Nat} (hwf : wfB lay = true) (d : Nat) {μ : Mem} {m : Nat} {S : XS} (h : MAt μ m S) : ∃ P : PT, Rn lay d mM_no [rf 16 m] μ P ∧ ∀ (v : Int32) (μ1 : Mem), P (some (vi v)) μ1 → PM m (mI 2) (xNo S) (some (vi v)) μ1 := by
  refine ⟨PM m (mI 2) (xNo S), Rn_intro ok_M_no hwf rfl (fun G hC => g_M_no_0 hC ?_), fun v μ1 hp => hp⟩
  obtain ⟨a, b⟩ := h.cnt (k := 1) (v := μ.1 (m + 1) 1 + nI 1)
  obtain ⟨_, _, c, e, f, g⟩ := h
  rw [c012.2.1]
  exact ⟨vin (by omega) (by omega), vin (by omega) (by omega), _, rfl, rfl, a, b, by rw [up_n2 (by omega)]; exact c, by rw [up_at, e]; rfl, by rw [up_n2 (by omega)]; exact f, g⟩
theorem useMFull {lay : List Nat} (hwf : wfB lay = true) (d : Nat) {μ : Mem} {m : Nat} {S : XS} (h : MAt μ m S) : ∃ P : PT, Rn lay d mM_full [rf 16 m] μ P ∧ ∀ (v : Int32) (μ1 : Mem), P (some (vi v)) μ1 → PM m (mI 3) (xFull S) (some (vi v)) μ1 := by
  refine ⟨PM m (mI 3) (xFull S), Rn_intro ok_M_full hwf rfl (fun G hC => g_M_full_0 hC ?_), fun v μ1 hp => hp⟩
  obtain ⟨a, b⟩ := h.cnt (k := 2) (v := μ.1 (m + 1) 2 + nI 1)
  obtain ⟨_, _, c, e, f, g⟩ := h
  rw [c012.2.2.1]
  exact ⟨vin (by omega) (by omega), vin (by omega) (by omega), _, rfl, rfl, a, b, by rw [up_n2 (by omega)]; exact c, by rw [up_n2 (by omega)]; exact e, by rw [up_at, f]; rfl, g⟩
theorem min_ok {lay : List Nat} (hwf : wfB lay = true) (d : Nat) (v a b : Int32) (μ : Mem) : Rn lay d mM_in [vi v, vi a, vi b] μ (Pv (bI (a.toInt ≤ v.toInt ∧ v.toInt ≤ b.toInt)) μ) := by
  refine Rn_intro ok_M_in hwf rfl (fun G hC => g_M_in_0 hC ?_)
  rw [i_lt, i_lt]
  exact ⟨fun _ => pv_f (by omega), fun _ => ⟨fun _ => pv_f (by omega), fun _ => pv_t (by omega)⟩⟩
theorem pre_ti {n : Nat} (h : n < 2147483648) : (nI n - nI 1).toInt = (n : Int) - 1 := by
  rcases Nat.eq_zero_or_pos n with q | q
  · subst q
    decide
  · rw [nx_sub (by omega), nI_ti (by omega)]
    omega
theorem ti_lit : (nI 0).toInt = 0 ∧ (nI 1).toInt = 1 ∧ (nI 2).toInt = 2 ∧ (nI 3).toInt = 3 ∧ (nI 4).toInt = 4 ∧ (nI 7).toInt = 7 ∧ (nI 8).toInt = 8 ∧ (nI 90).toInt = 90 ∧ (nI 999999).toInt = 999999 := by decide
theorem mIsRange_ok {lay : List Nat} (hwf : wfB lay = true) (d : Nat) {μ : Mem} {m : Nat} {T : TS} (hT : MTe μ m T) (hn : T.1.length ≤ 8) (v : Int32) : Rn lay (d + 1) mM_isRange [rf 16 m, vi v] μ (Pv (bI (0 ≤ v.toInt ∧ v.toInt < T.1.length)) μ) := by
  refine Rn_intro ok_M_isRange hwf rfl (fun G hC => g_M_isRange_0 hC ?_)
  rw [hT.1]
  refine useV (min_ok hwf d _ _ _ μ) ⟨bI_01 _, pv_e ?_⟩
  rw [pre_ti (by omega), ti_lit.1]
  exact bIc (by omega)
theorem mIsKind_ok {lay : List Nat} (hwf : wfB lay = true) (d : Nat) (v : Int32) (μ : Mem) : Rn lay (d + 1) mM_isKind [vi v] μ (Pv (bI (0 ≤ v.toInt ∧ v.toInt < 4)) μ) := by
  refine Rn_intro ok_M_isKind hwf rfl (fun G hC => g_M_isKind_0 hC ?_)
  refine useV (min_ok hwf d _ _ _ μ) ⟨bI_01 _, pv_e ?_⟩
  rw [ti_lit.1, ti_lit.2.2.2.1]
  exact bIc (by omega)
theorem mIsFromTo_ok {lay : List Nat} (hwf : wfB lay = true) (d : Nat) {μ : Mem} {m L : Nat} (hL : μ.1 m 1 = nI L) (hL2 : L ≤ 90) (a b : Int32) : Rn lay (d + 1) mM_isFromTo [rf 16 m, vi a, vi b] μ (Pv (bI (0 ≤ a.toInt ∧ a.toInt ≤ b.toInt ∧ b.toInt ≤ L)) μ) := by
  refine Rn_intro ok_M_isFromTo hwf rfl (fun G hC => g_M_isFromTo_0 hC ?_)
  refine useV (min_ok hwf d _ _ _ μ) ?_
  rw [bI_eq0, hL, ti_lit.1, i_lt, nI_ti (by omega)]
  exact ⟨fun q => pv_f (by omega), fun q => ⟨fun q2 => pv_f (by omega), fun q2 => pv_t (by have := Classical.not_not.mp q; omega)⟩⟩
theorem mIsEmpty_ok {lay : List Nat} (hwf : wfB lay = true) (d : Nat) {μ : Mem} {m j a b : Nat} (hj : j < 9) (ha : μ.1 (m + 3) j = nI a) (hb : μ.1 (m + 4) j = nI b) (ha2 : a < 2147483648) (hb2 : b < 2147483648) : Rn lay d mM_isEmpty [rf 16 m, vi (nI j)] μ (Pv (bI (a = b)) μ) := by
  refine Rn_intro ok_M_isEmpty hwf rfl (fun G hC => g_M_isEmpty_0 hC ?_)
  rw [nx_in' (by omega) (by omega), nx_cl (by omega), ha, hb, nx_eq ha2 hb2]
  exact ⟨hj, hj, fun q => pv_f q, fun q => pv_t q⟩
theorem mIsEmpty_T {lay : List Nat} (hwf : wfB lay = true) (d : Nat) {μ : Mem} {m j : Nat} {T : TS} (hT : MTe μ m T) (hw : WT T) (hj : j < T.1.length) : Rn lay d mM_isEmpty [rf 16 m, vi (nI j)] μ (Pv (bI (ra T.1 j = rb T.1 j)) μ) := by
  obtain ⟨e1, e2, e3⟩ := hT.2.2.1 j hj
  obtain ⟨b1, b2, b3⟩ := hw.1.at hj
  have := hw.1.1
  have := hw.2.1
  exact mIsEmpty_ok hwf d (by omega) e2 e3 (by omega) (by omega)
/-! bits -/
theorem bit1 : ∀ k, k < 8 → ∀ c, c < 256 → ((nI c) >>> (nI k &&& 31)) &&& nI 1 = nI (if c.testBit k = true then 1 else 0) := by decide +kernel
def popU (c : Nat) : Nat → Nat
  | 0 => 0
  | i + 1 => popU c i + (if c.testBit i = true then 1 else 0)
theorem popU_f (c : Nat) : ∀ i, popU c i = ((List.range i).filter (fun j => c.testBit j)).length
  | 0 => rfl
  | i + 1 => by
    rw [List.range_succ, List.filter_append, List.length_append, ← popU_f c i]
    show popU c i + _ = _
    rw [List.filter_cons]
    by_cases h : c.testBit i = true
    · rw [if_pos h, if_pos h]
      rfl
    · rw [if_neg h, if_neg h]
      rfl
theorem popU_le (c : Nat) : ∀ i, popU c i ≤ i
  | 0 => Nat.le_refl _
  | i + 1 => by
    have := popU_le c i
    show popU c i + _ ≤ _
    split <;> omega
theorem mBits_ok {lay : List Nat} (hwf : wfB lay = true) (d : Nat) {c : Nat} (hc : c < 256) (μ : Mem) : Rn lay d mM_bits [vi (nI c)] μ (Pv (nI (popN c)) μ) := by
  refine Rn_intro ok_M_bits hwf rfl (fun G hC => g_M_bits_0 hC ?_)
  have loop : ∀ k i, i + k = 8 → G 4 [vi (nI c), vi (nI (popU c i)), vi (nI i)] [] μ := by
    intro k
    induction k with
    | zero =>
      intro i hi
      refine g_M_bits_4 hC ?_
      have : i = 8 := by omega
      subst this
      rw [nx_le (by omega) (by omega)]
      exact ⟨fun _ => pv_e (by rw [popU_f]; rfl), fun z => absurd (by omega) z⟩
    | succ k ih =>
      intro i hi
      refine g_M_bits_4 hC ?_
      rw [nx_le (by omega) (by omega), bit1 i (by omega) c hc, nI_add, nI_add]
      exact ⟨fun z => absurd z (by omega), fun _ => ih (i + 1) (by omega)⟩
  exact loop 8 0 rfl
theorem mHas_ok {lay : List Nat} (hwf : wfB lay = true) (d : Nat) {c k : Nat} (hc : c < 256) (hk : k < 8) (μ : Mem) : Rn lay d mM_has [vi (nI c), vi (nI k)] μ (Pv (bI (c.testBit k = true)) μ) := by
  refine Rn_intro ok_M_has hwf rfl (fun G hC => g_M_has_0 hC ?_)
  rw [bit1 k hk c hc]
  refine ⟨fun q => pv_f (fun z => q (by rw [if_pos z])), fun q => pv_t ?_⟩
  rw [nx_eq (by split <;> omega) (by omega)] at q
  by_cases h : c.testBit k = true
  · exact h
  · rw [if_neg h] at q
    omega
/-! how many ranges cover a place -/
def cmU (rs : List RG) (p : Nat) : Nat → Nat
  | 0 => 0
  | i + 1 => cmU rs p i + (if ra rs i ≤ p ∧ p < rb rs i then 1 else 0)
theorem cmU_f (rs : List RG) (p : Nat) : ∀ i, i ≤ rs.length → cmU rs p i = ((rs.take i).filter (cvr p)).length
  | 0, _ => by simp [cmU]
  | i + 1, h => by
    have e : rs.take (i + 1) = rs.take i ++ [el rs i] := by
      rw [List.take_add_one, el_in (by omega)]
      rfl
    rw [e, List.filter_append, List.length_append, ← cmU_f rs p i (by omega), List.filter_cons]
    show cmU rs p i + _ = _
    by_cases hc : ra rs i ≤ p ∧ p < rb rs i
    · rw [if_pos hc, if_pos (show cvr p (el rs i) = true from cvr_t.mpr hc)]
      rfl
    · rw [if_neg hc, if_neg (show ¬ cvr p (el rs i) = true from fun q => hc (cvr_t.mp q))]
      rfl
theorem cmU_le (rs : List RG) (p : Nat) : ∀ i, cmU rs p i ≤ i
  | 0 => Nat.le_refl _
  | i + 1 => by
    have := cmU_le rs p i
    show cmU rs p i + _ ≤ _
    split <;> omega
theorem mCover_ok {lay : List Nat} (hwf : wfB lay = true) (d : Nat) {μ : Mem} {m : Nat} {T : TS} (hT : MTe μ m T) (hw : WT T) {p : Nat} (hp : p < 2147483648) : Rn lay d mM_coverMany [rf 16 m, vi (nI p)] μ (Pv (nI (popN (cov T.1 p))) μ) := by
  have hn := hw.1.1
  have hL := hw.2.1
  refine Rn_intro ok_M_coverMany hwf rfl (fun G hC => g_M_coverMany_0 hC ?_)
  have loop : ∀ k i, i + k = T.1.length → G 4 [rf 16 m, vi (nI p), vi (nI (cmU T.1 p i)), vi (nI i)] [] μ := by
    intro k
    induction k with
    | zero =>
      intro i hi
      refine g_M_coverMany_4 hC ?_
      rw [hT.1, nx_le (by omega) (by omega)]
      have : i = T.1.length := by omega
      subst this
      refine ⟨fun _ => pv_e ?_, fun z => absurd (by omega) z⟩
      rw [cmU_f T.1 p _ (Nat.le_refl _), List.take_length, pop_cvr hn]
    | succ k ih =>
      intro i hi
      have hil : i < T.1.length := by omega
      obtain ⟨e1, e2, e3⟩ := hT.2.2.1 i hil
      obtain ⟨b1, b2, b3⟩ := hw.1.at hil
      have ih := ih (i + 1) (by omega)
      have eu : cmU T.1 p (i + 1) = cmU T.1 p i + (if ra T.1 i ≤ p ∧ p < rb T.1 i then 1 else 0) := rfl
      rw [eu] at ih
      refine g_M_coverMany_4 hC ?_
      simp (disch := omega) only [hT.1, nx_le, nx_lt, nx_cl, nx_in', e2, e3, nI_add]
      refine ⟨fun q => absurd q (by omega), fun _ => ⟨by omega, fun q => ?_, fun q => ⟨by omega, fun q2 => ?_, fun q2 => ?_⟩⟩⟩
      · rw [if_neg (by omega)] at ih
        exact ih
      · rw [if_neg (by omega)] at ih
        exact ih
      · rw [if_pos (by omega)] at ih
        exact ih
  exact loop T.1.length 0 (by omega)
def tmU (rs : List RG) (n : Nat) : Bool := (List.range n).any fun p => decide (5 < popN (cov rs p))
theorem tmU_s (rs : List RG) (n : Nat) : tmU rs (n + 1) = (tmU rs n || decide (5 < popN (cov rs n))) := by
  unfold tmU
  rw [List.range_succ, List.any_append]
  simp
theorem tm_crowd {T : TS} (hw : WT T) : tmU T.1 T.2.1 = crowd T.1 := by
  have hn := hw.1.1
  cases hc : crowd T.1 with
  | true =>
    obtain ⟨r, r1, r2⟩ := crowd_iff.mp hc
    unfold tmU
    rw [List.any_eq_true]
    refine ⟨ra T.1 r, List.mem_range.mpr ?_, decide_eq_true r2⟩
    rcases Nat.lt_or_ge (ra T.1 r) T.2.1 with q | q
    · exact q
    · exfalso
      rw [pop_cvr hn] at r2
      have : T.1.filter (cvr (ra T.1 r)) = [] := by
        rw [List.filter_eq_nil_iff]
        intro x hx hcv
        have := (hw.1.2 x hx).2.2
        have := (cvr_t.mp hcv).2
        omega
      rw [this] at r2
      exact absurd r2 (by simp)
  | false =>
    have h := nc_of hc hn
    unfold tmU
    rw [List.any_eq_false]
    intro p _ hp
    have := h p
    have := of_decide_eq_true hp
    omega
theorem mTooMuch_ok {lay : List Nat} (hwf : wfB lay = true) (d : Nat) {μ : Mem} {m : Nat} {T : TS} (hT : MTe μ m T) (hw : WT T) : Rn lay (d + 1) mM_isTooMuch [rf 16 m] μ (Pv (bI (crowd T.1 = true)) μ) := by
  have hn := hw.1.1
  have hL := hw.2.1
  refine Rn_intro ok_M_isTooMuch hwf rfl (fun G hC => g_M_isTooMuch_0 hC ?_)
  have loop : ∀ k i, i + k = T.2.1 → G 4 [rf 16 m, vi (bI (tmU T.1 i = true)), vi (nI i)] [] μ := by
    intro k
    induction k with
    | zero =>
      intro i hi
      refine g_M_isTooMuch_4 hC ?_
      rw [hT.2.1, nx_le (by omega) (by omega)]
      have : i = T.2.1 := by omega
      subst this
      exact ⟨fun _ => ⟨bI_01 _, pv_e (by rw [tm_crowd hw])⟩, fun z => absurd (by omega) z⟩
    | succ k ih =>
      intro i hi
      have ih := ih (i + 1) (by omega)
      rw [tmU_s] at ih
      refine g_M_isTooMuch_4 hC ?_
      rw [hT.2.1, nx_le (by omega) (by omega), bI_eq0, nI_add]
      refine ⟨fun z => absurd z (by omega), fun _ => ⟨fun z => ?_, fun z => ?_⟩⟩
      · have z := Classical.not_not.mp z
        rw [z, Bool.true_or, bI_t rfl] at ih
        exact ih
      · have z2 : tmU T.1 i = false := by simpa using z
        rw [z2, Bool.false_or] at ih
        refine useV (mCover_ok hwf d hT hw (by omega)) ?_
        have hp8 := popN_le (cov T.1 i)
        rw [nx_le (by omega) (by omega)]
        refine ⟨fun q => ?_, fun q => ?_⟩
        · rw [bI_f (fun w => by have := of_decide_eq_true w; omega)] at ih
          exact ih
        · rw [bI_t (decide_eq_true (by omega))] at ih
          exact ih
  exact loop T.2.1 0 (by omega)
end
section
/-! the reference: its text comes, goes, is noted and brought back -/
theorem mComes_ok {lay : List Nat} (hwf : wfB lay = true) (d : Nat) {μ : Mem} {m : Nat} {T : TS} (hT : MTe μ m T) {k a b : Nat} (hn : T.1.length < 9) : Rn lay d mM_comes [rf 16 m, vi (nI k), vi (nI a), vi (nI b)] μ (Pn fun μ1 => MTe μ1 m (T.1 ++ [(k, a, b)], T.2) ∧ FM m [m + 2, m + 3, m + 4] [2] μ μ1) := by
  refine Rn_intro ok_M_comes hwf rfl (fun G hC => g_M_comes_0 hC ?_)
  simp (disch := omega) only [hT.1, nx_cl, nx_in', up_n1, nI_add]
  refine ⟨by omega, by omega, by omega, rfl, ⟨?_, ?_, fun i hi => ?_, fun j hj => ?_⟩, ((((FM.rf _ _ _ _).up (by simp) (by omega)).up (by simp) (by omega)).up (by simp) (by omega)).upf (by simp)⟩
  · rw [up_at]; simp
  · simp (disch := omega) only [up_n1, up_n2]; exact hT.2.1
  · rw [List.length_append, List.length_singleton] at hi
    rw [← el_1, ← el_2, ← el_3]
    by_cases e : i = T.1.length
    · subst e
      rw [el_last]
      simp (disch := omega) only [up_n1, up_at, and_self]
    · rw [el_app (by omega)]
      simp (disch := omega) only [up_n1, up_n2]
      exact hT.2.2.1 i (by omega)
  · simp (disch := omega) only [up_n1]; exact hT.2.2.2 j hj
theorem mGoes_ok {lay : List Nat} (hwf : wfB lay = true) (d : Nat) {μ : Mem} {m : Nat} {T : TS} (hT : MTe μ m T) (hn : T.1.length ≤ 9) {j : Nat} (hj : j < T.1.length) : Rn lay d mM_goes [rf 16 m, vi (nI j)] μ (Pn fun μ1 => MTe μ1 m (T.1.eraseIdx j, T.2) ∧ FM m [m + 2, m + 3, m + 4] [2] μ μ1) := by
  refine Rn_intro ok_M_goes hwf rfl (fun G hC => g_M_goes_0 hC ?_)
  rw [hT.1, nx_sub (by omega)]
  have loop : ∀ k q (μ' : Mem), q + k = T.1.length - 1 → j ≤ q → (∀ i, i < T.1.length → μ'.1 (m + 2) i = nI (if j ≤ i ∧ i < q then el T.1 (i + 1) else el T.1 i).1 ∧ μ'.1 (m + 3) i = nI (if j ≤ i ∧ i < q then el T.1 (i + 1) else el T.1 i).2.1 ∧ μ'.1 (m + 4) i = nI (if j ≤ i ∧ i < q then el T.1 (i + 1) else el T.1 i).2.2) → μ'.1 m 2 = nI (T.1.length - 1) → FM m [m + 2, m + 3, m + 4] [2] μ μ' → G 12 [rf 16 m, un, vi (nI q)] [] μ' := by
    intro k
    induction k with
    | zero =>
      intro q μ' hq hjq hf hc hfr
      refine g_M_goes_12 hC ?_
      rw [hc, nx_le (by omega) (by omega)]
      refine ⟨fun _ => ⟨rfl, ⟨?_, ?_, fun i hi => ?_, fun k hk => ?_⟩, hfr⟩, fun z => absurd (by omega) z⟩
      · rw [hc]
        show _ = nI (T.1.eraseIdx j).length
        rw [List.length_eraseIdx_of_lt hj]
      · rw [hfr.2.1 1 (by simp)]; exact hT.2.1
      · have hi : i < (T.1.eraseIdx j).length := hi
        rw [List.length_eraseIdx_of_lt hj] at hi
        have := hf i (by omega)
        show _ = nI (el (T.1.eraseIdx j) i).1 ∧ _ = nI (el (T.1.eraseIdx j) i).2.1 ∧ _ = nI (el (T.1.eraseIdx j) i).2.2
        rw [el_erase]
        by_cases e : i < j
        · rw [if_pos e]
          rw [if_neg (by omega)] at this
          exact this
        · rw [if_neg e]
          rw [if_pos (by omega)] at this
          exact this
      · rw [hfr.1 (m + 5) (by omega) (by simp)]; exact hT.2.2.2 k hk
    | succ k ih =>
      intro q μ' hq hjq hf hc hfr
      have hq1 := hf (q + 1) (by omega)
      rw [if_neg (by omega)] at hq1
      obtain ⟨e1, e2, e3⟩ := hq1
      refine g_M_goes_12 hC ?_
      simp (disch := omega) only [hc, nI_add, nx_le, nx_cl, nx_in', up_n1, e1, e2, e3]
      refine ⟨fun z => absurd z (by omega), fun _ => ⟨by omega, by omega, by omega, by omega, by omega, by omega, ih (q + 1) _ (by omega) (by omega) (fun i hi => ?_) (by simp (disch := omega) only [up_n1]; exact hc) (((hfr.up (by simp) (by omega)).up (by simp) (by omega)).up (by simp) (by omega))⟩⟩
      by_cases e : i = q
      · subst e
        simp (disch := omega) only [up_n1, up_at]
        rw [if_pos (by omega)]
        exact ⟨rfl, rfl, rfl⟩
      · simp (disch := omega) only [up_n1, up_n2]
        have := hf i hi
        by_cases w : j ≤ i ∧ i < q
        · rw [if_pos w] at this
          rw [if_pos (by omega)]
          exact this
        · rw [if_neg w] at this
          rw [if_neg (by omega)]
          exact this
  refine loop (T.1.length - 1 - j) j _ (by omega) (Nat.le_refl _) (fun i hi => ?_) (by rw [up_at]) ((FM.rf _ _ _ _).upf (by simp))
  rw [if_neg (by omega)]
  simp (disch := omega) only [up_n1]
  exact hT.2.2.1 i hi
theorem mBegins_ok {lay : List Nat} (hwf : wfB lay = true) (d : Nat) (μ : Mem) (m : Nat) {L : Nat} : Rn lay d mM_begins [rf 16 m, vi (nI L)] μ (Pn fun μ1 => MTe μ1 m ([], L, rk0) ∧ MHi μ1 m [] ∧ FM m [m + 5] [1, 2, 8] μ μ1) := by
  refine Rn_intro ok_M_begins hwf rfl (fun G hC => g_M_begins_0 hC ?_)
  have loop : ∀ k i (μ' : Mem), i + k = 4 → μ'.1 m 1 = nI L → μ'.1 m 2 = nI 0 → μ'.1 m 8 = nI 0 → (∀ j, j < i → μ'.1 (m + 5) j = nI j) → FM m [m + 5] [1, 2, 8] μ μ' → G 17 [rf 16 m, un, vi (nI i)] [] μ' := by
    intro k
    induction k with
    | zero =>
      intro i μ' hi h1 h2 h8 hj hf
      refine g_M_begins_17 hC ?_
      rw [nx_le (by omega) (by omega)]
      refine ⟨fun _ => ⟨rfl, ⟨h2, h1, fun i hi => absurd hi (Nat.not_lt_zero _), fun k hk => ?_⟩, ⟨h8, by simp, fun j T hj => by simp at hj⟩, hf⟩, fun z => absurd (by omega) z⟩
      rw [hj k (by omega)]
      have : ∀ k, k < 4 → k = rk0.getD k 0 := by decide
      rw [← this k hk]
    | succ k ih =>
      intro i μ' hi h1 h2 h8 hj hf
      refine g_M_begins_17 hC ?_
      rw [nx_le (by omega) (by omega), nx_in' (by omega) (by omega), nx_cl (by omega), nI_add]
      refine ⟨fun z => absurd z (by omega), fun _ => ⟨by omega, ih (i + 1) _ (by omega) (by rw [up_n1 (by omega)]; exact h1) (by rw [up_n1 (by omega)]; exact h2) (by rw [up_n1 (by omega)]; exact h8) (fun j hj2 => ?_) (hf.up (by simp) (by omega))⟩⟩
      by_cases e : j = i
      · rw [e, up_at]
      · rw [up_n2 e]
        exact hj j (by omega)
  exact loop 4 0 _ (by omega) (by rw [up_n2 (by omega), up_n2 (by omega), up_at]) (by rw [up_n2 (by omega), up_at]) (by rw [up_at]) (fun j hj => absurd hj (Nat.not_lt_zero _)) ((((FM.rf _ _ _ _).upf (by simp)).upf (by simp)).upf (by simp))
theorem take12 {T : TS} {hist : List TS} : (T :: hist).take 12 = T :: hist.take 11 := rfl
theorem mNotes_ok {lay : List Nat} (hwf : wfB lay = true) (d : Nat) {μ : Mem} {m : Nat} {T : TS} {hist : List TS} (hT : MTe μ m T) (hw : WT T) (hH : MHi μ m hist) : Rn lay d mM_notes [rf 16 m] μ (Pn fun μ1 => MHi μ1 m ((T :: hist).take 12) ∧ FM m [m + 6] [8] μ μ1) := by
  have hn := hw.1.1
  obtain ⟨h8, hl, hs⟩ := hH
  refine Rn_intro ok_M_notes hwf rfl (fun G hC => g_M_notes_0 hC ?_)
  have wr : ∀ (n : Nat) (μ0 : Mem), n = (hist.take 11).length → μ0.1 m 8 = nI n → (∀ j T', (hist.take 11)[j]? = some T' → SlAt μ0 m (n - 1 - j) T' ∧ WT T') → FM m [m + 6] [8] μ μ0 → μ0.1 (m + 6) (30 * n) = nI T.2.1 → μ0.1 (m + 6) (30 * n + 1) = nI T.1.length → G 81 [rf 16 m, vi (nI (30 * n)), vi (nI 0)] [] μ0 := by
    intro n μ0 hnl g8 gs gf ga gb
    have hn11 : n ≤ 11 := by
      rw [hnl, List.length_take]
      omega
    have fin : ∀ μ' : Mem, (∀ j, j < 30 * n → μ'.1 (m + 6) j = μ0.1 (m + 6) j) → SlAt μ' m n T → FM m [m + 6] [8] μ μ' → μ'.1 m 8 = nI n → G 173 [rf 16 m, un, un] [] μ' := by
      intro μ' hlow hsl hf hc
      refine g_M_notes_173 hC ⟨rfl, ⟨?_, ?_, fun j T' hj => ?_⟩, hf.upf (by simp)⟩
      · rw [up_at, hc, nI_add, take12, List.length_cons, ← hnl]
      · rw [take12, List.length_cons, ← hnl]
        omega
      · rw [take12] at hj ⊢
        rw [List.length_cons, ← hnl]
        cases j with
        | zero =>
          have hj : T = T' := by simpa using hj
          subst hj
          refine ⟨SlAt.eq (by simpa using hsl) (fun i _ _ => by rw [up_n1 (by omega)]) hn, hw⟩
        | succ j =>
          have hj : (hist.take 11)[j]? = some T' := by simpa using hj
          have hjl : j < n := by
            rw [hnl]
            exact (List.getElem?_eq_some_iff.mp hj).1
          obtain ⟨c1, c2⟩ := gs j T' hj
          rw [show n + 1 - 1 - (j + 1) = n - 1 - j by omega]
          refine ⟨c1.eq (fun i i1 i2 => ?_) c2.1.1, c2⟩
          rw [up_n1 (by omega)]
          exact hlow i (by omega)
    have l2 : ∀ k i (μ' : Mem), i + k = 8 → (∀ j, j < 30 * n → μ'.1 (m + 6) j = μ0.1 (m + 6) j) → μ'.1 (m + 6) (30 * n) = nI T.2.1 → μ'.1 (m + 6) (30 * n + 1) = nI T.1.length → (∀ k, k < 4 → μ'.1 (m + 6) (30 * n + 2 + k) = nI (T.2.2.getD k 0)) → (∀ j, j < i → j < T.1.length → μ'.1 (m + 6) (30 * n + 6 + j) = nI (kd T.1 j) ∧ μ'.1 (m + 6) (30 * n + 14 + j) = nI (ra T.1 j) ∧ μ'.1 (m + 6) (30 * n + 22 + j) = nI (rb T.1 j)) → FM m [m + 6] [8] μ μ' → μ'.1 m 8 = nI n → G 110 [rf 16 m, vi (nI (30 * n)), vi (nI i)] [] μ' := by
      intro k
      induction k with
      | zero =>
        intro i μ' hi hlow c1 c2 c3 c4 hf hc
        refine g_M_notes_110 hC ?_
        rw [nx_le (by omega) (by omega)]
        exact ⟨fun _ => fin μ' hlow ⟨c1, c2, c3, fun i hi => c4 i (by omega) hi⟩ hf hc, fun z => absurd (by omega) z⟩
      | succ k ih =>
        intro i μ' hi hlow c1 c2 c3 c4 hf hc
        refine g_M_notes_110 hC ?_
        have g2 := hf.1 (m + 2) (by omega) (by simp)
        have g3 := hf.1 (m + 3) (by omega) (by simp)
        have g4 := hf.1 (m + 4) (by omega) (by simp)
        simp (disch := omega) only [nx_le, nI_add, nx_in', nx_cl, up_n1, g2, g3, g4]
        refine ⟨fun z => absurd z (by omega), fun _ => ⟨by omega, by omega, by omega, by omega, by omega, by omega, ih (i + 1) _ (by omega) (fun j hj => ?_) ?_ ?_ (fun k hk => ?_) (fun j hj hl2 => ?_) (((hf.up (by simp) (by omega)).up (by simp) (by omega)).up (by simp) (by omega)) (by simp (disch := omega) only [up_n1]; exact hc)⟩⟩
        · simp (disch := omega) only [up_n2]
          exact hlow j hj
        · simp (disch := omega) only [up_n2]
          exact c1
        · simp (disch := omega) only [up_n2]
          exact c2
        · simp (disch := omega) only [up_n2]
          exact c3 k hk
        · by_cases e : j = i
          · subst e
            obtain ⟨e1, e2, e3⟩ := hT.2.2.1 j hl2
            simp (disch := omega) only [up_n2, up_at, e1, e2, e3, and_self]
          · simp (disch := omega) only [up_n2]
            exact c4 j (by omega) hl2
    have l1 : ∀ k i (μ' : Mem), i + k = 4 → (∀ j, j < 30 * n → μ'.1 (m + 6) j = μ0.1 (m + 6) j) → μ'.1 (m + 6) (30 * n) = nI T.2.1 → μ'.1 (m + 6) (30 * n + 1) = nI T.1.length → (∀ j, j < i → μ'.1 (m + 6) (30 * n + 2 + j) = nI (T.2.2.getD j 0)) → FM m [m + 6] [8] μ μ' → μ'.1 m 8 = nI n → G 81 [rf 16 m, vi (nI (30 * n)), vi (nI i)] [] μ' := by
      intro k
      induction k with
      | zero =>
        intro i μ' hi hlow c1 c2 c3 hf hc
        refine g_M_notes_81 hC ?_
        rw [nx_le (by omega) (by omega)]
        exact ⟨fun _ => l2 8 0 μ' (by omega) hlow c1 c2 (fun k hk => c3 k (by omega)) (fun j hj => absurd hj (Nat.not_lt_zero _)) hf hc, fun z => absurd (by omega) z⟩
      | succ k ih =>
        intro i μ' hi hlow c1 c2 c3 hf hc
        refine g_M_notes_81 hC ?_
        have g5 := hf.1 (m + 5) (by omega) (by simp)
        have e5 := hT.2.2.2 i (by omega)
        simp (disch := omega) only [nx_le, nI_add, nx_in', nx_cl, g5, e5]
        refine ⟨fun z => absurd z (by omega), fun _ => ⟨by omega, by omega, ih (i + 1) _ (by omega) (fun j hj => ?_) ?_ ?_ (fun j hj => ?_) (hf.up (by simp) (by omega)) (by rw [up_n1 (by omega)]; exact hc)⟩⟩
        · rw [up_n2 (by omega)]
          exact hlow j hj
        · rw [up_n2 (by omega)]
          exact c1
        · rw [up_n2 (by omega)]
          exact c2
        · by_cases e : j = i
          · rw [e, up_at]
          · rw [up_n2 (by omega)]
            exact c3 j (by omega)
    exact l1 4 0 μ0 (by omega) (fun _ _ => rfl) ga gb (fun j hj => absurd hj (Nat.not_lt_zero _)) gf g8
  rw [h8, nx_eq (by omega) (by omega)]
  refine ⟨fun z => ?_, fun z => ?_⟩
  · simp (disch := omega) only [pk_mul, nI_add, nx_in', nx_cl, up_n1, hT.1, hT.2.1]
    have et : hist.take 11 = hist := List.take_of_length_le (by omega)
    refine ⟨by omega, by omega, wr hist.length _ (by rw [et]) (by simp (disch := omega) only [up_n1]; exact h8) (fun j T' hj => ?_) (((FM.rf _ _ _ _).up (by simp) (by omega)).up (by simp) (by omega)) (by rw [up_n2 (by omega), up_at]) (by rw [up_at])⟩
    rw [et] at hj
    have hjl := (List.getElem?_eq_some_iff.mp hj).1
    obtain ⟨c1, c2⟩ := hs j T' hj
    refine ⟨c1.eq (fun i i1 i2 => ?_) c2.1.1, c2⟩
    simp (disch := omega) only [up_n2]
  · have hlt : (hist.take 11).length = 11 := by rw [List.length_take]; omega
    have loop : ∀ k i (μ' : Mem), i + k = 330 → (∀ j, j < 360 → μ'.1 (m + 6) j = if j < i then μ.1 (m + 6) (j + 30) else μ.1 (m + 6) j) → FM m [m + 6] [8] μ μ' → μ'.1 m 8 = nI 12 → G 11 [rf 16 m, vi (nI i), un] [] μ' := by
      intro k
      induction k with
      | zero =>
        intro i μ' hi hj hf hc
        have ei : i = 330 := by omega
        subst ei
        refine g_M_notes_11 hC ?_
        have g1 := hf.2.1 1 (by simp)
        have g2 := hf.2.1 2 (by simp)
        simp (disch := omega) only [up_at, up_n1, up_n2, hc, nx_sub, pk_mul, nI_add, nx_in', nx_cl, g1, g2, hT.1, hT.2.1, nx_le]
        refine ⟨fun _ => ⟨by omega, by omega, wr 11 _ hlt.symm (by simp (disch := omega) only [up_n1, up_at]) (fun j T' hj2 => ?_) (((hf.upf (by simp)).up (by simp) (by omega)).up (by simp) (by omega)) (by rw [up_n2 (by omega), up_at]) (by rw [up_at])⟩, fun z => absurd (by omega) z⟩
        have hjl := (List.getElem?_eq_some_iff.mp hj2).1
        rw [hlt] at hjl
        rw [List.getElem?_take_of_lt hjl] at hj2
        obtain ⟨c1, c2⟩ := hs j T' hj2
        rw [z, show 12 - 1 - j = (11 - 1 - j) + 1 by omega] at c1
        refine ⟨?_, c2⟩
        have hl8 := c2.1.1
        obtain ⟨d1, d2, d3, d4⟩ := c1
        have key : ∀ q, 30 * (11 - 1 - j) ≤ q → q < 30 * (11 - 1 - j) + 30 → (upI (upI (upI μ' m 8 (nI (12 - 1))) (m + 6) (30 * (12 - 1)) (nI T.2.1)) (m + 6) (30 * (12 - 1) + 1) (nI T.1.length)).1 (m + 6) q = μ.1 (m + 6) (q + 30) := fun q q1 q2 => by
          rw [up_n2 (by omega), up_n2 (by omega), up_n1 (by omega), hj q (by omega), if_pos (by omega)]
        refine ⟨?_, ?_, fun k hk => ?_, fun i hi => ?_⟩
        · rw [key _ (by omega) (by omega), show 30 * (11 - 1 - j) + 30 = 30 * (11 - 1 - j + 1) by omega]
          exact d1
        · rw [key _ (by omega) (by omega), show 30 * (11 - 1 - j) + 1 + 30 = 30 * (11 - 1 - j + 1) + 1 by omega]
          exact d2
        · rw [key _ (by omega) (by omega), show 30 * (11 - 1 - j) + 2 + k + 30 = 30 * (11 - 1 - j + 1) + 2 + k by omega]
          exact d3 k hk
        · rw [key _ (by omega) (by omega), key _ (by omega) (by omega), key _ (by omega) (by omega), show 30 * (11 - 1 - j) + 6 + i + 30 = 30 * (11 - 1 - j + 1) + 6 + i by omega, show 30 * (11 - 1 - j) + 14 + i + 30 = 30 * (11 - 1 - j + 1) + 14 + i by omega, show 30 * (11 - 1 - j) + 22 + i + 30 = 30 * (11 - 1 - j + 1) + 22 + i by omega]
          exact d4 i hi
      | succ k ih =>
        intro i μ' hi hj hf hc
        refine g_M_notes_11 hC ?_
        have hji := hj (i + 30) (by omega)
        rw [if_neg (by omega)] at hji
        rw [nx_le (by omega) (by omega)]
        refine ⟨fun z => absurd z (by omega), fun _ => ?_⟩
        rw [nI_add, nI_add, nx_in' (by omega) (by omega), nx_in' (by omega) (by omega), nx_cl (by omega), nx_cl (by omega), hji]
        refine ⟨by omega, by omega, ih (i + 1) _ (by omega) (fun j hj2 => ?_) (hf.up (by simp) (by omega)) (by rw [up_n1 (by omega)]; exact hc)⟩
        by_cases e : j = i
        · rw [e, up_at, if_pos (by omega)]
        · rw [up_n2 e, hj j hj2]
          by_cases w : j < i
          · rw [if_pos w, if_pos (by omega)]
          · rw [if_neg w, if_neg (by omega)]
    exact loop 330 0 μ (by omega) (fun j _ => by rw [if_neg (by omega)]) (FM.rf _ _ _ _) (by rw [h8, z])
theorem mBack_ok {lay : List Nat} (hwf : wfB lay = true) (d : Nat) {μ : Mem} {m : Nat} {T : TS} {hist : List TS} (hH : MHi μ m (T :: hist)) : Rn lay d mM_takesBack [rf 16 m] μ (Pn fun μ1 => MTe μ1 m T ∧ MHi μ1 m hist ∧ FM m [m + 2, m + 3, m + 4, m + 5] [1, 2, 8] μ μ1) := by
  obtain ⟨h8, hl, hs⟩ := hH
  rw [List.length_cons] at h8 hl hs
  obtain ⟨s1, s2⟩ := hs 0 T rfl
  rw [show hist.length + 1 - 1 - 0 = hist.length by omega] at s1
  have hn := s2.1.1
  obtain ⟨d1, d2, d3, d4⟩ := s1
  refine Rn_intro ok_M_takesBack hwf rfl (fun G hC => g_M_takesBack_0 hC ?_)
  have fin : ∀ μ' : Mem, MTe μ' m T → μ'.1 m 8 = nI hist.length → FM m [m + 2, m + 3, m + 4, m + 5] [1, 2, 8] μ μ' → MTe μ' m T ∧ MHi μ' m hist ∧ FM m [m + 2, m + 3, m + 4, m + 5] [1, 2, 8] μ μ' := by
    intro μ' hT hc hf
    refine ⟨hT, ⟨hc, by omega, fun j T' hj => ?_⟩, hf⟩
    obtain ⟨c1, c2⟩ := hs (j + 1) T' (by simpa using hj)
    rw [show hist.length + 1 - 1 - (j + 1) = hist.length - 1 - j by omega] at c1
    exact ⟨c1.eq (fun i _ _ => by rw [hf.1 (m + 6) (by omega) (by simp)]) c2.1.1, c2⟩
  have l2 : ∀ k i (μ' : Mem), i + k = 8 → μ'.1 m 1 = nI T.2.1 → μ'.1 m 2 = nI T.1.length → μ'.1 m 8 = nI hist.length → (∀ k, k < 4 → μ'.1 (m + 5) k = nI (T.2.2.getD k 0)) → (∀ j, j < i → j < T.1.length → μ'.1 (m + 2) j = nI (kd T.1 j) ∧ μ'.1 (m + 3) j = nI (ra T.1 j) ∧ μ'.1 (m + 4) j = nI (rb T.1 j)) → FM m [m + 2, m + 3, m + 4, m + 5] [1, 2, 8] μ μ' → G 71 [rf 16 m, vi (nI (30 * hist.length)), vi (nI i)] [] μ' := by
    intro k
    induction k with
    | zero =>
      intro i μ' hi c1 c2 c8 c3 c4 hf
      refine g_M_takesBack_71 hC ?_
      rw [nx_le (by omega) (by omega)]
      exact ⟨fun _ => ⟨rfl, fin μ' ⟨c2, c1, fun i hi => c4 i (by omega) hi, c3⟩ c8 hf⟩, fun z => absurd (by omega) z⟩
    | succ k ih =>
      intro i μ' hi c1 c2 c8 c3 c4 hf
      refine g_M_takesBack_71 hC ?_
      have g6 := hf.1 (m + 6) (by omega) (by simp)
      simp (disch := omega) only [nx_le, nI_add, nx_in', nx_cl, up_n1, g6]
      refine ⟨fun z => absurd z (by omega), fun _ => ⟨by omega, by omega, by omega, by omega, by omega, by omega, ih (i + 1) _ (by omega) ?_ ?_ ?_ (fun k hk => ?_) (fun j hj hl2 => ?_) (((hf.up (by simp) (by omega)).up (by simp) (by omega)).up (by simp) (by omega))⟩⟩
      · simp (disch := omega) only [up_n1]
        exact c1
      · simp (disch := omega) only [up_n1]
        exact c2
      · simp (disch := omega) only [up_n1]
        exact c8
      · simp (disch := omega) only [up_n1]
        exact c3 k hk
      · by_cases e : j = i
        · subst e
          obtain ⟨e1, e2, e3⟩ := d4 j hl2
          simp (disch := omega) only [up_n1, up_at, e1, e2, e3, and_self]
        · simp (disch := omega) only [up_n1, up_n2]
          exact c4 j (by omega) hl2
  have l1 : ∀ k i (μ' : Mem), i + k = 4 → μ'.1 m 1 = nI T.2.1 → μ'.1 m 2 = nI T.1.length → μ'.1 m 8 = nI hist.length → (∀ j, j < i → μ'.1 (m + 5) j = nI (T.2.2.getD j 0)) → FM m [m + 2, m + 3, m + 4, m + 5] [1, 2, 8] μ μ' → G 42 [rf 16 m, vi (nI (30 * hist.length)), vi (nI i)] [] μ' := by
    intro k
    induction k with
    | zero =>
      intro i μ' hi c1 c2 c8 c3 hf
      refine g_M_takesBack_42 hC ?_
      rw [nx_le (by omega) (by omega)]
      exact ⟨fun _ => l2 8 0 μ' (by omega) c1 c2 c8 (fun k hk => c3 k (by omega)) (fun j hj => absurd hj (Nat.not_lt_zero _)) hf, fun z => absurd (by omega) z⟩
    | succ k ih =>
      intro i μ' hi c1 c2 c8 c3 hf
      refine g_M_takesBack_42 hC ?_
      have g6 := hf.1 (m + 6) (by omega) (by simp)
      have e3 := d3 i (by omega)
      simp (disch := omega) only [nx_le, nI_add, nx_in', nx_cl, g6, e3]
      refine ⟨fun z => absurd z (by omega), fun _ => ⟨by omega, by omega, ih (i + 1) _ (by omega) (by rw [up_n1 (by omega)]; exact c1) (by rw [up_n1 (by omega)]; exact c2) (by rw [up_n1 (by omega)]; exact c8) (fun j hj => ?_) (hf.up (by simp) (by omega))⟩⟩
      by_cases e : j = i
      · rw [e, up_at]
      · rw [up_n2 e]
        exact c3 j (by omega)
  simp (disch := omega) only [up_at, up_n1, up_n2, h8, nx_sub, Nat.add_sub_cancel, pk_mul, nI_add, nx_in', nx_cl, d1, d2]
  refine ⟨by omega, by omega, l1 4 0 _ (by omega) (by rw [up_n2 (by omega), up_at]) (by rw [up_at]) (by rw [up_n2 (by omega), up_n2 (by omega), up_at]) (fun j hj => absurd hj (Nat.not_lt_zero _)) ((((FM.rf _ _ _ _).upf (by simp)).upf (by simp)).upf (by simp))⟩
end
section
/-! the reference: edits -/
/-- noted, and not yet changed -/
def MMid (μ : Mem) (m : Nat) (S : XS) : Prop := MHi μ m ((S.1 :: S.2.1).take 12) ∧ μ.1 (m + 1) 0 = S.2.2.1 ∧ μ.1 (m + 1) 1 = S.2.2.2.1 ∧ μ.1 (m + 1) 2 = S.2.2.2.2 ∧ okX S
theorem MMid.fr {μ μ1 : Mem} {m : Nat} {S : XS} {C F : List Nat} (h : MMid μ m S) (hf : FM m C F μ μ1) (h1 : m + 1 ∉ C ∧ m + 6 ∉ C) (h2 : 8 ∉ F) : MMid μ1 m S := by
  obtain ⟨a, b, c, e, f⟩ := h
  have e1 := hf.1 (m + 1) (by omega) h1.1
  exact ⟨a.fr hf h1.2 h2, by rw [e1]; exact b, by rw [e1]; exact c, by rw [e1]; exact e, f⟩
theorem MMid.fin {μ : Mem} {m : Nat} {S : XS} {U : TS} (h : MMid μ m S) (hT : MTe μ m U) (hw : WT U) (hc : NC U.1) : MAt μ m (xSet S U) := by
  obtain ⟨a, b, c, e, f⟩ := h
  refine ⟨hT, a, b, c, e, hw, hc, fun T hT => ?_⟩
  have := List.mem_of_mem_take hT
  rcases List.mem_cons.mp this with q | q
  · rw [q]; exact f.2.1
  · exact f.2.2 T q
theorem useNotes {lay : List Nat} (hwf : wfB lay = true) (d : Nat) {μ : Mem} {m : Nat} {S : XS} (h : MAt μ m S) {K : Mem → Prop} (k : ∀ μ1, MTe μ1 m S.1 → MMid μ1 m S → FM m [m + 6] [8] μ μ1 → K μ1) : ∃ P : PT, Rn lay d mM_notes [rf 16 m] μ P ∧ ∀ μ1 : Mem, P none μ1 → K μ1 := by
  obtain ⟨a, b, c, e, f, g⟩ := h
  refine useN (mNotes_ok hwf d a g.1 b) (fun μ1 hp => ?_)
  obtain ⟨p1, p2⟩ := hp
  have e1 := p2.1 (m + 1) (by omega) (by simp)
  exact k μ1 (a.fr p2 (by simp) (by simp)) ⟨p1, by rw [e1]; exact c, by rw [e1]; exact e, by rw [e1]; exact f, g⟩ p2
/-- a state whose text has changed for a while and is as it was again -/
theorem MAt.back {μ μ1 : Mem} {m : Nat} {S : XS} (h : MAt μ m S) (hT : MTe μ1 m S.1) (hf : FM m [m + 2, m + 3, m + 4] [2] μ μ1) : MAt μ1 m S := by
  obtain ⟨a, b, c, e, f, g⟩ := h
  have e1 := hf.1 (m + 1) (by omega) (by simp)
  exact ⟨hT, b.fr hf (by simp) (by simp), by rw [e1]; exact c, by rw [e1]; exact e, by rw [e1]; exact f, g⟩
theorem mAnew_ok {lay : List Nat} (hwf : wfB lay = true) (d : Nat) {μ : Mem} {m : Nat} {S : XS} (h : MAt μ m S) (v : Int32) : Rn lay (d + 1) mM_anew [rf 16 m, vi v] μ (if 0 ≤ v.toInt ∧ v.toInt ≤ 90 then PM m (nI S.1.1.length) (([], v.toInt.toNat, rk0), [], S.2.2) else PM m (mI 1) (xBad S)) := by
  refine Rn_intro ok_M_anew hwf rfl (fun G hC => g_M_anew_0 hC ?_)
  refine useV (min_ok hwf d _ _ _ μ) ?_
  rw [bI_eq0, ti_lit.1, ti_lit.2.2.2.2.2.2.2.1]
  refine ⟨fun q => ?_, fun q => ?_⟩
  · have q := Classical.not_not.mp q
    rw [if_pos q]
    obtain ⟨j, j1, j2, j3⟩ := nat_of q.1
    rw [j3] at q
    rw [j3, j2, Int.toNat_natCast]
    refine useN (mBegins_ok hwf d μ m) (fun μ1 hp => ?_)
    obtain ⟨p1, p2, p3⟩ := hp
    obtain ⟨a, b, c, e, f, g⟩ := h
    have e1 := p3.1 (m + 1) (by omega) (by simp)
    exact ⟨_, rfl, a.1, p1, p2, by rw [e1]; exact c, by rw [e1]; exact e, by rw [e1]; exact f, ⟨⟨by simp, fun r hr => by simp at hr⟩, by show j ≤ 90; omega, rfl, rk0_lt⟩, nc_nil, fun T hT => by simp at hT⟩
  · rw [if_neg q]
    exact useMBad hwf d h
theorem mte_pop {μ : Mem} {m : Nat} {rs : List RG} {g : RG} {X : Nat × List Nat} (h : MTe μ m (rs ++ [g], X)) (v : Int32) (hv : v = nI rs.length) : MTe (upI μ m 2 v) m (rs, X) := by
  obtain ⟨a, b, c, e⟩ := h
  refine ⟨by rw [up_at, hv], by rw [up_n2 (by omega)]; exact b, fun i hi => ?_, fun k hk => by rw [up_n1 (by omega)]; exact e k hk⟩
  have := c i (by show i < (rs ++ [g]).length; rw [List.length_append]; exact Nat.lt_of_lt_of_le hi (Nat.le_add_right _ _))
  have hi : i < rs.length := hi
  have ee : el (rs ++ [g]) i = el rs i := el_app hi
  have this : μ.1 (m + 2) i = nI (el (rs ++ [g]) i).1 ∧ μ.1 (m + 3) i = nI (el (rs ++ [g]) i).2.1 ∧ μ.1 (m + 4) i = nI (el (rs ++ [g]) i).2.2 := this
  rw [ee] at this
  rw [up_n1 (by omega), up_n1 (by omega), up_n1 (by omega)]
  exact this
theorem mRange_ok {lay : List Nat} (hwf : wfB lay = true) (d : Nat) {μ : Mem} {m : Nat} {S : XS} (h : MAt μ m S) (k a b : Int32) : Rn lay (d + 2) mM_range [rf 16 m, vi k, vi a, vi b] μ (if (0 ≤ k.toInt ∧ k.toInt < 4) ∧ 0 ≤ a.toInt ∧ a.toInt ≤ b.toInt ∧ b.toInt ≤ S.1.2.1 then (if S.1.1.length < 8 ∧ ¬ crowd (S.1.1 ++ [(tN k, tN a, tN b)]) = true then PM m (nI S.1.1.length) (xSet S (S.1.1 ++ [(tN k, tN a, tN b)], S.1.2)) else PM m (mI 3) (xFull S)) else PM m (mI 1) (xBad S)) := by
  refine Rn_intro ok_M_range hwf rfl (fun G hC => g_M_range_0 hC ?_)
  have hw := h.2.2.2.2.2.1
  have hn := hw.1.1
  have hL := hw.2.1
  refine useV (mIsKind_ok hwf d k μ) ?_
  rw [bI_eq0]
  refine ⟨fun q => ?_, fun q => ?_⟩
  · rw [if_neg (fun z => q z.1)]
    exact useMBad hwf _ h
  · have q := Classical.not_not.mp q
    refine useV (mIsFromTo_ok hwf d h.1.2.1 hL a b) ?_
    rw [bI_eq0]
    refine ⟨fun r => ?_, fun r => ?_⟩
    · have r := Classical.not_not.mp r
      rw [if_pos ⟨q, r⟩]
      obtain ⟨k', k1, k2, k3⟩ := nat_of q.1
      obtain ⟨a', a1, a2, a3⟩ := nat_of r.1
      obtain ⟨b', b1, b2, b3⟩ := nat_of (Int.le_trans r.1 r.2.1)
      rw [k3] at q
      rw [a3, b3] at r
      have ek : tN k = k' := by unfold tN; rw [k3]; rfl
      have ea : tN a = a' := by unfold tN; rw [a3]; rfl
      have eb : tN b = b' := by unfold tN; rw [b3]; rfl
      rw [ek, ea, eb, k2, a2, b2, h.1.1, nx_eq (by omega) (by omega)]
      refine ⟨fun h8 => ?_, fun h8 => ?_⟩
      · refine useN (mComes_ok hwf _ (k := k') (a := a') (b := b') h.1 (by omega)) (fun μ1 hp => ?_)
        obtain ⟨p1, p2⟩ := hp
        have hw2 : WT (S.1.1 ++ [(k', a', b')], S.1.2) := ⟨WR_app hw.1 (by omega) ⟨by show k' < 4; omega, by show a' ≤ b'; omega, by show b' ≤ S.1.2.1; omega⟩, hw.2⟩
        refine useV (mTooMuch_ok hwf d p1 hw2) ?_
        have hll : (S.1.1 ++ [(k', a', b')]).length = S.1.1.length + 1 := by simp
        have e2 : μ1.1 m 2 - nI 1 = nI S.1.1.length := by
          rw [p1.1]
          show nI (S.1.1 ++ [(k', a', b')]).length - nI 1 = _
          rw [hll, nx_sub (by omega), Nat.add_sub_cancel]
        rw [bI_eq0, e2]
        have p3 := mte_pop p1 (nI S.1.1.length) rfl
        have h3 : MAt (upI μ1 m 2 (nI S.1.1.length)) m S := h.back p3 (p2.upf (by simp))
        refine ⟨fun c => ?_, fun c => ?_⟩
        · rw [if_pos ⟨by omega, c⟩]
          refine useNotes hwf _ h3 (fun μ2 t1 t2 t3 => ?_)
          refine useN (mComes_ok hwf _ (k := k') (a := a') (b := b') t1 (by omega)) (fun μ3 hp => ?_)
          obtain ⟨u1, u2⟩ := hp
          refine ⟨_, rfl, ?_, (t2.fr u2 (by simp) (by simp)).fin u1 hw2 (nc_of (by simpa using c) (by simp; omega))⟩
          rw [u1.1]
          show nI (S.1.1 ++ [(k', a', b')]).length - nI 1 = _
          rw [hll, nx_sub (by omega), Nat.add_sub_cancel]
        · rw [if_neg (fun z => c z.2)]
          exact useMFull hwf _ h3
      · rw [if_neg (fun z => by omega)]
        exact useMFull hwf _ h
    · rw [if_neg (fun z => r z.2)]
      exact useMBad hwf _ h
theorem mDrop_ok {lay : List Nat} (hwf : wfB lay = true) (d : Nat) {μ : Mem} {m : Nat} {S : XS} (h : MAt μ m S) (v : Int32) : Rn lay (d + 2) mM_drop [rf 16 m, vi v] μ (if 0 ≤ v.toInt ∧ v.toInt < S.1.1.length then PM m (nI (S.1.1.length - 1)) (xSet S (S.1.1.eraseIdx v.toInt.toNat, S.1.2)) else PM m (mI 1) (xBad S)) := by
  refine Rn_intro ok_M_drop hwf rfl (fun G hC => g_M_drop_0 hC ?_)
  have hw := h.2.2.2.2.2.1
  have hn := hw.1.1
  refine useV (mIsRange_ok hwf _ h.1 hn v) ?_
  rw [bI_eq0]
  refine ⟨fun q => ?_, fun q => ?_⟩
  · have q := Classical.not_not.mp q
    rw [if_pos q]
    obtain ⟨j, j1, j2, j3⟩ := ix_of q (by omega)
    rw [j3]
    subst j2
    refine useNotes hwf _ h (fun μ2 t1 t2 t3 => ?_)
    refine useN (mGoes_ok hwf _ t1 (by omega) j1) (fun μ3 hp => ?_)
    obtain ⟨u1, u2⟩ := hp
    refine ⟨_, rfl, ?_, (t2.fr u2 (by simp) (by simp)).fin u1 (wr_erase hw j) (nc_erase hn h.2.2.2.2.2.2.1 j)⟩
    rw [u1.1]
    show nI (S.1.1.eraseIdx j).length = _
    rw [List.length_eraseIdx_of_lt j1]
  · rw [if_neg q]
    exact useMBad hwf _ h
theorem mte_set {μ : Mem} {m : Nat} {T : TS} (h : MTe μ m T) {j a b : Nat} (hj : j < T.1.length) : MTe (upI (upI μ (m + 3) j (nI a)) (m + 4) j (nI b)) m (T.1.set j (kd T.1 j, a, b), T.2) := by
  obtain ⟨h1, h2, h3, h4⟩ := h
  refine ⟨?_, ?_, fun i hi => ?_, fun k hk => ?_⟩
  · simp (disch := omega) only [up_n1]
    show _ = nI (T.1.set j _).length
    rw [List.length_set]
    exact h1
  · simp (disch := omega) only [up_n1]
    exact h2
  · have hi : i < (T.1.set j (kd T.1 j, a, b)).length := hi
    rw [List.length_set] at hi
    show _ = nI (el (T.1.set j (kd T.1 j, a, b)) i).1 ∧ _ = nI (el (T.1.set j (kd T.1 j, a, b)) i).2.1 ∧ _ = nI (el (T.1.set j (kd T.1 j, a, b)) i).2.2
    rw [el_set hj]
    by_cases e : i = j
    · subst e
      rw [if_pos rfl]
      simp (disch := omega) only [up_n1, up_at, and_true]
      exact (h3 i hj).1
    · rw [if_neg e]
      simp (disch := omega) only [up_n1, up_n2]
      exact h3 i hi
  · simp (disch := omega) only [up_n1]
    exact h4 k hk
theorem sub_3 (x t f : Int32) : x - t + f = x - (t - f) := by grind
theorem set_back {rs : List RG} {j : Nat} (hj : j < rs.length) (g : RG) : (rs.set j g).set j (kd rs j, ra rs j, rb rs j) = rs := by
  rw [List.set_set]
  apply List.ext_getElem?
  intro i
  rw [List.getElem?_set]
  by_cases e : j = i
  · subst e
    rw [if_pos rfl, if_pos hj, el_in hj]
    rfl
  · rw [if_neg e]
theorem kd_set {rs : List RG} {j a b : Nat} (hj : j < rs.length) : kd (rs.set j (kd rs j, a, b)) j = kd rs j := by
  rw [← el_1, el_set hj, if_pos rfl]
theorem mMoves_ok {lay : List Nat} (hwf : wfB lay = true) (d : Nat) {μ : Mem} {m : Nat} {S : XS} (h : MAt μ m S) (r a b : Int32) : Rn lay (d + 2) mM_moves [rf 16 m, vi r, vi a, vi b] μ (if (0 ≤ r.toInt ∧ r.toInt < S.1.1.length) ∧ 0 ≤ a.toInt ∧ a.toInt ≤ b.toInt ∧ b.toInt ≤ S.1.2.1 then (if ¬ crowd (S.1.1.set (tN r) (kd S.1.1 (tN r), tN a, tN b)) = true then PM m ((b - a) - (nI (rb S.1.1 (tN r)) - nI (ra S.1.1 (tN r)))) (xSet S (S.1.1.set (tN r) (kd S.1.1 (tN r), tN a, tN b), S.1.2)) else PM m (mI 3) (xFull S)) else PM m (mI 1) (xBad S)) := by
  refine Rn_intro ok_M_moves hwf rfl (fun G hC => g_M_moves_0 hC ?_)
  have hw := h.2.2.2.2.2.1
  have hn := hw.1.1
  have hL := hw.2.1
  refine useV (mIsRange_ok hwf _ h.1 hn r) ?_
  rw [bI_eq0]
  refine ⟨fun q => ?_, fun q => ?_⟩
  · rw [if_neg (fun z => q z.1)]
    exact useMBad hwf _ h
  · have q := Classical.not_not.mp q
    refine useV (mIsFromTo_ok hwf d h.1.2.1 hL a b) ?_
    rw [bI_eq0]
    refine ⟨fun s => ?_, fun s => ?_⟩
    · have s := Classical.not_not.mp s
      rw [if_pos ⟨q, s⟩]
      obtain ⟨j, j1, j2, j3⟩ := ix_of q (by omega)
      obtain ⟨a', a1, a2, a3⟩ := nat_of s.1
      obtain ⟨b', b1, b2, b3⟩ := nat_of (Int.le_trans s.1 s.2.1)
      rw [a3, b3] at s
      have ea : tN a = a' := by unfold tN; rw [a3]; rfl
      have eb : tN b = b' := by unfold tN; rw [b3]; rfl
      have ej : tN r = j := j3
      rw [ej, ea, eb, j2, a2, b2]
      obtain ⟨_, e1, e2⟩ := h.1.2.2.1 j j1
      have hv : vp_in (nI j) 9 := vin (by omega) (by omega)
      rw [nx_cl (by omega), e1, e2]
      have p1 := mte_set (a := a') (b := b') h.1 j1
      have hw2 : WT (S.1.1.set j (kd S.1.1 j, a', b'), S.1.2) := wt_set hw j (el_wt hw j1).1 (by omega) (by omega)
      refine ⟨hv, hv, hv, hv, useV (mTooMuch_ok hwf d p1 hw2) ⟨hv, hv, ?_⟩⟩
      rw [bI_eq0]
      have p2 := mte_set (a := ra S.1.1 j) (b := rb S.1.1 j) p1 (show j < (S.1.1.set j (kd S.1.1 j, a', b')).length by rw [List.length_set]; exact j1)
      have p2 : MTe _ m ((S.1.1.set j (kd S.1.1 j, a', b')).set j (kd (S.1.1.set j (kd S.1.1 j, a', b')) j, ra S.1.1 j, rb S.1.1 j), S.1.2) := p2
      rw [kd_set j1, set_back j1] at p2
      have h3 := h.back p2 (((((FM.rf _ _ _ _).up (by simp) (by omega)).up (by simp) (by omega)).up (by simp) (by omega)).up (by simp) (by omega))
      refine ⟨fun c => ?_, fun c => ?_⟩
      · rw [if_pos c]
        refine useNotes hwf _ h3 (fun μ2 t1 t2 t3 => ⟨hv, hv, ?_⟩)
        exact ⟨_, rfl, sub_3 _ _ _, (t2.fr (((FM.rf _ [m + 3, m + 4] [] _).up (by simp) (by omega)).up (by simp) (by omega)) (by simp) (by simp)).fin (mte_set t1 j1) hw2 (nc_of (by simpa using c) (by simp; omega))⟩
      · rw [if_neg c]
        exact useMFull hwf _ h3
    · rw [if_neg (fun z => s z.2)]
      exact useMBad hwf _ h
theorem mKind_ok {lay : List Nat} (hwf : wfB lay = true) (d : Nat) {μ : Mem} {m : Nat} {S : XS} (h : MAt μ m S) (r k : Int32) : Rn lay (d + 2) mM_kind [rf 16 m, vi r, vi k] μ (if (0 ≤ r.toInt ∧ r.toInt < S.1.1.length) ∧ 0 ≤ k.toInt ∧ k.toInt < 4 then PM m (nI (kd S.1.1 (tN r))) (xSet S (S.1.1.set (tN r) (tN k, ra S.1.1 (tN r), rb S.1.1 (tN r)), S.1.2)) else PM m (mI 1) (xBad S)) := by
  refine Rn_intro ok_M_kind hwf rfl (fun G hC => g_M_kind_0 hC ?_)
  have hw := h.2.2.2.2.2.1
  have hn := hw.1.1
  refine useV (mIsRange_ok hwf _ h.1 hn r) ?_
  rw [bI_eq0]
  refine ⟨fun q => ?_, fun q => ?_⟩
  · rw [if_neg (fun z => q z.1)]
    exact useMBad hwf _ h
  · have q := Classical.not_not.mp q
    refine useV (mIsKind_ok hwf d k μ) ?_
    rw [bI_eq0]
    refine ⟨fun s => ?_, fun s => ?_⟩
    · have s := Classical.not_not.mp s
      rw [if_pos ⟨q, s⟩]
      obtain ⟨j, j1, j2, j3⟩ := ix_of q (by omega)
      obtain ⟨k', k1, k2, k3⟩ := nat_of s.1
      rw [k3] at s
      have ek : tN k = k' := by unfold tN; rw [k3]; rfl
      have ej : tN r = j := j3
      rw [ej, ek, j2, k2, nx_cl (by omega)]
      have hv : vp_in (nI j) 9 := vin (by omega) (by omega)
      refine useNotes hwf _ h (fun μ2 t1 t2 t3 => ⟨hv, hv, ?_⟩)
      have el := el_wt hw j1
      have e1 : MTe (upI μ2 (m + 2) j (nI k')) m (S.1.1.set j (k', ra S.1.1 j, rb S.1.1 j), S.1.2) := by
        obtain ⟨h1, h2, h3, h4⟩ := t1
        refine ⟨by rw [up_n1 (by omega)]; show _ = nI (S.1.1.set j _).length; rw [List.length_set]; exact h1, by rw [up_n1 (by omega)]; exact h2, fun i hi => ?_, fun k hk => by rw [up_n1 (by omega)]; exact h4 k hk⟩
        have hi : i < (S.1.1.set j (k', ra S.1.1 j, rb S.1.1 j)).length := hi
        rw [List.length_set] at hi
        obtain ⟨a, b, c⟩ := h3 i hi
        show _ = nI (kd (S.1.1.set j (k', ra S.1.1 j, rb S.1.1 j)) i) ∧ _ = nI (ra (S.1.1.set j (k', ra S.1.1 j, rb S.1.1 j)) i) ∧ _ = nI (rb (S.1.1.set j (k', ra S.1.1 j, rb S.1.1 j)) i)
        rw [(setk_ab j1 i).1, (setk_ab j1 i).2, ← el_1, el_set j1]
        refine ⟨?_, by rw [up_n1 (by omega)]; exact b, by rw [up_n1 (by omega)]; exact c⟩
        by_cases e : i = j
        · rw [if_pos e, e, up_at]
        · rw [if_neg e, up_n2 e]
          exact a
      refine ⟨_, rfl, (t1.2.2.1 j j1).1, (t2.fr ((FM.rf _ [m + 2] [] _).up (by simp) (by omega)) (by simp) (by simp)).fin e1 (wt_set hw j (by omega) el.2.1 el.2.2) (fun p => ?_)⟩
      show popN (cov (S.1.1.set j (k', ra S.1.1 j, rb S.1.1 j)) p) ≤ 5
      rw [cov_same (by rw [List.length_set]) (setk_ab j1) p]
      exact h.2.2.2.2.2.2.1 p
    · rw [if_neg (fun z => s z.2)]
      exact useMBad hwf _ h
theorem mRank_ok {lay : List Nat} (hwf : wfB lay = true) (d : Nat) {μ : Mem} {m : Nat} {S : XS} (h : MAt μ m S) (k r : Int32) : Rn lay (d + 2) mM_rank [rf 16 m, vi k, vi r] μ (if (0 ≤ k.toInt ∧ k.toInt < 4) ∧ 0 ≤ r.toInt ∧ r.toInt < 4 then PM m (nI (S.1.2.2.getD (tN k) 0)) (xSet S (S.1.1, S.1.2.1, S.1.2.2.set (tN k) (tN r))) else PM m (mI 1) (xBad S)) := by
  refine Rn_intro ok_M_rank hwf rfl (fun G hC => g_M_rank_0 hC ?_)
  have hw := h.2.2.2.2.2.1
  have hn := hw.1.1
  have h4 := hw.2.2.1
  refine useV (mIsKind_ok hwf _ k μ) ?_
  rw [bI_eq0]
  refine ⟨fun q => ?_, fun q => ?_⟩
  · rw [if_neg (fun z => q z.1)]
    exact useMBad hwf _ h
  · have q := Classical.not_not.mp q
    refine useV (min_ok hwf _ _ _ _ μ) ?_
    rw [bI_eq0, ti_lit.1, ti_lit.2.2.2.1]
    refine ⟨fun s => ?_, fun s => ?_⟩
    · have s := Classical.not_not.mp s
      rw [if_pos (by omega)]
      obtain ⟨k', k1, k2, k3⟩ := nat_of q.1
      obtain ⟨r', r1, r2, r3⟩ := nat_of s.1
      rw [k3] at q
      rw [r3] at s
      have ek : tN k = k' := by unfold tN; rw [k3]; rfl
      have er : tN r = r' := by unfold tN; rw [r3]; rfl
      rw [ek, er, k2, r2, nx_cl (by omega)]
      have hv : vp_in (nI k') 4 := vin (by omega) (by omega)
      refine useNotes hwf _ h (fun μ2 t1 t2 t3 => ⟨hv, hv, ?_⟩)
      have e1 : MTe (upI μ2 (m + 5) k' (nI r')) m (S.1.1, S.1.2.1, S.1.2.2.set k' r') := by
        obtain ⟨h1, h2, h3, h5⟩ := t1
        refine ⟨by rw [up_n1 (by omega)]; exact h1, by rw [up_n1 (by omega)]; exact h2, fun i hi => ?_, fun i hi => ?_⟩
        · rw [up_n1 (by omega), up_n1 (by omega), up_n1 (by omega)]
          exact h3 i hi
        · show _ = nI ((S.1.2.2.set k' r').getD i 0)
          rw [List.getD_eq_getElem?_getD, List.getElem?_set]
          by_cases e : k' = i
          · subst e
            rw [if_pos rfl, if_pos (by omega), up_at]
            rfl
          · rw [if_neg e, up_n2 (by omega), ← List.getD_eq_getElem?_getD]
            exact h5 i hi
      refine ⟨_, rfl, t1.2.2.2 k' (by omega), (t2.fr ((FM.rf _ [m + 5] [] _).up (by simp) (by omega)) (by simp) (by simp)).fin e1 ⟨hw.1, hw.2.1, by show (S.1.2.2.set k' r').length = 4; rw [List.length_set]; exact h4, fun y hy => ?_⟩ h.2.2.2.2.2.2.1⟩
      rcases List.mem_or_eq_of_mem_set hy with z | z
      · exact hw.2.2.2 y z
      · omega
    · rw [if_neg (by omega)]
      exact useMBad hwf _ h
theorem mUndo_ok {lay : List Nat} (hwf : wfB lay = true) (d : Nat) {μ : Mem} {m : Nat} {S : XS} (h : MAt μ m S) : Rn lay (d + 1) mM_undo [rf 16 m] μ (match S.2.1 with
    | [] => PM m (mI 2) (xNo S)
    | T :: hist => PM m (nI hist.length) (T, hist, S.2.2)) := by
  refine Rn_intro ok_M_undo hwf rfl (fun G hC => g_M_undo_0 hC ?_)
  obtain ⟨C, hi, c3⟩ := S
  have h8 := h.2.1.1
  have h12 := h.2.1.2.1
  have h8 : μ.1 m 8 = nI hi.length := h8
  have h12 : hi.length ≤ 12 := h12
  rw [h8, nx_0, nx_eq (by omega) (by omega)]
  cases hi with
  | nil => exact ⟨fun q => absurd rfl q, fun _ => useMNo hwf _ h⟩
  | cons T hist =>
    refine ⟨fun _ => ?_, fun q => absurd q (by simp)⟩
    refine useN (mBack_ok hwf _ (T := T) (hist := hist) h.2.1) (fun μ1 hp => ?_)
    obtain ⟨p1, p2, p3⟩ := hp
    have e1 := p3.1 (m + 1) (by omega) (by simp)
    obtain ⟨a, b, c, e, f, g⟩ := h
    exact ⟨_, rfl, p2.1, p1, p2, by rw [e1]; exact c, by rw [e1]; exact e, by rw [e1]; exact f, (b.2.2 0 T rfl).2, g.2.2 T (by simp), fun U hU => g.2.2 U (by simp [hU])⟩
end
