section
-- ===== PART A: goes FIRST, ahead of the names: the tables' words, and 'selects' of the private methods out of them =====
/-- a private method of a class that the tables say can be made, by its rows of tables_1 -/
def lw_okq (q : MethodName × Nat) : Prop := (q.1.cls ≠ "java/lang/invoke/MethodHandle" ∧ q.1.cls ≠ "java/lang/invoke/VarHandle") ∧ Cond.instantiable q.1.cls q.2 ∈ tables_1 ∧ Cond.privateMethod q.1 ∈ tables_1 ∧ Cond.instanceMethod q.1 ∈ tables_1
theorem lw_p0 : lw_okq (⟨"TieOffice", "settle", "()V"⟩, 12) := ⟨⟨by decide +kernel, by decide +kernel⟩, List.mem_of_getElem? (i := 16) (by decide +kernel), List.mem_of_getElem? (i := 360) (by decide +kernel), List.mem_of_getElem? (i := 361) (by decide +kernel)⟩
theorem lw_p1 : lw_okq (⟨"TieOffice$Flow", "enqueue", "(IIII)V"⟩, 15) := ⟨⟨by decide +kernel, by decide +kernel⟩, List.mem_of_getElem? (i := 104) (by decide +kernel), List.mem_of_getElem? (i := 372) (by decide +kernel), List.mem_of_getElem? (i := 373) (by decide +kernel)⟩
theorem lw_p2 : lw_okq (⟨"TieOffice$Flow", "growFrom", "(LTieOffice$Net;I)V"⟩, 15) := ⟨⟨by decide +kernel, by decide +kernel⟩, List.mem_of_getElem? (i := 104) (by decide +kernel), List.mem_of_getElem? (i := 376) (by decide +kernel), List.mem_of_getElem? (i := 377) (by decide +kernel)⟩
theorem lw_p3 : lw_okq (⟨"TieOffice$Flow", "spread", "(LTieOffice$Net;I)V"⟩, 15) := ⟨⟨by decide +kernel, by decide +kernel⟩, List.mem_of_getElem? (i := 104) (by decide +kernel), List.mem_of_getElem? (i := 380) (by decide +kernel), List.mem_of_getElem? (i := 381) (by decide +kernel)⟩
theorem lw_p4 : lw_okq (⟨"TieOffice$Flow", "carry", "(LTieOffice$Net;I)V"⟩, 15) := ⟨⟨by decide +kernel, by decide +kernel⟩, List.mem_of_getElem? (i := 104) (by decide +kernel), List.mem_of_getElem? (i := 388) (by decide +kernel), List.mem_of_getElem? (i := 389) (by decide +kernel)⟩
theorem lw_p5 : lw_okq (⟨"TieOffice$Flow", "weigh", "(LTieOffice$Net;)V"⟩, 15) := ⟨⟨by decide +kernel, by decide +kernel⟩, List.mem_of_getElem? (i := 104) (by decide +kernel), List.mem_of_getElem? (i := 398) (by decide +kernel), List.mem_of_getElem? (i := 399) (by decide +kernel)⟩
theorem lw_p6 : lw_okq (⟨"TieOffice$Flow", "lossOn", "(LTieOffice$Net;I)J"⟩, 15) := ⟨⟨by decide +kernel, by decide +kernel⟩, List.mem_of_getElem? (i := 104) (by decide +kernel), List.mem_of_getElem? (i := 402) (by decide +kernel), List.mem_of_getElem? (i := 403) (by decide +kernel)⟩
theorem lw_p7 : lw_okq (⟨"TieOffice", "refuse", "(I)I"⟩, 12) := ⟨⟨by decide +kernel, by decide +kernel⟩, List.mem_of_getElem? (i := 16) (by decide +kernel), List.mem_of_getElem? (i := 455) (by decide +kernel), List.mem_of_getElem? (i := 456) (by decide +kernel)⟩
theorem lw_p8 : lw_okq (⟨"TieOffice$Reader", "item", "()Z"⟩, 7) := ⟨⟨by decide +kernel, by decide +kernel⟩, List.mem_of_getElem? (i := 192) (by decide +kernel), List.mem_of_getElem? (i := 476) (by decide +kernel), List.mem_of_getElem? (i := 477) (by decide +kernel)⟩
theorem lw_p9 : lw_okq (⟨"TieOffice$Reader", "next", "()I"⟩, 7) := ⟨⟨by decide +kernel, by decide +kernel⟩, List.mem_of_getElem? (i := 192) (by decide +kernel), List.mem_of_getElem? (i := 480) (by decide +kernel), List.mem_of_getElem? (i := 481) (by decide +kernel)⟩
theorem lw_p10 : lw_okq (⟨"TieOffice$Reader", "lineItem", "(Z)Z"⟩, 7) := ⟨⟨by decide +kernel, by decide +kernel⟩, List.mem_of_getElem? (i := 192) (by decide +kernel), List.mem_of_getElem? (i := 484) (by decide +kernel), List.mem_of_getElem? (i := 485) (by decide +kernel)⟩
theorem lw_p11 : lw_okq (⟨"TieOffice$Reader", "figures", "(I)I"⟩, 7) := ⟨⟨by decide +kernel, by decide +kernel⟩, List.mem_of_getElem? (i := 192) (by decide +kernel), List.mem_of_getElem? (i := 496) (by decide +kernel), List.mem_of_getElem? (i := 497) (by decide +kernel)⟩
theorem lw_p12 : lw_okq (⟨"TieOffice$Reader", "skip", "(I)Z"⟩, 7) := ⟨⟨by decide +kernel, by decide +kernel⟩, List.mem_of_getElem? (i := 192) (by decide +kernel), List.mem_of_getElem? (i := 500) (by decide +kernel), List.mem_of_getElem? (i := 501) (by decide +kernel)⟩
theorem lw_p13 : lw_okq (⟨"TieOffice$Reader", "join", "(II)V"⟩, 7) := ⟨⟨by decide +kernel, by decide +kernel⟩, List.mem_of_getElem? (i := 192) (by decide +kernel), List.mem_of_getElem? (i := 504) (by decide +kernel), List.mem_of_getElem? (i := 505) (by decide +kernel)⟩
theorem lw_p14 : lw_okq (⟨"TieOffice$Reader", "placeItem", "(I)Z"⟩, 7) := ⟨⟨by decide +kernel, by decide +kernel⟩, List.mem_of_getElem? (i := 192) (by decide +kernel), List.mem_of_getElem? (i := 508) (by decide +kernel), List.mem_of_getElem? (i := 509) (by decide +kernel)⟩
theorem lw_p15 : lw_okq (⟨"TieOffice$Reader", "feederEnd", "(I)Z"⟩, 7) := ⟨⟨by decide +kernel, by decide +kernel⟩, List.mem_of_getElem? (i := 192) (by decide +kernel), List.mem_of_getElem? (i := 512) (by decide +kernel), List.mem_of_getElem? (i := 513) (by decide +kernel)⟩
def lw_privs_1 : List (MethodName × Nat) := [(⟨"TieOffice", "settle", "()V"⟩, 12), (⟨"TieOffice$Flow", "enqueue", "(IIII)V"⟩, 15), (⟨"TieOffice$Flow", "growFrom", "(LTieOffice$Net;I)V"⟩, 15), (⟨"TieOffice$Flow", "spread", "(LTieOffice$Net;I)V"⟩, 15), (⟨"TieOffice$Flow", "carry", "(LTieOffice$Net;I)V"⟩, 15), (⟨"TieOffice$Flow", "weigh", "(LTieOffice$Net;)V"⟩, 15), (⟨"TieOffice$Flow", "lossOn", "(LTieOffice$Net;I)J"⟩, 15), (⟨"TieOffice", "refuse", "(I)I"⟩, 12), (⟨"TieOffice$Reader", "item", "()Z"⟩, 7), (⟨"TieOffice$Reader", "next", "()I"⟩, 7), (⟨"TieOffice$Reader", "lineItem", "(Z)Z"⟩, 7), (⟨"TieOffice$Reader", "figures", "(I)I"⟩, 7), (⟨"TieOffice$Reader", "skip", "(I)Z"⟩, 7), (⟨"TieOffice$Reader", "join", "(II)V"⟩, 7), (⟨"TieOffice$Reader", "placeItem", "(I)Z"⟩, 7), (⟨"TieOffice$Reader", "feederEnd", "(I)Z"⟩, 7)]
theorem lw_r1 : ∀ q ∈ lw_privs_1, lw_okq q := List.forall_mem_cons.mpr ⟨lw_p0, List.forall_mem_cons.mpr ⟨lw_p1, List.forall_mem_cons.mpr ⟨lw_p2, List.forall_mem_cons.mpr ⟨lw_p3, List.forall_mem_cons.mpr ⟨lw_p4, List.forall_mem_cons.mpr ⟨lw_p5, List.forall_mem_cons.mpr ⟨lw_p6, List.forall_mem_cons.mpr ⟨lw_p7, List.forall_mem_cons.mpr ⟨lw_p8, List.forall_mem_cons.mpr ⟨lw_p9, List.forall_mem_cons.mpr ⟨lw_p10, List.forall_mem_cons.mpr ⟨lw_p11, List.forall_mem_cons.mpr ⟨lw_p12, List.forall_mem_cons.mpr ⟨lw_p13, List.forall_mem_cons.mpr ⟨lw_p14, List.forall_mem_cons.mpr ⟨lw_p15, fun _ h => absurd h List.not_mem_nil⟩⟩⟩⟩⟩⟩⟩⟩⟩⟩⟩⟩⟩⟩⟩⟩
theorem lw_p16 : lw_okq (⟨"TieOffice$Past", "dropOldest", "()V"⟩, 2) := ⟨⟨by decide +kernel, by decide +kernel⟩, List.mem_of_getElem? (i := 175) (by decide +kernel), List.mem_of_getElem? (i := 530) (by decide +kernel), List.mem_of_getElem? (i := 531) (by decide +kernel)⟩
theorem lw_p17 : lw_okq (⟨"TieOffice", "condition", "(I)I"⟩, 12) := ⟨⟨by decide +kernel, by decide +kernel⟩, List.mem_of_getElem? (i := 16) (by decide +kernel), List.mem_of_getElem? (i := 548) (by decide +kernel), List.mem_of_getElem? (i := 549) (by decide +kernel)⟩
theorem lw_p18 : lw_okq (⟨"TieOffice$Ring", "add", "(IILTieOffice$Flow;)V"⟩, 5) := ⟨⟨by decide +kernel, by decide +kernel⟩, List.mem_of_getElem? (i := 224) (by decide +kernel), List.mem_of_getElem? (i := 616) (by decide +kernel), List.mem_of_getElem? (i := 617) (by decide +kernel)⟩
theorem lw_p19 : lw_okq (⟨"TieOffice", "placeOnRing", "(II)I"⟩, 12) := ⟨⟨by decide +kernel, by decide +kernel⟩, List.mem_of_getElem? (i := 16) (by decide +kernel), List.mem_of_getElem? (i := 625) (by decide +kernel), List.mem_of_getElem? (i := 626) (by decide +kernel)⟩
theorem lw_p20 : lw_okq (⟨"TieOffice", "swap", "(II)V"⟩, 12) := ⟨⟨by decide +kernel, by decide +kernel⟩, List.mem_of_getElem? (i := 16) (by decide +kernel), List.mem_of_getElem? (i := 648) (by decide +kernel), List.mem_of_getElem? (i := 649) (by decide +kernel)⟩
theorem lw_p21 : lw_okq (⟨"TieOffice$Survey", "lookRound", "(LTieOffice$Net;I)V"⟩, 5) := ⟨⟨by decide +kernel, by decide +kernel⟩, List.mem_of_getElem? (i := 252) (by decide +kernel), List.mem_of_getElem? (i := 661) (by decide +kernel), List.mem_of_getElem? (i := 662) (by decide +kernel)⟩
theorem lw_p22 : lw_okq (⟨"TieOffice$Survey", "compare", "(IIJ)V"⟩, 5) := ⟨⟨by decide +kernel, by decide +kernel⟩, List.mem_of_getElem? (i := 252) (by decide +kernel), List.mem_of_getElem? (i := 667) (by decide +kernel), List.mem_of_getElem? (i := 668) (by decide +kernel)⟩
theorem lw_p23 : lw_okq (⟨"TieOffice$Search", "add", "(IJ)V"⟩, 9) := ⟨⟨by decide +kernel, by decide +kernel⟩, List.mem_of_getElem? (i := 279) (by decide +kernel), List.mem_of_getElem? (i := 690) (by decide +kernel), List.mem_of_getElem? (i := 691) (by decide +kernel)⟩
theorem lw_p24 : lw_okq (⟨"TieOffice$Search", "slotOf", "(I)I"⟩, 9) := ⟨⟨by decide +kernel, by decide +kernel⟩, List.mem_of_getElem? (i := 279) (by decide +kernel), List.mem_of_getElem? (i := 694) (by decide +kernel), List.mem_of_getElem? (i := 695) (by decide +kernel)⟩
theorem lw_p25 : lw_okq (⟨"TieOffice$Search", "leave", "(LTieOffice$Net;I)V"⟩, 9) := ⟨⟨by decide +kernel, by decide +kernel⟩, List.mem_of_getElem? (i := 279) (by decide +kernel), List.mem_of_getElem? (i := 699) (by decide +kernel), List.mem_of_getElem? (i := 700) (by decide +kernel)⟩
theorem lw_p26 : lw_okq (⟨"TieOffice$Search", "leaveRound", "(LTieOffice$Net;I)V"⟩, 9) := ⟨⟨by decide +kernel, by decide +kernel⟩, List.mem_of_getElem? (i := 279) (by decide +kernel), List.mem_of_getElem? (i := 705) (by decide +kernel), List.mem_of_getElem? (i := 706) (by decide +kernel)⟩
theorem lw_p27 : lw_okq (⟨"TieOffice$Relight", "gather", "(LTieOffice$Net;LTieOffice$Flow;)Z"⟩, 9) := ⟨⟨by decide +kernel, by decide +kernel⟩, List.mem_of_getElem? (i := 321) (by decide +kernel), List.mem_of_getElem? (i := 720) (by decide +kernel), List.mem_of_getElem? (i := 721) (by decide +kernel)⟩
theorem lw_p28 : lw_okq (⟨"TieOffice$Relight", "note", "(I)V"⟩, 9) := ⟨⟨by decide +kernel, by decide +kernel⟩, List.mem_of_getElem? (i := 321) (by decide +kernel), List.mem_of_getElem? (i := 727) (by decide +kernel), List.mem_of_getElem? (i := 728) (by decide +kernel)⟩
theorem lw_p29 : lw_okq (⟨"TieOffice$Relight", "isSound", "(I)Z"⟩, 9) := ⟨⟨by decide +kernel, by decide +kernel⟩, List.mem_of_getElem? (i := 321) (by decide +kernel), List.mem_of_getElem? (i := 731) (by decide +kernel), List.mem_of_getElem? (i := 732) (by decide +kernel)⟩
theorem lw_p30 : lw_okq (⟨"TieOffice$Relight", "tryOut", "(LTieOffice$Net;LTieOffice$Flow;I)V"⟩, 9) := ⟨⟨by decide +kernel, by decide +kernel⟩, List.mem_of_getElem? (i := 321) (by decide +kernel), List.mem_of_getElem? (i := 735) (by decide +kernel), List.mem_of_getElem? (i := 736) (by decide +kernel)⟩
theorem lw_p31 : lw_okq (⟨"TieOffice$Relight", "linesOf", "(I)I"⟩, 9) := ⟨⟨by decide +kernel, by decide +kernel⟩, List.mem_of_getElem? (i := 321) (by decide +kernel), List.mem_of_getElem? (i := 739) (by decide +kernel), List.mem_of_getElem? (i := 740) (by decide +kernel)⟩
def lw_privs_2 : List (MethodName × Nat) := [(⟨"TieOffice$Past", "dropOldest", "()V"⟩, 2), (⟨"TieOffice", "condition", "(I)I"⟩, 12), (⟨"TieOffice$Ring", "add", "(IILTieOffice$Flow;)V"⟩, 5), (⟨"TieOffice", "placeOnRing", "(II)I"⟩, 12), (⟨"TieOffice", "swap", "(II)V"⟩, 12), (⟨"TieOffice$Survey", "lookRound", "(LTieOffice$Net;I)V"⟩, 5), (⟨"TieOffice$Survey", "compare", "(IIJ)V"⟩, 5), (⟨"TieOffice$Search", "add", "(IJ)V"⟩, 9), (⟨"TieOffice$Search", "slotOf", "(I)I"⟩, 9), (⟨"TieOffice$Search", "leave", "(LTieOffice$Net;I)V"⟩, 9), (⟨"TieOffice$Search", "leaveRound", "(LTieOffice$Net;I)V"⟩, 9), (⟨"TieOffice$Relight", "gather", "(LTieOffice$Net;LTieOffice$Flow;)Z"⟩, 9), (⟨"TieOffice$Relight", "note", "(I)V"⟩, 9), (⟨"TieOffice$Relight", "isSound", "(I)Z"⟩, 9), (⟨"TieOffice$Relight", "tryOut", "(LTieOffice$Net;LTieOffice$Flow;I)V"⟩, 9), (⟨"TieOffice$Relight", "linesOf", "(I)I"⟩, 9)]
theorem lw_r2 : ∀ q ∈ lw_privs_2, lw_okq q := List.forall_mem_cons.mpr ⟨lw_p16, List.forall_mem_cons.mpr ⟨lw_p17, List.forall_mem_cons.mpr ⟨lw_p18, List.forall_mem_cons.mpr ⟨lw_p19, List.forall_mem_cons.mpr ⟨lw_p20, List.forall_mem_cons.mpr ⟨lw_p21, List.forall_mem_cons.mpr ⟨lw_p22, List.forall_mem_cons.mpr ⟨lw_p23, List.forall_mem_cons.mpr ⟨lw_p24, List.forall_mem_cons.mpr ⟨lw_p25, List.forall_mem_cons.mpr ⟨lw_p26, List.forall_mem_cons.mpr ⟨lw_p27, List.forall_mem_cons.mpr ⟨lw_p28, List.forall_mem_cons.mpr ⟨lw_p29, List.forall_mem_cons.mpr ⟨lw_p30, List.forall_mem_cons.mpr ⟨lw_p31, fun _ h => absurd h List.not_mem_nil⟩⟩⟩⟩⟩⟩⟩⟩⟩⟩⟩⟩⟩⟩⟩⟩
theorem lw_p32 : lw_okq (⟨"TieOffice$Relight", "lowestAtLight", "(LTieOffice$Net;I)I"⟩, 9) := ⟨⟨by decide +kernel, by decide +kernel⟩, List.mem_of_getElem? (i := 321) (by decide +kernel), List.mem_of_getElem? (i := 750) (by decide +kernel), List.mem_of_getElem? (i := 751) (by decide +kernel)⟩
theorem lw_p33 : lw_okq (⟨"TieOfficeModel", "lays", "()V"⟩, 56) := ⟨⟨by decide +kernel, by decide +kernel⟩, List.mem_of_getElem? (i := 797) (by decide +kernel), List.mem_of_getElem? (i := 803) (by decide +kernel), List.mem_of_getElem? (i := 804) (by decide +kernel)⟩
theorem lw_p34 : lw_okq (⟨"TieOfficeModel", "other", "(II)I"⟩, 56) := ⟨⟨by decide +kernel, by decide +kernel⟩, List.mem_of_getElem? (i := 797) (by decide +kernel), List.mem_of_getElem? (i := 807) (by decide +kernel), List.mem_of_getElem? (i := 808) (by decide +kernel)⟩
theorem lw_p35 : lw_okq (⟨"TieOfficeModel", "refuses", "(I)I"⟩, 56) := ⟨⟨by decide +kernel, by decide +kernel⟩, List.mem_of_getElem? (i := 797) (by decide +kernel), List.mem_of_getElem? (i := 987) (by decide +kernel), List.mem_of_getElem? (i := 988) (by decide +kernel)⟩
theorem lw_p36 : lw_okq (⟨"TieOfficeModel", "readsAll", "()V"⟩, 56) := ⟨⟨by decide +kernel, by decide +kernel⟩, List.mem_of_getElem? (i := 797) (by decide +kernel), List.mem_of_getElem? (i := 999) (by decide +kernel), List.mem_of_getElem? (i := 1000) (by decide +kernel)⟩
theorem lw_p37 : lw_okq (⟨"TieOfficeModel", "byteAt", "(I)I"⟩, 56) := ⟨⟨by decide +kernel, by decide +kernel⟩, List.mem_of_getElem? (i := 797) (by decide +kernel), List.mem_of_getElem? (i := 1003) (by decide +kernel), List.mem_of_getElem? (i := 1004) (by decide +kernel)⟩
theorem lw_p38 : lw_okq (⟨"TieOfficeModel", "newLine", "()V"⟩, 56) := ⟨⟨by decide +kernel, by decide +kernel⟩, List.mem_of_getElem? (i := 797) (by decide +kernel), List.mem_of_getElem? (i := 1007) (by decide +kernel), List.mem_of_getElem? (i := 1008) (by decide +kernel)⟩
theorem lw_p39 : lw_okq (⟨"TieOfficeModel", "stands", "(Z)Z"⟩, 56) := ⟨⟨by decide +kernel, by decide +kernel⟩, List.mem_of_getElem? (i := 797) (by decide +kernel), List.mem_of_getElem? (i := 1011) (by decide +kernel), List.mem_of_getElem? (i := 1012) (by decide +kernel)⟩
theorem lw_p40 : lw_okq (⟨"TieOfficeModel", "isNewPlace", "(I)Z"⟩, 56) := ⟨⟨by decide +kernel, by decide +kernel⟩, List.mem_of_getElem? (i := 797) (by decide +kernel), List.mem_of_getElem? (i := 1015) (by decide +kernel), List.mem_of_getElem? (i := 1016) (by decide +kernel)⟩
theorem lw_p41 : lw_okq (⟨"TieOfficeModel", "isNewLine", "(II)Z"⟩, 56) := ⟨⟨by decide +kernel, by decide +kernel⟩, List.mem_of_getElem? (i := 797) (by decide +kernel), List.mem_of_getElem? (i := 1019) (by decide +kernel), List.mem_of_getElem? (i := 1020) (by decide +kernel)⟩
theorem lw_p42 : lw_okq (⟨"TieOfficeModel", "number", "(I)I"⟩, 56) := ⟨⟨by decide +kernel, by decide +kernel⟩, List.mem_of_getElem? (i := 797) (by decide +kernel), List.mem_of_getElem? (i := 1023) (by decide +kernel), List.mem_of_getElem? (i := 1024) (by decide +kernel)⟩
theorem lw_p43 : lw_okq (⟨"TieOfficeModel", "isFigure", "(I)Z"⟩, 56) := ⟨⟨by decide +kernel, by decide +kernel⟩, List.mem_of_getElem? (i := 797) (by decide +kernel), List.mem_of_getElem? (i := 1027) (by decide +kernel), List.mem_of_getElem? (i := 1028) (by decide +kernel)⟩
theorem lw_p44 : lw_okq (⟨"TieOfficeModel", "place", "()V"⟩, 56) := ⟨⟨by decide +kernel, by decide +kernel⟩, List.mem_of_getElem? (i := 797) (by decide +kernel), List.mem_of_getElem? (i := 1031) (by decide +kernel), List.mem_of_getElem? (i := 1032) (by decide +kernel)⟩
theorem lw_p45 : lw_okq (⟨"TieOfficeModel", "firstRing", "()I"⟩, 56) := ⟨⟨by decide +kernel, by decide +kernel⟩, List.mem_of_getElem? (i := 797) (by decide +kernel), List.mem_of_getElem? (i := 1035) (by decide +kernel), List.mem_of_getElem? (i := 1036) (by decide +kernel)⟩
theorem lw_p46 : lw_okq (⟨"TieOfficeModel", "rootOf", "(I)I"⟩, 56) := ⟨⟨by decide +kernel, by decide +kernel⟩, List.mem_of_getElem? (i := 797) (by decide +kernel), List.mem_of_getElem? (i := 1039) (by decide +kernel), List.mem_of_getElem? (i := 1040) (by decide +kernel)⟩
theorem lw_p47 : lw_okq (⟨"TieOfficeModel", "notes", "()V"⟩, 56) := ⟨⟨by decide +kernel, by decide +kernel⟩, List.mem_of_getElem? (i := 797) (by decide +kernel), List.mem_of_getElem? (i := 1043) (by decide +kernel), List.mem_of_getElem? (i := 1044) (by decide +kernel)⟩
def lw_privs_3 : List (MethodName × Nat) := [(⟨"TieOffice$Relight", "lowestAtLight", "(LTieOffice$Net;I)I"⟩, 9), (⟨"TieOfficeModel", "lays", "()V"⟩, 56), (⟨"TieOfficeModel", "other", "(II)I"⟩, 56), (⟨"TieOfficeModel", "refuses", "(I)I"⟩, 56), (⟨"TieOfficeModel", "readsAll", "()V"⟩, 56), (⟨"TieOfficeModel", "byteAt", "(I)I"⟩, 56), (⟨"TieOfficeModel", "newLine", "()V"⟩, 56), (⟨"TieOfficeModel", "stands", "(Z)Z"⟩, 56), (⟨"TieOfficeModel", "isNewPlace", "(I)Z"⟩, 56), (⟨"TieOfficeModel", "isNewLine", "(II)Z"⟩, 56), (⟨"TieOfficeModel", "number", "(I)I"⟩, 56), (⟨"TieOfficeModel", "isFigure", "(I)Z"⟩, 56), (⟨"TieOfficeModel", "place", "()V"⟩, 56), (⟨"TieOfficeModel", "firstRing", "()I"⟩, 56), (⟨"TieOfficeModel", "rootOf", "(I)I"⟩, 56), (⟨"TieOfficeModel", "notes", "()V"⟩, 56)]
theorem lw_r3 : ∀ q ∈ lw_privs_3, lw_okq q := List.forall_mem_cons.mpr ⟨lw_p32, List.forall_mem_cons.mpr ⟨lw_p33, List.forall_mem_cons.mpr ⟨lw_p34, List.forall_mem_cons.mpr ⟨lw_p35, List.forall_mem_cons.mpr ⟨lw_p36, List.forall_mem_cons.mpr ⟨lw_p37, List.forall_mem_cons.mpr ⟨lw_p38, List.forall_mem_cons.mpr ⟨lw_p39, List.forall_mem_cons.mpr ⟨lw_p40, List.forall_mem_cons.mpr ⟨lw_p41, List.forall_mem_cons.mpr ⟨lw_p42, List.forall_mem_cons.mpr ⟨lw_p43, List.forall_mem_cons.mpr ⟨lw_p44, List.forall_mem_cons.mpr ⟨lw_p45, List.forall_mem_cons.mpr ⟨lw_p46, List.forall_mem_cons.mpr ⟨lw_p47, fun _ h => absurd h List.not_mem_nil⟩⟩⟩⟩⟩⟩⟩⟩⟩⟩⟩⟩⟩⟩⟩⟩
theorem lw_p48 : lw_okq (⟨"TieOfficeModel", "writes", "(I)V"⟩, 56) := ⟨⟨by decide +kernel, by decide +kernel⟩, List.mem_of_getElem? (i := 797) (by decide +kernel), List.mem_of_getElem? (i := 1047) (by decide +kernel), List.mem_of_getElem? (i := 1048) (by decide +kernel)⟩
theorem lw_p49 : lw_okq (⟨"TieOfficeModel", "isLine", "(I)Z"⟩, 56) := ⟨⟨by decide +kernel, by decide +kernel⟩, List.mem_of_getElem? (i := 797) (by decide +kernel), List.mem_of_getElem? (i := 1059) (by decide +kernel), List.mem_of_getElem? (i := 1060) (by decide +kernel)⟩
theorem lw_p50 : lw_okq (⟨"TieOfficeModel", "isPlace", "(I)Z"⟩, 56) := ⟨⟨by decide +kernel, by decide +kernel⟩, List.mem_of_getElem? (i := 797) (by decide +kernel), List.mem_of_getElem? (i := 1067) (by decide +kernel), List.mem_of_getElem? (i := 1068) (by decide +kernel)⟩
theorem lw_p51 : lw_okq (⟨"TieOfficeModel", "overs", "()I"⟩, 56) := ⟨⟨by decide +kernel, by decide +kernel⟩, List.mem_of_getElem? (i := 797) (by decide +kernel), List.mem_of_getElem? (i := 1079) (by decide +kernel), List.mem_of_getElem? (i := 1080) (by decide +kernel)⟩
theorem lw_p52 : lw_okq (⟨"TieOfficeModel", "isTie", "(I)Z"⟩, 56) := ⟨⟨by decide +kernel, by decide +kernel⟩, List.mem_of_getElem? (i := 797) (by decide +kernel), List.mem_of_getElem? (i := 1087) (by decide +kernel), List.mem_of_getElem? (i := 1088) (by decide +kernel)⟩
theorem lw_p53 : lw_okq (⟨"TieOfficeModel", "lit", "()I"⟩, 56) := ⟨⟨by decide +kernel, by decide +kernel⟩, List.mem_of_getElem? (i := 797) (by decide +kernel), List.mem_of_getElem? (i := 1091) (by decide +kernel), List.mem_of_getElem? (i := 1092) (by decide +kernel)⟩
theorem lw_p54 : lw_okq (⟨"TieOfficeModel", "isRadial", "()Z"⟩, 56) := ⟨⟨by decide +kernel, by decide +kernel⟩, List.mem_of_getElem? (i := 797) (by decide +kernel), List.mem_of_getElem? (i := 1095) (by decide +kernel), List.mem_of_getElem? (i := 1096) (by decide +kernel)⟩
theorem lw_p55 : lw_okq (⟨"TieOfficeModel", "turnsOff", "(II)I"⟩, 56) := ⟨⟨by decide +kernel, by decide +kernel⟩, List.mem_of_getElem? (i := 797) (by decide +kernel), List.mem_of_getElem? (i := 1103) (by decide +kernel), List.mem_of_getElem? (i := 1104) (by decide +kernel)⟩
theorem lw_p56 : lw_okq (⟨"TieOfficeModel", "manyOf", "(I)I"⟩, 56) := ⟨⟨by decide +kernel, by decide +kernel⟩, List.mem_of_getElem? (i := 797) (by decide +kernel), List.mem_of_getElem? (i := 1115) (by decide +kernel), List.mem_of_getElem? (i := 1116) (by decide +kernel)⟩
theorem lw_p57 : lw_okq (⟨"TieOfficeModel", "rings", "(I)V"⟩, 56) := ⟨⟨by decide +kernel, by decide +kernel⟩, List.mem_of_getElem? (i := 797) (by decide +kernel), List.mem_of_getElem? (i := 1123) (by decide +kernel), List.mem_of_getElem? (i := 1124) (by decide +kernel)⟩
theorem lw_p58 : lw_okq (⟨"TieOfficeModel", "merged", "(I)I"⟩, 56) := ⟨⟨by decide +kernel, by decide +kernel⟩, List.mem_of_getElem? (i := 797) (by decide +kernel), List.mem_of_getElem? (i := 1127) (by decide +kernel), List.mem_of_getElem? (i := 1128) (by decide +kernel)⟩
theorem lw_p59 : lw_okq (⟨"TieOfficeModel", "isOfRing", "(I)Z"⟩, 56) := ⟨⟨by decide +kernel, by decide +kernel⟩, List.mem_of_getElem? (i := 797) (by decide +kernel), List.mem_of_getElem? (i := 1135) (by decide +kernel), List.mem_of_getElem? (i := 1136) (by decide +kernel)⟩
theorem lw_p60 : lw_okq (⟨"TieOfficeModel", "loss", "()J"⟩, 56) := ⟨⟨by decide +kernel, by decide +kernel⟩, List.mem_of_getElem? (i := 797) (by decide +kernel), List.mem_of_getElem? (i := 1139) (by decide +kernel), List.mem_of_getElem? (i := 1140) (by decide +kernel)⟩
theorem lw_p61 : lw_okq (⟨"TieOfficeModel", "lossOf", "(I)J"⟩, 56) := ⟨⟨by decide +kernel, by decide +kernel⟩, List.mem_of_getElem? (i := 797) (by decide +kernel), List.mem_of_getElem? (i := 1143) (by decide +kernel), List.mem_of_getElem? (i := 1144) (by decide +kernel)⟩
theorem lw_p62 : lw_okq (⟨"TieOfficeModel", "tries", "(II)V"⟩, 56) := ⟨⟨by decide +kernel, by decide +kernel⟩, List.mem_of_getElem? (i := 797) (by decide +kernel), List.mem_of_getElem? (i := 1147) (by decide +kernel), List.mem_of_getElem? (i := 1148) (by decide +kernel)⟩
theorem lw_p63 : lw_okq (⟨"TieOfficeModel", "looks", "()V"⟩, 56) := ⟨⟨by decide +kernel, by decide +kernel⟩, List.mem_of_getElem? (i := 797) (by decide +kernel), List.mem_of_getElem? (i := 1155) (by decide +kernel), List.mem_of_getElem? (i := 1156) (by decide +kernel)⟩
def lw_privs_4 : List (MethodName × Nat) := [(⟨"TieOfficeModel", "writes", "(I)V"⟩, 56), (⟨"TieOfficeModel", "isLine", "(I)Z"⟩, 56), (⟨"TieOfficeModel", "isPlace", "(I)Z"⟩, 56), (⟨"TieOfficeModel", "overs", "()I"⟩, 56), (⟨"TieOfficeModel", "isTie", "(I)Z"⟩, 56), (⟨"TieOfficeModel", "lit", "()I"⟩, 56), (⟨"TieOfficeModel", "isRadial", "()Z"⟩, 56), (⟨"TieOfficeModel", "turnsOff", "(II)I"⟩, 56), (⟨"TieOfficeModel", "manyOf", "(I)I"⟩, 56), (⟨"TieOfficeModel", "rings", "(I)V"⟩, 56), (⟨"TieOfficeModel", "merged", "(I)I"⟩, 56), (⟨"TieOfficeModel", "isOfRing", "(I)Z"⟩, 56), (⟨"TieOfficeModel", "loss", "()J"⟩, 56), (⟨"TieOfficeModel", "lossOf", "(I)J"⟩, 56), (⟨"TieOfficeModel", "tries", "(II)V"⟩, 56), (⟨"TieOfficeModel", "looks", "()V"⟩, 56)]
theorem lw_r4 : ∀ q ∈ lw_privs_4, lw_okq q := List.forall_mem_cons.mpr ⟨lw_p48, List.forall_mem_cons.mpr ⟨lw_p49, List.forall_mem_cons.mpr ⟨lw_p50, List.forall_mem_cons.mpr ⟨lw_p51, List.forall_mem_cons.mpr ⟨lw_p52, List.forall_mem_cons.mpr ⟨lw_p53, List.forall_mem_cons.mpr ⟨lw_p54, List.forall_mem_cons.mpr ⟨lw_p55, List.forall_mem_cons.mpr ⟨lw_p56, List.forall_mem_cons.mpr ⟨lw_p57, List.forall_mem_cons.mpr ⟨lw_p58, List.forall_mem_cons.mpr ⟨lw_p59, List.forall_mem_cons.mpr ⟨lw_p60, List.forall_mem_cons.mpr ⟨lw_p61, List.forall_mem_cons.mpr ⟨lw_p62, List.forall_mem_cons.mpr ⟨lw_p63, fun _ h => absurd h List.not_mem_nil⟩⟩⟩⟩⟩⟩⟩⟩⟩⟩⟩⟩⟩⟩⟩⟩
theorem lw_p64 : lw_okq (⟨"TieOfficeModel", "shapeNow", "()I"⟩, 56) := ⟨⟨by decide +kernel, by decide +kernel⟩, List.mem_of_getElem? (i := 797) (by decide +kernel), List.mem_of_getElem? (i := 1171) (by decide +kernel), List.mem_of_getElem? (i := 1172) (by decide +kernel)⟩
theorem lw_p65 : lw_okq (⟨"TieOfficeModel", "meets", "(II)V"⟩, 56) := ⟨⟨by decide +kernel, by decide +kernel⟩, List.mem_of_getElem? (i := 797) (by decide +kernel), List.mem_of_getElem? (i := 1175) (by decide +kernel), List.mem_of_getElem? (i := 1176) (by decide +kernel)⟩
theorem lw_p66 : lw_okq (⟨"TieOfficeModel", "goesOnFrom", "(I)V"⟩, 56) := ⟨⟨by decide +kernel, by decide +kernel⟩, List.mem_of_getElem? (i := 797) (by decide +kernel), List.mem_of_getElem? (i := 1179) (by decide +kernel), List.mem_of_getElem? (i := 1180) (by decide +kernel)⟩
theorem lw_p67 : lw_okq (⟨"TieOfficeModel", "becomes", "(I)V"⟩, 56) := ⟨⟨by decide +kernel, by decide +kernel⟩, List.mem_of_getElem? (i := 797) (by decide +kernel), List.mem_of_getElem? (i := 1183) (by decide +kernel), List.mem_of_getElem? (i := 1184) (by decide +kernel)⟩
theorem lw_p68 : lw_okq (⟨"TieOfficeModel", "findsCandidates", "()V"⟩, 56) := ⟨⟨by decide +kernel, by decide +kernel⟩, List.mem_of_getElem? (i := 797) (by decide +kernel), List.mem_of_getElem? (i := 1192) (by decide +kernel), List.mem_of_getElem? (i := 1193) (by decide +kernel)⟩
theorem lw_p69 : lw_okq (⟨"TieOfficeModel", "seeks", "()V"⟩, 56) := ⟨⟨by decide +kernel, by decide +kernel⟩, List.mem_of_getElem? (i := 797) (by decide +kernel), List.mem_of_getElem? (i := 1196) (by decide +kernel), List.mem_of_getElem? (i := 1197) (by decide +kernel)⟩
theorem lw_p70 : lw_okq (⟨"TieOfficeModel", "orderOf", "(I)I"⟩, 56) := ⟨⟨by decide +kernel, by decide +kernel⟩, List.mem_of_getElem? (i := 797) (by decide +kernel), List.mem_of_getElem? (i := 1200) (by decide +kernel), List.mem_of_getElem? (i := 1201) (by decide +kernel)⟩
theorem lw_p71 : lw_okq (⟨"TieOfficeModel", "allOf", "(I)J"⟩, 56) := ⟨⟨by decide +kernel, by decide +kernel⟩, List.mem_of_getElem? (i := 797) (by decide +kernel), List.mem_of_getElem? (i := 1212) (by decide +kernel), List.mem_of_getElem? (i := 1213) (by decide +kernel)⟩
theorem lw_p72 : lw_okq (⟨"TieOfficeModel", "darkOf", "(I)I"⟩, 56) := ⟨⟨by decide +kernel, by decide +kernel⟩, List.mem_of_getElem? (i := 797) (by decide +kernel), List.mem_of_getElem? (i := 1216) (by decide +kernel), List.mem_of_getElem? (i := 1217) (by decide +kernel)⟩
theorem lw_p73 : lw_okq (⟨"TieOfficeModel", "mostFeeder", "()I"⟩, 56) := ⟨⟨by decide +kernel, by decide +kernel⟩, List.mem_of_getElem? (i := 797) (by decide +kernel), List.mem_of_getElem? (i := 1220) (by decide +kernel), List.mem_of_getElem? (i := 1221) (by decide +kernel)⟩
theorem lw_p74 : lw_okq (⟨"TieOfficeModel", "toldOf", "(I)I"⟩, 56) := ⟨⟨by decide +kernel, by decide +kernel⟩, List.mem_of_getElem? (i := 797) (by decide +kernel), List.mem_of_getElem? (i := 1228) (by decide +kernel), List.mem_of_getElem? (i := 1229) (by decide +kernel)⟩
def lw_privs_5 : List (MethodName × Nat) := [(⟨"TieOfficeModel", "shapeNow", "()I"⟩, 56), (⟨"TieOfficeModel", "meets", "(II)V"⟩, 56), (⟨"TieOfficeModel", "goesOnFrom", "(I)V"⟩, 56), (⟨"TieOfficeModel", "becomes", "(I)V"⟩, 56), (⟨"TieOfficeModel", "findsCandidates", "()V"⟩, 56), (⟨"TieOfficeModel", "seeks", "()V"⟩, 56), (⟨"TieOfficeModel", "orderOf", "(I)I"⟩, 56), (⟨"TieOfficeModel", "allOf", "(I)J"⟩, 56), (⟨"TieOfficeModel", "darkOf", "(I)I"⟩, 56), (⟨"TieOfficeModel", "mostFeeder", "()I"⟩, 56), (⟨"TieOfficeModel", "toldOf", "(I)I"⟩, 56)]
theorem lw_r5 : ∀ q ∈ lw_privs_5, lw_okq q := List.forall_mem_cons.mpr ⟨lw_p64, List.forall_mem_cons.mpr ⟨lw_p65, List.forall_mem_cons.mpr ⟨lw_p66, List.forall_mem_cons.mpr ⟨lw_p67, List.forall_mem_cons.mpr ⟨lw_p68, List.forall_mem_cons.mpr ⟨lw_p69, List.forall_mem_cons.mpr ⟨lw_p70, List.forall_mem_cons.mpr ⟨lw_p71, List.forall_mem_cons.mpr ⟨lw_p72, List.forall_mem_cons.mpr ⟨lw_p73, List.forall_mem_cons.mpr ⟨lw_p74, fun _ h => absurd h List.not_mem_nil⟩⟩⟩⟩⟩⟩⟩⟩⟩⟩⟩
def lw_privs : List (MethodName × Nat) := lw_privs_1 ++ (lw_privs_2 ++ (lw_privs_3 ++ (lw_privs_4 ++ (lw_privs_5))))
def lw_tbl : List Cond := k2_sels lw_privs ++ tables_1
theorem lw_privs_ok : ∀ q ∈ lw_privs, lw_okq q := by
  show ∀ q ∈ lw_privs_1 ++ (lw_privs_2 ++ (lw_privs_3 ++ (lw_privs_4 ++ (lw_privs_5)))), lw_okq q
  exact List.forall_mem_append.mpr ⟨lw_r1, List.forall_mem_append.mpr ⟨lw_r2, List.forall_mem_append.mpr ⟨lw_r3, List.forall_mem_append.mpr ⟨lw_r4, lw_r5⟩⟩⟩⟩
end
section
def RX0 : String := "TieOffice$Flow"
def TX0 : u_T := fun k => match k with
  | 0 => ("TieOffice$Flow", "closed", "I", false)
  | 1 => ("TieOffice$Flow", "radial", "Z", false)
  | 2 => ("TieOffice$Flow", "lit", "I", false)
  | 3 => ("TieOffice$Flow", "over", "I", false)
  | 4 => ("TieOffice$Flow", "litLoad", "I", false)
  | 5 => ("TieOffice$Flow", "loss", "J", false)
  | 6 => ("TieOffice$Flow", "root", "[I", true)
  | 7 => ("TieOffice$Flow", "by", "[I", true)
  | 8 => ("TieOffice$Flow", "steps", "[I", true)
  | 9 => ("TieOffice$Flow", "below", "[I", true)
  | 10 => ("TieOffice$Flow", "onLine", "[I", true)
  | 11 => ("TieOffice$Flow", "nearer", "[I", true)
  | 12 => ("TieOffice$Flow", "queue", "[I", true)
  | 13 => ("TieOffice$Flow", "queued", "I", false)
  | _ => ("TieOffice$Flow", "seen", "I", false)
def tyX0 : Nat → FieldType := fun k => match k with
  | 0 => .int
  | 1 => .boolean
  | 2 => .int
  | 3 => .int
  | 4 => .int
  | 5 => .long
  | 6 => .array .int
  | 7 => .array .int
  | 8 => .array .int
  | 9 => .array .int
  | 10 => .array .int
  | 11 => .array .int
  | 12 => .array .int
  | 13 => .int
  | _ => .int
abbrev wsX00 : List Cond := u_ws RX0 TX0 15
theorem nmX0 : ∀ a, a < 15 → ∀ b, b < 15 → a ≠ b → (TX0 a).2.1 ≠ (TX0 b).2.1 := by decide +kernel
theorem tyX0_ok : ∀ k, k < 15 → parseFieldDescriptor (TX0 k).2.2.1 = some (tyX0 k) := by decide +kernel
def RX1 : String := "TieOffice$Net"
def TX1 : u_T := fun k => match k with
  | 0 => ("TieOffice$Net", "there", "I", false)
  | 1 => ("TieOffice$Net", "feeders", "I", false)
  | 2 => ("TieOffice$Net", "lines", "I", false)
  | 3 => ("TieOffice$Net", "closed", "I", false)
  | 4 => ("TieOffice$Net", "dead", "I", false)
  | 5 => ("TieOffice$Net", "loads", "[I", true)
  | 6 => ("TieOffice$Net", "first", "[I", true)
  | 7 => ("TieOffice$Net", "second", "[I", true)
  | 8 => ("TieOffice$Net", "resistance", "[I", true)
  | 9 => ("TieOffice$Net", "limit", "[I", true)
  | 10 => ("TieOffice$Net", "start", "[I", true)
  | _ => ("TieOffice$Net", "touching", "[I", true)
def tyX1 : Nat → FieldType := fun k => match k with
  | 0 => .int
  | 1 => .int
  | 2 => .int
  | 3 => .int
  | 4 => .int
  | 5 => .array .int
  | 6 => .array .int
  | 7 => .array .int
  | 8 => .array .int
  | 9 => .array .int
  | 10 => .array .int
  | _ => .array .int
abbrev wsX10 : List Cond := u_ws RX1 TX1 12
theorem nmX1 : ∀ a, a < 12 → ∀ b, b < 12 → a ≠ b → (TX1 a).2.1 ≠ (TX1 b).2.1 := by decide +kernel
theorem tyX1_ok : ∀ k, k < 12 → parseFieldDescriptor (TX1 k).2.2.1 = some (tyX1 k) := by decide +kernel
def RX2 : String := "TieOffice$Past"
def TX2 : u_T := fun k => match k with
  | 0 => ("TieOffice$Past", "kept", "[LTieOffice$Net;", true)
  | _ => ("TieOffice$Past", "count", "I", false)
def tyX2 : Nat → FieldType := fun k => match k with
  | 0 => .array (.object "TieOffice$Net")
  | _ => .int
abbrev wsX20 : List Cond := u_ws RX2 TX2 2
theorem nmX2 : ∀ a, a < 2 → ∀ b, b < 2 → a ≠ b → (TX2 a).2.1 ≠ (TX2 b).2.1 := by decide +kernel
theorem tyX2_ok : ∀ k, k < 2 → parseFieldDescriptor (TX2 k).2.2.1 = some (tyX2 k) := by decide +kernel
def RX3 : String := "TieOffice$Reader"
def TX3 : u_T := fun k => match k with
  | 0 => ("TieOffice$Reader", "fresh", "LTieOffice$Net;", true)
  | 1 => ("TieOffice$Reader", "items", "I", false)
  | 2 => ("TieOffice$Reader", "group", "[I", true)
  | 3 => ("TieOffice$Reader", "bytes", "[I", false)
  | 4 => ("TieOffice$Reader", "length", "I", false)
  | 5 => ("TieOffice$Reader", "at", "I", false)
  | _ => ("TieOffice$Reader", "ringAt", "I", false)
def tyX3 : Nat → FieldType := fun k => match k with
  | 0 => .object "TieOffice$Net"
  | 1 => .int
  | 2 => .array .int
  | 3 => .array .int
  | 4 => .int
  | 5 => .int
  | _ => .int
abbrev wsX30 : List Cond := u_ws RX3 TX3 7
theorem nmX3 : ∀ a, a < 7 → ∀ b, b < 7 → a ≠ b → (TX3 a).2.1 ≠ (TX3 b).2.1 := by decide +kernel
theorem tyX3_ok : ∀ k, k < 7 → parseFieldDescriptor (TX3 k).2.2.1 = some (tyX3 k) := by decide +kernel
def RX4 : String := "TieOffice$Relight"
def TX4 : u_T := fun k => match k with
  | 0 => ("TieOffice$Relight", "ties", "I", false)
  | 1 => ("TieOffice$Relight", "tieCount", "I", false)
  | 2 => ("TieOffice$Relight", "litLoad", "I", false)
  | 3 => ("TieOffice$Relight", "candidates", "[I", true)
  | 4 => ("TieOffice$Relight", "candidateCount", "I", false)
  | 5 => ("TieOffice$Relight", "sound", "[I", true)
  | 6 => ("TieOffice$Relight", "setFlow", "LTieOffice$Flow;", true)
  | 7 => ("TieOffice$Relight", "known", "Z", false)
  | _ => ("TieOffice$Relight", "spent", "Z", false)
def tyX4 : Nat → FieldType := fun k => match k with
  | 0 => .int
  | 1 => .int
  | 2 => .int
  | 3 => .array .int
  | 4 => .int
  | 5 => .array .int
  | 6 => .object "TieOffice$Flow"
  | 7 => .boolean
  | _ => .boolean
abbrev wsX40 : List Cond := u_ws RX4 TX4 9
theorem nmX4 : ∀ a, a < 9 → ∀ b, b < 9 → a ≠ b → (TX4 a).2.1 ≠ (TX4 b).2.1 := by decide +kernel
theorem tyX4_ok : ∀ k, k < 9 → parseFieldDescriptor (TX4 k).2.2.1 = some (tyX4 k) := by decide +kernel
def RX5 : String := "TieOffice$Ring"
def TX5 : u_T := fun k => match k with
  | 0 => ("TieOffice$Ring", "size", "I", false)
  | 1 => ("TieOffice$Ring", "lines", "[I", true)
  | 2 => ("TieOffice$Ring", "signed", "[I", true)
  | 3 => ("TieOffice$Ring", "secondSide", "[I", true)
  | _ => ("TieOffice$Ring", "tie", "I", false)
def tyX5 : Nat → FieldType := fun k => match k with
  | 0 => .int
  | 1 => .array .int
  | 2 => .array .int
  | 3 => .array .int
  | _ => .int
abbrev wsX50 : List Cond := u_ws RX5 TX5 5
theorem nmX5 : ∀ a, a < 5 → ∀ b, b < 5 → a ≠ b → (TX5 a).2.1 ≠ (TX5 b).2.1 := by decide +kernel
theorem tyX5_ok : ∀ k, k < 5 → parseFieldDescriptor (TX5 k).2.2.1 = some (tyX5 k) := by decide +kernel
def RX6 : String := "TieOffice$Search"
def TX6 : u_T := fun k => match k with
  | 0 => ("TieOffice$Search", "count", "I", false)
  | 1 => ("TieOffice$Search", "spent", "Z", false)
  | 2 => ("TieOffice$Search", "leastLoss", "J", false)
  | 3 => ("TieOffice$Search", "leastShape", "I", false)
  | 4 => ("TieOffice$Search", "shapes", "[I", true)
  | 5 => ("TieOffice$Search", "slots", "[I", true)
  | 6 => ("TieOffice$Search", "shapeFlow", "LTieOffice$Flow;", true)
  | 7 => ("TieOffice$Search", "ringOfTie", "LTieOffice$Ring;", true)
  | _ => ("TieOffice$Search", "known", "I", false)
def tyX6 : Nat → FieldType := fun k => match k with
  | 0 => .int
  | 1 => .boolean
  | 2 => .long
  | 3 => .int
  | 4 => .array .int
  | 5 => .array .int
  | 6 => .object "TieOffice$Flow"
  | 7 => .object "TieOffice$Ring"
  | _ => .int
abbrev wsX60 : List Cond := u_ws RX6 TX6 9
theorem nmX6 : ∀ a, a < 9 → ∀ b, b < 9 → a ≠ b → (TX6 a).2.1 ≠ (TX6 b).2.1 := by decide +kernel
theorem tyX6_ok : ∀ k, k < 9 → parseFieldDescriptor (TX6 k).2.2.1 = some (tyX6 k) := by decide +kernel
def RX7 : String := "TieOffice$Survey"
def TX7 : u_T := fun k => match k with
  | 0 => ("TieOffice$Survey", "helpful", "I", false)
  | 1 => ("TieOffice$Survey", "bestTie", "I", false)
  | 2 => ("TieOffice$Survey", "bestLine", "I", false)
  | 3 => ("TieOffice$Survey", "bestGain", "J", false)
  | _ => ("TieOffice$Survey", "ringOfTie", "LTieOffice$Ring;", true)
def tyX7 : Nat → FieldType := fun k => match k with
  | 0 => .int
  | 1 => .int
  | 2 => .int
  | 3 => .long
  | _ => .object "TieOffice$Ring"
abbrev wsX70 : List Cond := u_ws RX7 TX7 5
theorem nmX7 : ∀ a, a < 5 → ∀ b, b < 5 → a ≠ b → (TX7 a).2.1 ≠ (TX7 b).2.1 := by decide +kernel
theorem tyX7_ok : ∀ k, k < 5 → parseFieldDescriptor (TX7 k).2.2.1 = some (tyX7 k) := by decide +kernel
def RX8 : String := "TieOffice"
def TX8 : u_T := fun k => match k with
  | 0 => ("TieOffice", "refused", "[I", true)
  | 1 => ("TieOffice", "text", "[I", true)
  | 2 => ("TieOffice", "textLength", "I", false)
  | 3 => ("TieOffice", "net", "LTieOffice$Net;", true)
  | 4 => ("TieOffice", "flow", "LTieOffice$Flow;", true)
  | 5 => ("TieOffice", "trial", "LTieOffice$Flow;", true)
  | 6 => ("TieOffice", "past", "LTieOffice$Past;", true)
  | 7 => ("TieOffice", "reader", "LTieOffice$Reader;", true)
  | 8 => ("TieOffice", "tieRing", "LTieOffice$Ring;", true)
  | 9 => ("TieOffice", "survey", "LTieOffice$Survey;", true)
  | 10 => ("TieOffice", "search", "LTieOffice$Search;", true)
  | _ => ("TieOffice", "relight", "LTieOffice$Relight;", true)
def tyX8 : Nat → FieldType := fun k => match k with
  | 0 => .array .int
  | 1 => .array .int
  | 2 => .int
  | 3 => .object "TieOffice$Net"
  | 4 => .object "TieOffice$Flow"
  | 5 => .object "TieOffice$Flow"
  | 6 => .object "TieOffice$Past"
  | 7 => .object "TieOffice$Reader"
  | 8 => .object "TieOffice$Ring"
  | 9 => .object "TieOffice$Survey"
  | 10 => .object "TieOffice$Search"
  | _ => .object "TieOffice$Relight"
abbrev wsX80 : List Cond := u_ws RX8 TX8 12
theorem nmX8 : ∀ a, a < 12 → ∀ b, b < 12 → a ≠ b → (TX8 a).2.1 ≠ (TX8 b).2.1 := by decide +kernel
theorem tyX8_ok : ∀ k, k < 12 → parseFieldDescriptor (TX8 k).2.2.1 = some (tyX8 k) := by decide +kernel
def RX9 : String := "TieOfficeModel"
def TX9 : u_T := fun k => match k with
  | 0 => ("TieOfficeModel", "refused", "[I", true)
  | 1 => ("TieOfficeModel", "text", "[I", true)
  | 2 => ("TieOfficeModel", "typed", "I", false)
  | 3 => ("TieOfficeModel", "lines", "I", false)
  | 4 => ("TieOfficeModel", "kind", "[I", true)
  | 5 => ("TieOfficeModel", "load", "[I", true)
  | 6 => ("TieOfficeModel", "first", "[I", true)
  | 7 => ("TieOfficeModel", "second", "[I", true)
  | 8 => ("TieOfficeModel", "resistance", "[I", true)
  | 9 => ("TieOfficeModel", "limit", "[I", true)
  | 10 => ("TieOfficeModel", "is", "[I", true)
  | 11 => ("TieOfficeModel", "states", "I", false)
  | 12 => ("TieOfficeModel", "past", "[I", true)
  | 13 => ("TieOfficeModel", "at", "I", false)
  | 14 => ("TieOfficeModel", "fault", "I", false)
  | 15 => ("TieOfficeModel", "newLines", "I", false)
  | 16 => ("TieOfficeModel", "newFeeders", "I", false)
  | 17 => ("TieOfficeModel", "newItems", "I", false)
  | 18 => ("TieOfficeModel", "newKind", "[I", true)
  | 19 => ("TieOfficeModel", "newLoad", "[I", true)
  | 20 => ("TieOfficeModel", "newFirst", "[I", true)
  | 21 => ("TieOfficeModel", "newSecond", "[I", true)
  | 22 => ("TieOfficeModel", "newResistance", "[I", true)
  | 23 => ("TieOfficeModel", "newLimit", "[I", true)
  | 24 => ("TieOfficeModel", "newIs", "[I", true)
  | 25 => ("TieOfficeModel", "newSign", "[I", true)
  | 26 => ("TieOfficeModel", "feeder", "[I", true)
  | 27 => ("TieOfficeModel", "by", "[I", true)
  | 28 => ("TieOfficeModel", "deep", "[I", true)
  | 29 => ("TieOfficeModel", "below", "[I", true)
  | 30 => ("TieOfficeModel", "order", "[I", true)
  | 31 => ("TieOfficeModel", "ordered", "I", false)
  | 32 => ("TieOfficeModel", "flow", "[I", true)
  | 33 => ("TieOfficeModel", "nearer", "[I", true)
  | 34 => ("TieOfficeModel", "ringMany", "I", false)
  | 35 => ("TieOfficeModel", "ring", "[I", true)
  | 36 => ("TieOfficeModel", "queue", "[I", true)
  | 37 => ("TieOfficeModel", "came", "[I", true)
  | 38 => ("TieOfficeModel", "from", "[I", true)
  | 39 => ("TieOfficeModel", "root", "[I", true)
  | 40 => ("TieOfficeModel", "shapes", "I", false)
  | 41 => ("TieOfficeModel", "shape", "[I", true)
  | 42 => ("TieOfficeModel", "shapeOf", "[I", true)
  | 43 => ("TieOfficeModel", "ringOf", "[I", true)
  | 44 => ("TieOfficeModel", "kept", "[I", true)
  | 45 => ("TieOfficeModel", "bestTie", "I", false)
  | 46 => ("TieOfficeModel", "bestLine", "I", false)
  | 47 => ("TieOfficeModel", "bestGain", "J", false)
  | 48 => ("TieOfficeModel", "gains", "I", false)
  | 49 => ("TieOfficeModel", "cureSet", "I", false)
  | 50 => ("TieOfficeModel", "cureMany", "I", false)
  | 51 => ("TieOfficeModel", "cureLoad", "I", false)
  | 52 => ("TieOfficeModel", "candidate", "[I", true)
  | 53 => ("TieOfficeModel", "candidates", "I", false)
  | 54 => ("TieOfficeModel", "triedLoss", "J", false)
  | _ => ("TieOfficeModel", "triedOver", "I", false)
def tyX9 : Nat → FieldType := fun k => match k with
  | 0 => .array .int
  | 1 => .array .int
  | 2 => .int
  | 3 => .int
  | 4 => .array .int
  | 5 => .array .int
  | 6 => .array .int
  | 7 => .array .int
  | 8 => .array .int
  | 9 => .array .int
  | 10 => .array .int
  | 11 => .int
  | 12 => .array .int
  | 13 => .int
  | 14 => .int
  | 15 => .int
  | 16 => .int
  | 17 => .int
  | 18 => .array .int
  | 19 => .array .int
  | 20 => .array .int
  | 21 => .array .int
  | 22 => .array .int
  | 23 => .array .int
  | 24 => .array .int
  | 25 => .array .int
  | 26 => .array .int
  | 27 => .array .int
  | 28 => .array .int
  | 29 => .array .int
  | 30 => .array .int
  | 31 => .int
  | 32 => .array .int
  | 33 => .array .int
  | 34 => .int
  | 35 => .array .int
  | 36 => .array .int
  | 37 => .array .int
  | 38 => .array .int
  | 39 => .array .int
  | 40 => .int
  | 41 => .array .int
  | 42 => .array .int
  | 43 => .array .int
  | 44 => .array .int
  | 45 => .int
  | 46 => .int
  | 47 => .long
  | 48 => .int
  | 49 => .int
  | 50 => .int
  | 51 => .int
  | 52 => .array .int
  | 53 => .int
  | 54 => .long
  | _ => .int
abbrev wsX90 : List Cond := u_ws RX9 TX9 56
theorem nmX9 : ∀ a, a < 56 → ∀ b, b < 56 → a ≠ b → (TX9 a).2.1 ≠ (TX9 b).2.1 := by decide +kernel
theorem tyX9_ok : ∀ k, k < 56 → parseFieldDescriptor (TX9 k).2.2.1 = some (tyX9 k) := by decide +kernel
def RJ6 : String := "java/lang/Integer"
def RJ7 : String := "java/util/Arrays"
/-- the classes whose objects the world holds, by their numbers -/
abbrev zcls : List vw_C := [(RX0, TX0, 15), (RX1, TX1, 12), (RX2, TX2, 2), (RX3, TX3, 7), (RX4, TX4, 9), (RX5, TX5, 5), (RX6, TX6, 9), (RX7, TX7, 5), (RX8, TX8, 12), (RX9, TX9, 56)]
end
section
abbrev zI : Type := Nat × Nat × List Nat × Int
abbrev zno : zI := (99, 0, [], 0)
/-- the cells that the run makes, by their numbers: (0, n) an int array, (1, n) an array of nets, (2, c) an object of class c -/
def zKl : List (Nat × Nat) := [(9, 0), (2, 8), (0, 4), (0, 200), (2, 1), (0, 16), (0, 24), (0, 24), (0, 24), (0, 24), (0, 17), (0, 48), (2, 0), (0, 16), (0, 16), (0, 16), (0, 16), (0, 24), (0, 24), (0, 16), (2, 0), (0, 16), (0, 16), (0, 16), (0, 16), (0, 24), (0, 24), (0, 16), (2, 2), (1, 6), (2, 1), (0, 16), (0, 24), (0, 24), (0, 24), (0, 24), (0, 17), (0, 48), (2, 1), (0, 16), (0, 24), (0, 24), (0, 24), (0, 24), (0, 17), (0, 48), (2, 1), (0, 16), (0, 24), (0, 24), (0, 24), (0, 24), (0, 17), (0, 48), (2, 1), (0, 16), (0, 24), (0, 24), (0, 24), (0, 24), (0, 17), (0, 48), (2, 1), (0, 16), (0, 24), (0, 24), (0, 24), (0, 24), (0, 17), (0, 48), (2, 1), (0, 16), (0, 24), (0, 24), (0, 24), (0, 24), (0, 17), (0, 48), (2, 3), (2, 1), (0, 16), (0, 24), (0, 24), (0, 24), (0, 24), (0, 17), (0, 48), (0, 16), (2, 5), (0, 16), (0, 16), (0, 16), (2, 7), (2, 5), (0, 16), (0, 16), (0, 16), (2, 6), (0, 300), (0, 512), (2, 0), (0, 16), (0, 16), (0, 16), (0, 16), (0, 24), (0, 24), (0, 16), (2, 5), (0, 16), (0, 16), (0, 16), (2, 4), (0, 12), (0, 128), (2, 0), (0, 16), (0, 16), (0, 16), (0, 16), (0, 24), (0, 24), (0, 16), (2, 9), (0, 4), (0, 200), (0, 16), (0, 16), (0, 24), (0, 24), (0, 24), (0, 24), (0, 24), (0, 918), (0, 16), (0, 16), (0, 24), (0, 24), (0, 24), (0, 24), (0, 24), (0, 24), (0, 16), (0, 16), (0, 16), (0, 16), (0, 16), (0, 24), (0, 24), (0, 24), (0, 18), (0, 17), (0, 17), (0, 17), (0, 301), (0, 301), (0, 24), (0, 24), (0, 24)]
def zKT (a : Int) : Nat × Nat := match a with | .ofNat k => zKl.getD k (9, 0) | .negSucc _ => (9, 0)
def znf (c : Nat) : Nat := [15, 12, 2, 7, 9, 5, 9, 5, 12, 56].getD c 0
/-- a field's kind: 0 an int, 1 a long, 2 a reference -/
def zft (c j : Nat) : Nat := ([[0, 0, 0, 0, 0, 1, 2, 2, 2, 2, 2, 2, 2, 0, 0], [0, 0, 0, 0, 0, 2, 2, 2, 2, 2, 2, 2], [2, 0], [2, 0, 2, 2, 0, 0, 0], [0, 0, 0, 2, 0, 2, 2, 0, 0], [0, 2, 2, 2, 0], [0, 0, 1, 0, 2, 2, 2, 2, 0], [0, 0, 0, 1, 2], [2, 2, 0, 2, 2, 2, 2, 2, 2, 2, 2, 2], [2, 2, 0, 0, 2, 2, 2, 2, 2, 2, 2, 0, 2, 0, 0, 0, 0, 0, 2, 2, 2, 2, 2, 2, 2, 2, 2, 2, 2, 2, 2, 0, 2, 2, 0, 2, 2, 2, 2, 2, 0, 2, 2, 2, 2, 0, 0, 1, 0, 0, 0, 0, 2, 0, 1, 0]] : List (List Nat)).getD c [] |>.getD j 0
def zsz (q : Nat × Nat) : Nat := match q.1 with | 0 => q.2 | 1 => q.2 | 2 => znf q.2 | _ => 0
def zsl (n : Int) : Nat := ((zKl.take (n.toNat + 1)).map zsz).sum
/-- a method: its name; its bytes; places of its locals; what it returns -/
abbrev zMt : Type := MethodName × ByteArray × Nat × Option FieldType
def zms0 : List zMt := [
  (⟨RX0, "<init>", "()V"⟩, prog_2_method_1_code, 1, none),
  (⟨RX0, "work", "(LTieOffice$Net;I)V"⟩, prog_2_method_2_code, 5, none),
  (⟨RX0, "isLit", "(I)Z"⟩, prog_2_method_3_code, 2, some .boolean),
  (⟨RX0, "bearsBehind", "(LTieOffice$Flow;)Z"⟩, prog_2_method_4_code, 2, some .boolean),
  (⟨RX0, "areJoined", "(II)Z"⟩, prog_2_method_5_code, 3, some .boolean),
  (⟨RX0, "heaviestFeeder", "(LTieOffice$Net;)I"⟩, prog_2_method_6_code, 4, some .int),
  (⟨RX0, "lossUnder", "(LTieOffice$Net;I)J"⟩, prog_2_method_7_code, 7, some .long),
  (⟨RX0, "growFrom", "(LTieOffice$Net;I)V"⟩, prog_2_method_8_code, 4, none),
  (⟨RX0, "spread", "(LTieOffice$Net;I)V"⟩, prog_2_method_9_code, 6, none),
  (⟨RX0, "enqueue", "(IIII)V"⟩, prog_2_method_10_code, 5, none),
  (⟨RX0, "carry", "(LTieOffice$Net;I)V"⟩, prog_2_method_11_code, 7, none),
  (⟨RX0, "weigh", "(LTieOffice$Net;)V"⟩, prog_2_method_12_code, 3, none),
  (⟨RX0, "lossOn", "(LTieOffice$Net;I)J"⟩, prog_2_method_13_code, 3, some .long),
  (⟨RX1, "<init>", "()V"⟩, prog_3_method_1_code, 1, none),
  (⟨RX1, "wipe", "()V"⟩, prog_3_method_2_code, 1, none),
  (⟨RX1, "copyOf", "(LTieOffice$Net;)V"⟩, prog_3_method_3_code, 2, none),
  (⟨RX1, "listTouching", "()V"⟩, prog_3_method_4_code, 4, none),
  (⟨RX1, "hasPlace", "(I)Z"⟩, prog_3_method_5_code, 2, some .boolean),
  (⟨RX1, "hasLine", "(I)Z"⟩, prog_3_method_6_code, 2, some .boolean),
  (⟨RX1, "isFeeder", "(I)Z"⟩, prog_3_method_7_code, 2, some .boolean),
  (⟨RX1, "tiesOf", "(I)I"⟩, prog_3_method_8_code, 2, some .int),
  (⟨RX1, "isTie", "(II)Z"⟩, prog_3_method_9_code, 3, some .boolean),
  (⟨RX1, "otherEnd", "(II)I"⟩, prog_3_method_10_code, 3, some .int),
  (⟨RX1, "joining", "(II)I"⟩, prog_3_method_11_code, 4, some .int),
  (⟨RX1, "loadOf", "(I)I"⟩, prog_3_method_12_code, 4, some .int),
  (⟨RX2, "<init>", "()V"⟩, prog_4_method_1_code, 2, none),
  (⟨RX2, "keep", "(LTieOffice$Net;)V"⟩, prog_4_method_2_code, 3, none),
  (⟨RX2, "giveBack", "(LTieOffice$Net;)V"⟩, prog_4_method_3_code, 3, none),
  (⟨RX2, "dropOldest", "()V"⟩, prog_4_method_4_code, 3, none),
  (⟨RX3, "<init>", "()V"⟩, prog_5_method_1_code, 1, none),
  (⟨RX3, "parse", "([II)I"⟩, prog_5_method_2_code, 4, some .int),
  (⟨RX3, "item", "()Z"⟩, prog_5_method_3_code, 2, some .boolean),
  (⟨RX3, "placeItem", "(I)Z"⟩, prog_5_method_4_code, 3, some .boolean),
  (⟨RX3, "feederEnd", "(I)Z"⟩, prog_5_method_5_code, 2, some .boolean),
  (⟨RX3, "lineItem", "(Z)Z"⟩, prog_5_method_6_code, 8, some .boolean),
  (⟨RX3, "join", "(II)V"⟩, prog_5_method_7_code, 6, none),
  (⟨RX3, "figures", "(I)I"⟩, prog_5_method_8_code, 5, some .int),
  (⟨RX3, "skip", "(I)Z"⟩, prog_5_method_9_code, 2, some .boolean),
  (⟨RX3, "next", "()I"⟩, prog_5_method_10_code, 1, some .int),
  (⟨RX4, "<init>", "()V"⟩, prog_6_method_1_code, 1, none),
  (⟨RX4, "forget", "()V"⟩, prog_6_method_2_code, 1, none),
  (⟨RX4, "find", "(LTieOffice$Net;LTieOffice$Flow;)Z"⟩, prog_6_method_3_code, 4, some .boolean),
  (⟨RX4, "inOrder", "(LTieOffice$Net;I)I"⟩, prog_6_method_4_code, 7, some .int),
  (⟨RX4, "lowestAtLight", "(LTieOffice$Net;I)I"⟩, prog_6_method_5_code, 5, some .int),
  (⟨RX4, "gather", "(LTieOffice$Net;LTieOffice$Flow;)Z"⟩, prog_6_method_6_code, 5, some .boolean),
  (⟨RX4, "tryOut", "(LTieOffice$Net;LTieOffice$Flow;I)V"⟩, prog_6_method_7_code, 6, none),
  (⟨RX4, "linesOf", "(I)I"⟩, prog_6_method_8_code, 4, some .int),
  (⟨RX4, "note", "(I)V"⟩, prog_6_method_9_code, 3, none),
  (⟨RX4, "isSound", "(I)Z"⟩, prog_6_method_10_code, 3, some .boolean),
  (⟨RX5, "<init>", "()V"⟩, prog_7_method_1_code, 1, none),
  (⟨RX5, "find", "(LTieOffice$Net;LTieOffice$Flow;I)V"⟩, prog_7_method_2_code, 9, none),
  (⟨RX5, "whereIs", "(I)I"⟩, prog_7_method_3_code, 3, some .int),
  (⟨RX5, "gainAt", "(LTieOffice$Net;I)J"⟩, prog_7_method_4_code, 12, some .long),
  (⟨RX5, "bearsAt", "(LTieOffice$Net;I)Z"⟩, prog_7_method_5_code, 6, some .boolean),
  (⟨RX5, "meet", "(LTieOffice$Flow;II)Z"⟩, prog_7_method_6_code, 3, some .boolean),
  (⟨RX5, "add", "(IILTieOffice$Flow;)V"⟩, prog_7_method_7_code, 4, none),
  (⟨RX6, "<init>", "()V"⟩, prog_8_method_1_code, 1, none),
  (⟨RX6, "forget", "()V"⟩, prog_8_method_2_code, 1, none),
  (⟨RX6, "explore", "(LTieOffice$Net;I)V"⟩, prog_8_method_3_code, 7, none),
  (⟨RX6, "leave", "(LTieOffice$Net;I)V"⟩, prog_8_method_4_code, 4, none),
  (⟨RX6, "leaveRound", "(LTieOffice$Net;I)V"⟩, prog_8_method_5_code, 5, none),
  (⟨RX6, "add", "(IJ)V"⟩, prog_8_method_6_code, 4, none),
  (⟨RX6, "slotOf", "(I)I"⟩, prog_8_method_7_code, 5, some .int),
  (⟨RX7, "<init>", "()V"⟩, prog_9_method_1_code, 1, none),
  (⟨RX7, "look", "(LTieOffice$Net;LTieOffice$Flow;)V"⟩, prog_9_method_2_code, 4, none),
  (⟨RX7, "lookRound", "(LTieOffice$Net;I)V"⟩, prog_9_method_3_code, 6, none),
  (⟨RX7, "compare", "(IIJ)V"⟩, prog_9_method_4_code, 6, none),
  (⟨RX8, "<init>", "()V"⟩, prog_1_method_1_code, 1, none),
  (⟨RX8, "type", "(I)I"⟩, prog_1_method_2_code, 2, some .int),
  (⟨RX8, "clear", "()I"⟩, prog_1_method_3_code, 2, some .int),
  (⟨RX8, "reads", "()I"⟩, prog_1_method_4_code, 2, some .int),
  (⟨RX8, "line", "(II)I"⟩, prog_1_method_5_code, 3, some .int),
  (⟨RX8, "place", "(II)I"⟩, prog_1_method_6_code, 4, some .int),
  (⟨RX8, "between", "(II)I"⟩, prog_1_method_7_code, 3, some .int),
  (⟨RX8, "load", "(II)I"⟩, prog_1_method_8_code, 4, some .int),
  (⟨RX8, "closes", "(I)I"⟩, prog_1_method_9_code, 3, some .int),
  (⟨RX8, "opens", "(I)I"⟩, prog_1_method_10_code, 3, some .int),
  (⟨RX8, "falls", "(I)I"⟩, prog_1_method_11_code, 3, some .int),
  (⟨RX8, "mends", "(I)I"⟩, prog_1_method_12_code, 2, some .int),
  (⟨RX8, "ring", "(II)I"⟩, prog_1_method_13_code, 3, some .int),
  (⟨RX8, "gain", "(II)J"⟩, prog_1_method_14_code, 4, some .long),
  (⟨RX8, "exchanges", "(II)I"⟩, prog_1_method_15_code, 4, some .int),
  (⟨RX8, "best", "(I)I"⟩, prog_1_method_16_code, 2, some .int),
  (⟨RX8, "lessens", "()I"⟩, prog_1_method_17_code, 2, some .int),
  (⟨RX8, "reach", "(II)J"⟩, prog_1_method_18_code, 3, some .long),
  (⟨RX8, "cure", "(II)I"⟩, prog_1_method_19_code, 3, some .int),
  (⟨RX8, "cures", "()I"⟩, prog_1_method_20_code, 1, some .int),
  (⟨RX8, "all", "(I)J"⟩, prog_1_method_21_code, 2, some .long),
  (⟨RX8, "back", "()I"⟩, prog_1_method_22_code, 1, some .int),
  (⟨RX8, "told", "(I)I"⟩, prog_1_method_23_code, 2, some .int),
  (⟨RX8, "digest", "()J"⟩, prog_1_method_24_code, 5, some .long),
  (⟨RX8, "refuse", "(I)I"⟩, prog_1_method_25_code, 3, some .int),
  (⟨RX8, "settle", "()V"⟩, prog_1_method_26_code, 1, none),
  (⟨RX8, "condition", "(I)I"⟩, prog_1_method_27_code, 2, some .int),
  (⟨RX8, "placeOnRing", "(II)I"⟩, prog_1_method_28_code, 3, some .int),
  (⟨RX8, "swap", "(II)V"⟩, prog_1_method_29_code, 3, none),
  (⟨RX8, "exchanged", "(III)I"⟩, prog_1_method_30_code, 3, some .int),
  (⟨RX9, "<init>", "()V"⟩, prog_11_method_1_code, 1, none),
  (⟨RX9, "in", "(III)Z"⟩, prog_11_method_2_code, 3, some .boolean),
  (⟨RX9, "refuses", "(I)I"⟩, prog_11_method_3_code, 2, some .int),
  (⟨RX9, "type", "(I)I"⟩, prog_11_method_4_code, 2, some .int),
  (⟨RX9, "clear", "()I"⟩, prog_11_method_5_code, 2, some .int),
  (⟨RX9, "byteAt", "(I)I"⟩, prog_11_method_6_code, 2, some .int),
  (⟨RX9, "isFigure", "(I)Z"⟩, prog_11_method_7_code, 2, some .boolean),
  (⟨RX9, "stands", "(Z)Z"⟩, prog_11_method_8_code, 2, some .boolean),
  (⟨RX9, "number", "(I)I"⟩, prog_11_method_9_code, 4, some .int),
  (⟨RX9, "place", "()V"⟩, prog_11_method_10_code, 2, none),
  (⟨RX9, "isNewPlace", "(I)Z"⟩, prog_11_method_11_code, 2, some .boolean),
  (⟨RX9, "isNewLine", "(II)Z"⟩, prog_11_method_12_code, 5, some .boolean),
  (⟨RX9, "newLine", "()V"⟩, prog_11_method_13_code, 6, none),
  (⟨RX9, "rootOf", "(I)I"⟩, prog_11_method_14_code, 3, some .int),
  (⟨RX9, "firstRing", "()I"⟩, prog_11_method_15_code, 4, some .int),
  (⟨RX9, "readsAll", "()V"⟩, prog_11_method_16_code, 2, none),
  (⟨RX9, "reads", "()I"⟩, prog_11_method_17_code, 2, some .int),
  (⟨RX9, "writes", "(I)V"⟩, prog_11_method_18_code, 3, none),
  (⟨RX9, "notes", "()V"⟩, prog_11_method_19_code, 2, none),
  (⟨RX9, "back", "()I"⟩, prog_11_method_20_code, 3, some .int),
  (⟨RX9, "other", "(II)I"⟩, prog_11_method_21_code, 3, some .int),
  (⟨RX9, "lays", "()V"⟩, prog_11_method_22_code, 5, none),
  (⟨RX9, "lossOf", "(I)J"⟩, prog_11_method_23_code, 6, some .long),
  (⟨RX9, "loss", "()J"⟩, prog_11_method_24_code, 1, some .long),
  (⟨RX9, "overs", "()I"⟩, prog_11_method_25_code, 3, some .int),
  (⟨RX9, "lit", "()I"⟩, prog_11_method_26_code, 3, some .int),
  (⟨RX9, "isLine", "(I)Z"⟩, prog_11_method_27_code, 2, some .boolean),
  (⟨RX9, "isPlace", "(I)Z"⟩, prog_11_method_28_code, 2, some .boolean),
  (⟨RX9, "isTie", "(I)Z"⟩, prog_11_method_29_code, 2, some .boolean),
  (⟨RX9, "line", "(II)I"⟩, prog_11_method_30_code, 3, some .int),
  (⟨RX9, "place", "(II)I"⟩, prog_11_method_31_code, 3, some .int),
  (⟨RX9, "between", "(II)I"⟩, prog_11_method_32_code, 4, some .int),
  (⟨RX9, "load", "(II)I"⟩, prog_11_method_33_code, 6, some .int),
  (⟨RX9, "isRadial", "()Z"⟩, prog_11_method_34_code, 5, some .boolean),
  (⟨RX9, "closes", "(I)I"⟩, prog_11_method_35_code, 6, some .int),
  (⟨RX9, "turnsOff", "(II)I"⟩, prog_11_method_36_code, 4, some .int),
  (⟨RX9, "opens", "(I)I"⟩, prog_11_method_37_code, 2, some .int),
  (⟨RX9, "falls", "(I)I"⟩, prog_11_method_38_code, 2, some .int),
  (⟨RX9, "manyOf", "(I)I"⟩, prog_11_method_39_code, 4, some .int),
  (⟨RX9, "mends", "(I)I"⟩, prog_11_method_40_code, 2, some .int),
  (⟨RX9, "merged", "(I)I"⟩, prog_11_method_41_code, 2, some .int),
  (⟨RX9, "rings", "(I)V"⟩, prog_11_method_42_code, 10, none),
  (⟨RX9, "isOfRing", "(I)Z"⟩, prog_11_method_43_code, 4, some .boolean),
  (⟨RX9, "ring", "(II)I"⟩, prog_11_method_44_code, 3, some .int),
  (⟨RX9, "tries", "(II)V"⟩, prog_11_method_45_code, 3, none),
  (⟨RX9, "gain", "(II)J"⟩, prog_11_method_46_code, 6, some .long),
  (⟨RX9, "looks", "()V"⟩, prog_11_method_47_code, 7, none),
  (⟨RX9, "exchanges", "(II)I"⟩, prog_11_method_48_code, 5, some .int),
  (⟨RX9, "best", "(I)I"⟩, prog_11_method_49_code, 2, some .int),
  (⟨RX9, "lessens", "()I"⟩, prog_11_method_50_code, 2, some .int),
  (⟨RX9, "shapeNow", "()I"⟩, prog_11_method_51_code, 3, some .int),
  (⟨RX9, "becomes", "(I)V"⟩, prog_11_method_52_code, 3, none),
  (⟨RX9, "meets", "(II)V"⟩, prog_11_method_53_code, 5, none),
  (⟨RX9, "goesOnFrom", "(I)V"⟩, prog_11_method_54_code, 6, none),
  (⟨RX9, "reach", "(II)J"⟩, prog_11_method_55_code, 10, some .long),
  (⟨RX9, "findsCandidates", "()V"⟩, prog_11_method_56_code, 2, none),
  (⟨RX9, "seeks", "()V"⟩, prog_11_method_57_code, 8, none),
  (⟨RX9, "orderOf", "(I)I"⟩, prog_11_method_58_code, 8, some .int),
  (⟨RX9, "cure", "(II)I"⟩, prog_11_method_59_code, 3, some .int),
  (⟨RX9, "cures", "()I"⟩, prog_11_method_60_code, 1, some .int),
  (⟨RX9, "mostFeeder", "()I"⟩, prog_11_method_61_code, 3, some .int),
  (⟨RX9, "darkOf", "(I)I"⟩, prog_11_method_62_code, 5, some .int),
  (⟨RX9, "allOf", "(I)J"⟩, prog_11_method_63_code, 4, some .long),
  (⟨RX9, "all", "(I)J"⟩, prog_11_method_64_code, 2, some .long),
  (⟨RX9, "toldOf", "(I)I"⟩, prog_11_method_65_code, 4, some .int),
  (⟨RX9, "told", "(I)I"⟩, prog_11_method_66_code, 2, some .int),
  (⟨RX9, "digest", "()J"⟩, prog_11_method_67_code, 5, some .long),
  (⟨RJ6, "bitCount", "(I)I"⟩, prog_12_method_49_code, 1, some .int),
  (⟨RJ7, "fill", "([II)V"⟩, prog_15_method_103_code, 4, none)]
/-- numbers of a method: its class; places of its locals; what it returns (0 int, 1 long, 2 nothing, 3 boolean); frames, words, cells, slots that it wants -/
def zmn : List (Nat × Nat × Nat × Nat × Nat × Nat × Nat) := [(0, 1, 2, 1, 20, 7, 128), (0, 5, 2, 3, 72, 0, 0), (0, 2, 3, 0, 0, 0, 0), (0, 2, 3, 0, 0, 0, 0), (0, 3, 3, 1, 21, 0, 0), (0, 4, 0, 1, 21, 0, 0), (0, 7, 1, 1, 22, 0, 0), (0, 4, 2, 2, 49, 0, 0), (0, 6, 2, 1, 24, 0, 0), (0, 5, 2, 0, 0, 0, 0), (0, 7, 2, 1, 26, 0, 0), (0, 3, 2, 1, 22, 0, 0), (0, 3, 1, 0, 0, 0, 0), (1, 1, 2, 1, 20, 7, 177), (1, 1, 2, 1, 23, 0, 0), (1, 2, 2, 1, 26, 0, 0), (1, 4, 2, 0, 0, 0, 0), (1, 2, 3, 0, 0, 0, 0), (1, 2, 3, 0, 0, 0, 0), (1, 2, 3, 0, 0, 0, 0), (1, 2, 0, 0, 0, 0, 0), (1, 3, 3, 1, 21, 0, 0), (1, 3, 0, 0, 0, 0, 0), (1, 4, 0, 0, 0, 0, 0), (1, 4, 0, 0, 0, 0, 0), (2, 2, 2, 2, 40, 49, 1140), (2, 3, 2, 2, 47, 0, 0), (2, 3, 2, 2, 47, 0, 0), (2, 3, 2, 0, 0, 0, 0), (3, 1, 2, 2, 40, 9, 205), (3, 4, 0, 4, 92, 0, 0), (3, 2, 3, 3, 71, 0, 0), (3, 3, 3, 2, 44, 0, 0), (3, 2, 3, 1, 20, 0, 0), (3, 8, 3, 2, 44, 0, 0), (3, 6, 2, 0, 0, 0, 0), (3, 5, 0, 1, 20, 0, 0), (3, 2, 3, 1, 20, 0, 0), (3, 1, 0, 0, 0, 0, 0), (4, 1, 2, 2, 40, 10, 283), (4, 1, 2, 0, 0, 0, 0), (4, 4, 3, 5, 121, 0, 0), (4, 7, 0, 4, 96, 0, 0), (4, 5, 0, 1, 21, 0, 0), (4, 5, 3, 2, 43, 0, 0), (4, 6, 2, 4, 96, 0, 0), (4, 4, 0, 0, 0, 0, 0), (4, 3, 2, 0, 0, 0, 0), (4, 3, 3, 0, 0, 0, 0), (5, 1, 2, 1, 20, 3, 48), (5, 9, 2, 2, 43, 0, 0), (5, 3, 0, 0, 0, 0, 0), (5, 12, 1, 0, 0, 0, 0), (5, 6, 3, 1, 21, 0, 0), (5, 3, 3, 0, 0, 0, 0), (5, 4, 2, 0, 0, 0, 0), (6, 1, 2, 2, 40, 14, 1008), (6, 1, 2, 0, 0, 0, 0), (6, 7, 2, 5, 119, 0, 0), (6, 4, 2, 4, 96, 0, 0), (6, 5, 2, 2, 47, 0, 0), (6, 4, 2, 1, 24, 0, 0), (6, 5, 0, 0, 0, 0, 0), (7, 1, 2, 2, 40, 4, 53), (7, 4, 2, 3, 71, 0, 0), (7, 6, 2, 2, 46, 0, 0), (7, 6, 2, 0, 0, 0, 0), (8, 1, 2, 5, 116, 121, 3453), (8, 2, 0, 1, 22, 0, 0), (8, 2, 0, 0, 0, 0, 0), (8, 2, 0, 5, 116, 0, 0), (8, 3, 0, 1, 22, 0, 0), (8, 4, 0, 1, 22, 0, 0), (8, 3, 0, 1, 23, 0, 0), (8, 4, 0, 5, 116, 0, 0), (8, 3, 0, 5, 116, 0, 0), (8, 3, 0, 5, 116, 0, 0), (8, 3, 0, 5, 116, 0, 0), (8, 2, 0, 5, 116, 0, 0), (8, 3, 0, 3, 71, 0, 0), (8, 4, 1, 4, 93, 0, 0), (8, 4, 0, 6, 138, 0, 0), (8, 2, 0, 4, 94, 0, 0), (8, 2, 0, 6, 138, 0, 0), (8, 3, 1, 6, 145, 0, 0), (8, 3, 0, 6, 144, 0, 0), (8, 1, 0, 6, 144, 0, 0), (8, 2, 1, 2, 48, 0, 0), (8, 1, 0, 5, 116, 0, 0), (8, 2, 0, 1, 22, 0, 0), (8, 5, 1, 3, 69, 0, 0), (8, 3, 0, 0, 0, 0, 0), (8, 1, 2, 4, 96, 0, 0), (8, 2, 0, 0, 0, 0, 0), (8, 3, 0, 3, 71, 0, 0), (8, 3, 2, 5, 116, 0, 0), (8, 3, 0, 0, 0, 0, 0), (9, 1, 2, 2, 46, 35, 2345), (9, 3, 3, 0, 0, 0, 0), (9, 2, 0, 0, 0, 0, 0), (9, 2, 0, 1, 22, 0, 0), (9, 2, 0, 0, 0, 0, 0), (9, 2, 0, 0, 0, 0, 0), (9, 2, 3, 1, 22, 0, 0), (9, 2, 3, 0, 0, 0, 0), (9, 4, 0, 2, 43, 0, 0), (9, 2, 2, 3, 66, 0, 0), (9, 2, 3, 1, 22, 0, 0), (9, 5, 3, 0, 0, 0, 0), (9, 6, 2, 3, 66, 0, 0), (9, 3, 0, 0, 0, 0, 0), (9, 4, 0, 1, 22, 0, 0), (9, 2, 2, 4, 91, 0, 0), (9, 2, 0, 5, 112, 0, 0), (9, 3, 2, 0, 0, 0, 0), (9, 2, 2, 1, 22, 0, 0), (9, 3, 0, 2, 46, 0, 0), (9, 3, 0, 0, 0, 0, 0), (9, 5, 2, 1, 22, 0, 0), (9, 6, 1, 0, 0, 0, 0), (9, 1, 1, 1, 25, 0, 0), (9, 3, 0, 0, 0, 0, 0), (9, 3, 0, 0, 0, 0, 0), (9, 2, 3, 1, 22, 0, 0), (9, 2, 3, 1, 22, 0, 0), (9, 2, 3, 2, 43, 0, 0), (9, 3, 0, 2, 43, 0, 0), (9, 3, 0, 2, 43, 0, 0), (9, 4, 0, 2, 43, 0, 0), (9, 6, 0, 2, 46, 0, 0), (9, 5, 3, 1, 22, 0, 0), (9, 6, 0, 3, 64, 0, 0), (9, 4, 0, 2, 46, 0, 0), (9, 2, 0, 3, 69, 0, 0), (9, 2, 0, 3, 69, 0, 0), (9, 4, 0, 0, 0, 0, 0), (9, 2, 0, 3, 69, 0, 0), (9, 2, 0, 0, 0, 0, 0), (9, 10, 2, 1, 21, 0, 0), (9, 4, 3, 0, 0, 0, 0), (9, 3, 0, 3, 64, 0, 0), (9, 3, 2, 2, 46, 0, 0), (9, 6, 1, 3, 68, 0, 0), (9, 7, 2, 3, 68, 0, 0), (9, 5, 0, 4, 94, 0, 0), (9, 2, 0, 4, 94, 0, 0), (9, 2, 0, 4, 94, 0, 0), (9, 3, 0, 0, 0, 0, 0), (9, 3, 2, 2, 46, 0, 0), (9, 5, 2, 0, 0, 0, 0), (9, 6, 2, 3, 68, 0, 0), (9, 10, 1, 4, 93, 0, 0), (9, 2, 2, 0, 0, 0, 0), (9, 8, 2, 3, 68, 0, 0), (9, 8, 0, 3, 68, 0, 0), (9, 3, 0, 4, 95, 0, 0), (9, 1, 0, 4, 95, 0, 0), (9, 3, 0, 0, 0, 0, 0), (9, 5, 0, 0, 0, 0, 0), (9, 4, 1, 2, 45, 0, 0), (9, 2, 1, 3, 68, 0, 0), (9, 4, 0, 0, 0, 0, 0), (9, 2, 0, 1, 23, 0, 0), (9, 5, 1, 3, 68, 0, 0), (10, 1, 0, 0, 0, 0, 0), (11, 4, 2, 0, 0, 0, 0)]
def zoc (k : Nat) : Nat := (zmn.getD k (0, 0, 0, 0, 0, 0, 0)).1
def zml (k : Nat) : Nat := (zmn.getD k (0, 0, 0, 0, 0, 0, 0)).2.1
def zrt (k : Nat) : Nat := (zmn.getD k (0, 0, 0, 0, 0, 0, 0)).2.2.1
def zfr (k : Nat) : Nat := (zmn.getD k (0, 0, 0, 0, 0, 0, 0)).2.2.2.1
def zlo (k : Nat) : Nat := (zmn.getD k (0, 0, 0, 0, 0, 0, 0)).2.2.2.2.1
def zmc (k : Nat) : Nat := (zmn.getD k (0, 0, 0, 0, 0, 0, 0)).2.2.2.2.2.1
def zms (k : Nat) : Nat := (zmn.getD k (0, 0, 0, 0, 0, 0, 0)).2.2.2.2.2.2
/-- TieOffice$Flow.<init>()V -/
def zc0 : List (Nat × Nat × List Nat × Int) := [(4, 1, [0], 0), (41, 4, [], 0), zno, zno, (4, 5, [0], 0), (0, 6, [], 0), (22, 9, [0, 0], 0), zno, zno, (4, 10, [0], 0), (0, 11, [], 1), (23, 14, [0, 1], 0), zno, zno, (4, 15, [0], 0), (0, 16, [], 0), (22, 19, [0, 2], 0), zno, zno, (4, 20, [0], 0), (0, 21, [], 0), (22, 24, [0, 3], 0), zno, zno, (4, 25, [0], 0), (0, 26, [], 0), (22, 29, [0, 4], 0), zno, zno, (4, 30, [0], 0), (1, 31, [], 0), (24, 34, [0, 5], 0), zno, zno, (4, 35, [0], 0), (0, 37, [], 16), zno, (32, 39, [], 0), zno, (25, 42, [0, 6], 0), zno, zno, (4, 43, [0], 0), (0, 45, [], 16), zno, (32, 47, [], 0), zno, (25, 50, [0, 7], 0), zno, zno, (4, 51, [0], 0), (0, 53, [], 16), zno, (32, 55, [], 0), zno, (25, 58, [0, 8], 0), zno, zno, (4, 59, [0], 0), (0, 61, [], 16), zno, (32, 63, [], 0), zno, (25, 66, [0, 9], 0), zno, zno, (4, 67, [0], 0), (0, 69, [], 24), zno, (32, 71, [], 0), zno, (25, 74, [0, 10], 0), zno, zno, (4, 75, [0], 0), (0, 77, [], 24), zno, (32, 79, [], 0), zno, (25, 82, [0, 11], 0), zno, zno, (4, 83, [0], 0), (0, 85, [], 16), zno, (32, 87, [], 0), zno, (25, 90, [0, 12], 0), zno, zno, (4, 91, [0], 0), (0, 92, [], 0), (22, 95, [0, 13], 0), zno, zno, (4, 96, [0], 0), (0, 97, [], 0), (22, 100, [0, 14], 0), zno, zno, (38, 0, [], 0)]
/-- TieOffice$Flow.work(LTieOffice$Net;I)V -/
def zc1 : List (Nat × Nat × List Nat × Int) := [(4, 1, [0], 0), (2, 2, [2], 0), (22, 5, [0, 0], 0), zno, zno, (4, 6, [0], 0), (0, 7, [], 1), (23, 10, [0, 1], 0), zno, zno, (4, 11, [0], 0), (0, 12, [], 0), (22, 15, [0, 13], 0), zno, zno, (4, 16, [0], 0), (0, 17, [], 0), (22, 20, [0, 14], 0), zno, zno, (0, 21, [], 0), (5, 22, [3], 0), (2, 23, [3], 0), (0, 25, [], 16), zno, (73, 28, [50], 0), zno, zno, (4, 29, [1], 0), (2, 30, [3], 0), (34, 33, [19, 2, 0], 0), zno, zno, (80, 36, [44], 0), zno, zno, (4, 37, [0], 0), (2, 38, [3], 0), (2, 39, [3], 0), (0, 40, [], -1), (0, 41, [], 0), (34, 44, [9, 5, 0], 0), zno, zno, (8, 47, [3], 1), zno, zno, (17, 50, [22], 0), zno, zno, (4, 51, [0], 0), (4, 52, [1], 0), (0, 53, [], 0), (34, 56, [7, 3, 0], 0), zno, zno, (4, 57, [0], 0), (4, 58, [0], 0), (21, 61, [0, 14], 0), zno, zno, (22, 64, [0, 2], 0), zno, zno, (4, 65, [0], 0), (21, 68, [0, 13], 0), zno, zno, (5, 69, [3], 0), (0, 70, [], 0), (5, 72, [4], 0), zno, (2, 74, [4], 0), zno, (0, 76, [], 16), zno, (73, 79, [125], 0), zno, zno, (4, 80, [1], 0), (21, 83, [1, 0], 0), zno, zno, (4, 84, [0], 0), (21, 87, [0, 14], 0), zno, zno, (0, 88, [], -1), (55, 89, [], 0), (53, 90, [], 0), (0, 91, [], 1), (2, 93, [4], 0), zno, (56, 94, [], 0), (53, 95, [], 0), (80, 98, [119], 0), zno, zno, (4, 99, [0], 0), (2, 101, [4], 0), zno, (2, 103, [4], 0), zno, (0, 104, [], -1), (0, 105, [], 0), (34, 108, [9, 5, 0], 0), zno, zno, (4, 109, [0], 0), (4, 110, [1], 0), (4, 111, [0], 0), (21, 114, [0, 13], 0), zno, zno, (0, 115, [], 1), (51, 116, [], 0), (34, 119, [7, 3, 0], 0), zno, zno, (8, 122, [4], 1), zno, zno, (17, 125, [72], 0), zno, zno, (4, 126, [0], 0), (4, 127, [1], 0), (2, 128, [3], 0), (34, 131, [10, 3, 0], 0), zno, zno, (4, 132, [0], 0), (4, 133, [1], 0), (34, 136, [11, 2, 0], 0), zno, zno, (38, 0, [], 0)]
/-- TieOffice$Flow.isLit(I)Z -/
def zc2 : List (Nat × Nat × List Nat × Int) := [(4, 1, [0], 0), (21, 4, [0, 2], 0), zno, zno, (2, 5, [1], 0), (57, 6, [], 0), (0, 7, [], 1), (53, 8, [], 0), (80, 11, [15], 0), zno, zno, (0, 12, [], 1), (17, 15, [16], 0), zno, zno, (0, 16, [], 0), (36, 0, [], 0)]
/-- TieOffice$Flow.bearsBehind(LTieOffice$Flow;)Z -/
def zc3 : List (Nat × Nat × List Nat × Int) := [(4, 1, [0], 0), (21, 4, [0, 3], 0), zno, zno, (4, 5, [1], 0), (21, 8, [0, 3], 0), zno, zno, (0, 9, [], -1), (55, 10, [], 0), (53, 11, [], 0), (81, 14, [18], 0), zno, zno, (0, 15, [], 1), (17, 18, [19], 0), zno, zno, (0, 19, [], 0), (36, 0, [], 0)]
/-- TieOffice$Flow.areJoined(II)Z -/
def zc4 : List (Nat × Nat × List Nat × Int) := [(4, 1, [0], 0), (2, 2, [1], 0), (34, 5, [2, 2, 0], 0), zno, zno, (81, 8, [16], 0), zno, zno, (4, 9, [0], 0), (2, 10, [2], 0), (34, 13, [2, 2, 0], 0), zno, zno, (80, 16, [38], 0), zno, zno, (4, 17, [0], 0), (2, 18, [1], 0), (34, 21, [2, 2, 0], 0), zno, zno, (80, 24, [36], 0), zno, zno, (4, 25, [0], 0), (2, 26, [2], 0), (34, 29, [2, 2, 0], 0), zno, zno, (80, 32, [36], 0), zno, zno, (0, 33, [], 1), (17, 36, [37], 0), zno, zno, (0, 37, [], 0), (36, 0, [], 0), (4, 39, [0], 0), (21, 42, [0, 6], 0), zno, zno, (2, 43, [1], 0), (26, 44, [], 0), (4, 45, [0], 0), (21, 48, [0, 6], 0), zno, zno, (2, 49, [2], 0), (26, 50, [], 0), (71, 53, [57], 0), zno, zno, (0, 54, [], 1), (17, 57, [58], 0), zno, zno, (0, 58, [], 0), (36, 0, [], 0)]
/-- TieOffice$Flow.heaviestFeeder(LTieOffice$Net;)I -/
def zc5 : List (Nat × Nat × List Nat × Int) := [(0, 1, [], -1), (5, 2, [2], 0), (0, 3, [], 0), (5, 4, [3], 0), (2, 5, [3], 0), (0, 7, [], 16), zno, (73, 10, [46], 0), zno, zno, (4, 11, [1], 0), (2, 12, [3], 0), (34, 15, [19, 2, 0], 0), zno, zno, (80, 18, [40], 0), zno, zno, (2, 19, [2], 0), (0, 20, [], -1), (70, 23, [38], 0), zno, zno, (4, 24, [0], 0), (21, 27, [0, 9], 0), zno, zno, (2, 28, [3], 0), (26, 29, [], 0), (4, 30, [0], 0), (21, 33, [0, 9], 0), zno, zno, (2, 34, [2], 0), (26, 35, [], 0), (75, 38, [40], 0), zno, zno, (2, 39, [3], 0), (5, 40, [2], 0), (8, 43, [3], 1), zno, zno, (17, 46, [4], 0), zno, zno, (2, 47, [2], 0), (35, 0, [], 0)]
/-- TieOffice$Flow.lossUnder(LTieOffice$Net;I)J -/
def zc6 : List (Nat × Nat × List Nat × Int) := [(1, 1, [], 0), (6, 2, [3], 0), (0, 3, [], 0), (5, 5, [5], 0), zno, (2, 7, [5], 0), zno, (4, 8, [1], 0), (21, 11, [1, 2], 0), zno, zno, (73, 14, [56], 0), zno, zno, (4, 15, [0], 0), (21, 18, [0, 11], 0), zno, zno, (2, 20, [5], 0), zno, (26, 21, [], 0), (5, 23, [6], 0), zno, (2, 25, [6], 0), zno, (0, 26, [], -1), (70, 29, [50], 0), zno, zno, (4, 30, [0], 0), (21, 33, [0, 6], 0), zno, zno, (2, 35, [6], 0), zno, (26, 36, [], 0), (2, 37, [2], 0), (71, 40, [50], 0), zno, zno, (3, 41, [3], 0), (4, 42, [0], 0), (4, 43, [1], 0), (2, 45, [5], 0), zno, (34, 48, [12, 3, 0], 0), zno, zno, (60, 49, [], 0), (6, 50, [3], 0), (8, 53, [5], 1), zno, zno, (17, 56, [5], 0), zno, zno, (3, 57, [3], 0), (37, 0, [], 0)]
/-- TieOffice$Flow.growFrom(LTieOffice$Net;I)V -/
def zc7 : List (Nat × Nat × List Nat × Int) := [(2, 1, [2], 0), (5, 2, [3], 0), (2, 3, [3], 0), (4, 4, [0], 0), (21, 7, [0, 13], 0), zno, zno, (73, 10, [33], 0), zno, zno, (2, 11, [3], 0), (0, 13, [], 16), zno, (73, 16, [33], 0), zno, zno, (4, 17, [0], 0), (4, 18, [1], 0), (4, 19, [0], 0), (21, 22, [0, 12], 0), zno, zno, (2, 23, [3], 0), (26, 24, [], 0), (34, 27, [8, 3, 0], 0), zno, zno, (8, 30, [3], 1), zno, zno, (17, 33, [2], 0), zno, zno, (38, 0, [], 0)]
/-- TieOffice$Flow.spread(LTieOffice$Net;I)V -/
def zc8 : List (Nat × Nat × List Nat × Int) := [(4, 1, [1], 0), (21, 4, [1, 10], 0), zno, zno, (2, 5, [2], 0), (26, 6, [], 0), (5, 7, [3], 0), (2, 8, [3], 0), (4, 9, [1], 0), (21, 12, [1, 10], 0), zno, zno, (2, 13, [2], 0), (0, 14, [], 1), (50, 15, [], 0), (26, 16, [], 0), (73, 19, [110], 0), zno, zno, (4, 20, [1], 0), (21, 23, [1, 11], 0), zno, zno, (2, 24, [3], 0), (26, 25, [], 0), (5, 27, [4], 0), zno, (4, 28, [0], 0), (21, 31, [0, 0], 0), zno, zno, (2, 33, [4], 0), zno, (57, 34, [], 0), (0, 35, [], 1), (53, 36, [], 0), (80, 39, [104], 0), zno, zno, (2, 41, [4], 0), zno, (4, 42, [0], 0), (21, 45, [0, 7], 0), zno, zno, (2, 46, [2], 0), (26, 47, [], 0), (71, 50, [53], 0), zno, zno, (17, 53, [104], 0), zno, zno, (4, 54, [1], 0), (2, 56, [4], 0), zno, (2, 57, [2], 0), (34, 60, [22, 3, 0], 0), zno, zno, (5, 62, [5], 0), zno, (4, 63, [0], 0), (21, 66, [0, 14], 0), zno, zno, (2, 68, [5], 0), zno, (57, 69, [], 0), (0, 70, [], 1), (53, 71, [], 0), (80, 74, [82], 0), zno, zno, (4, 75, [0], 0), (0, 76, [], 0), (23, 79, [0, 1], 0), zno, zno, (17, 82, [104], 0), zno, zno, (4, 83, [0], 0), (2, 85, [5], 0), zno, (4, 86, [0], 0), (21, 89, [0, 6], 0), zno, zno, (2, 90, [2], 0), (26, 91, [], 0), (2, 93, [4], 0), zno, (4, 94, [0], 0), (21, 97, [0, 8], 0), zno, zno, (2, 98, [2], 0), (26, 99, [], 0), (0, 100, [], 1), (50, 101, [], 0), (34, 104, [9, 5, 0], 0), zno, zno, (8, 107, [3], 1), zno, zno, (17, 110, [7], 0), zno, zno, (38, 0, [], 0)]
/-- TieOffice$Flow.enqueue(IIII)V -/
def zc9 : List (Nat × Nat × List Nat × Int) := [(4, 1, [0], 0), (21, 4, [0, 13], 0), zno, zno, (0, 6, [], 16), zno, (72, 9, [10], 0), zno, zno, (38, 0, [], 0), (4, 11, [0], 0), (21, 14, [0, 12], 0), zno, zno, (4, 15, [0], 0), (21, 18, [0, 13], 0), zno, zno, (2, 19, [1], 0), (27, 20, [], 0), (4, 21, [0], 0), (18, 22, [], 0), (21, 25, [0, 13], 0), zno, zno, (0, 26, [], 1), (50, 27, [], 0), (22, 30, [0, 13], 0), zno, zno, (4, 31, [0], 0), (18, 32, [], 0), (21, 35, [0, 14], 0), zno, zno, (0, 36, [], 1), (2, 37, [1], 0), (56, 38, [], 0), (54, 39, [], 0), (22, 42, [0, 14], 0), zno, zno, (4, 43, [0], 0), (21, 46, [0, 6], 0), zno, zno, (2, 47, [1], 0), (2, 48, [2], 0), (27, 49, [], 0), (4, 50, [0], 0), (21, 53, [0, 7], 0), zno, zno, (2, 54, [1], 0), (2, 55, [3], 0), (27, 56, [], 0), (4, 57, [0], 0), (21, 60, [0, 8], 0), zno, zno, (2, 61, [1], 0), (2, 63, [4], 0), zno, (27, 64, [], 0), (38, 0, [], 0)]
/-- TieOffice$Flow.carry(LTieOffice$Net;I)V -/
def zc10 : List (Nat × Nat × List Nat × Int) := [(4, 1, [0], 0), (21, 4, [0, 10], 0), zno, zno, (0, 5, [], 0), (34, 8, [165, 2, 1], 0), zno, zno, (4, 9, [0], 0), (21, 12, [0, 11], 0), zno, zno, (0, 13, [], -1), (34, 16, [165, 2, 1], 0), zno, zno, (4, 17, [1], 0), (21, 20, [1, 5], 0), zno, zno, (0, 21, [], 0), (4, 22, [0], 0), (21, 25, [0, 9], 0), zno, zno, (0, 26, [], 0), (0, 28, [], 16), zno, (40, 31, [], 0), zno, zno, (4, 32, [0], 0), (0, 33, [], 0), (22, 36, [0, 4], 0), zno, zno, (2, 37, [2], 0), (0, 38, [], 1), (51, 39, [], 0), (5, 40, [3], 0), (2, 41, [3], 0), (82, 44, [139], 0), zno, zno, (4, 45, [0], 0), (21, 48, [0, 12], 0), zno, zno, (2, 49, [3], 0), (26, 50, [], 0), (5, 52, [4], 0), zno, (4, 53, [0], 0), (18, 54, [], 0), (21, 57, [0, 4], 0), zno, zno, (4, 58, [1], 0), (21, 61, [1, 5], 0), zno, zno, (2, 63, [4], 0), zno, (26, 64, [], 0), (50, 65, [], 0), (22, 68, [0, 4], 0), zno, zno, (4, 69, [0], 0), (21, 72, [0, 7], 0), zno, zno, (2, 74, [4], 0), zno, (26, 75, [], 0), (5, 77, [5], 0), zno, (2, 79, [5], 0), zno, (0, 80, [], -1), (70, 83, [133], 0), zno, zno, (4, 84, [1], 0), (2, 86, [5], 0), zno, (2, 88, [4], 0), zno, (34, 91, [22, 3, 0], 0), zno, zno, (5, 93, [6], 0), zno, (4, 94, [0], 0), (21, 97, [0, 9], 0), zno, zno, (2, 99, [6], 0), zno, (19, 100, [], 0), (26, 101, [], 0), (4, 102, [0], 0), (21, 105, [0, 9], 0), zno, zno, (2, 107, [4], 0), zno, (26, 108, [], 0), (50, 109, [], 0), (27, 110, [], 0), (4, 111, [0], 0), (21, 114, [0, 10], 0), zno, zno, (2, 116, [5], 0), zno, (4, 117, [0], 0), (21, 120, [0, 9], 0), zno, zno, (2, 122, [4], 0), zno, (26, 123, [], 0), (27, 124, [], 0), (4, 125, [0], 0), (21, 128, [0, 11], 0), zno, zno, (2, 130, [5], 0), zno, (2, 132, [6], 0), zno, (27, 133, [], 0), (8, 136, [3], -1), zno, zno, (17, 139, [40], 0), zno, zno, (38, 0, [], 0)]
/-- TieOffice$Flow.weigh(LTieOffice$Net;)V -/
def zc11 : List (Nat × Nat × List Nat × Int) := [(4, 1, [0], 0), (1, 2, [], 0), (24, 5, [0, 5], 0), zno, zno, (4, 6, [0], 0), (0, 7, [], 0), (22, 10, [0, 3], 0), zno, zno, (0, 11, [], 0), (5, 12, [2], 0), (2, 13, [2], 0), (4, 14, [1], 0), (21, 17, [1, 2], 0), zno, zno, (73, 20, [68], 0), zno, zno, (4, 21, [0], 0), (18, 22, [], 0), (21, 25, [0, 5], 0), zno, zno, (4, 26, [0], 0), (4, 27, [1], 0), (2, 28, [2], 0), (34, 31, [12, 3, 0], 0), zno, zno, (60, 32, [], 0), (24, 35, [0, 5], 0), zno, zno, (4, 36, [0], 0), (21, 39, [0, 10], 0), zno, zno, (2, 40, [2], 0), (26, 41, [], 0), (4, 42, [1], 0), (21, 45, [1, 9], 0), zno, zno, (2, 46, [2], 0), (26, 47, [], 0), (75, 50, [62], 0), zno, zno, (4, 51, [0], 0), (18, 52, [], 0), (21, 55, [0, 3], 0), zno, zno, (0, 56, [], 1), (2, 57, [2], 0), (56, 58, [], 0), (54, 59, [], 0), (22, 62, [0, 3], 0), zno, zno, (8, 65, [2], 1), zno, zno, (17, 68, [12], 0), zno, zno, (38, 0, [], 0)]
/-- TieOffice$Flow.lossOn(LTieOffice$Net;I)J -/
def zc12 : List (Nat × Nat × List Nat × Int) := [(4, 1, [1], 0), (21, 4, [1, 8], 0), zno, zno, (2, 5, [2], 0), (26, 6, [], 0), (12, 7, [], 0), (4, 8, [0], 0), (21, 11, [0, 10], 0), zno, zno, (2, 12, [2], 0), (26, 13, [], 0), (12, 14, [], 0), (62, 15, [], 0), (4, 16, [0], 0), (21, 19, [0, 10], 0), zno, zno, (2, 20, [2], 0), (26, 21, [], 0), (12, 22, [], 0), (62, 23, [], 0), (37, 0, [], 0)]
/-- TieOffice$Net.<init>()V -/
def zc13 : List (Nat × Nat × List Nat × Int) := [(4, 1, [0], 0), (41, 4, [], 0), zno, zno, (4, 5, [0], 0), (0, 6, [], 0), (22, 9, [1, 0], 0), zno, zno, (4, 10, [0], 0), (0, 11, [], 0), (22, 14, [1, 1], 0), zno, zno, (4, 15, [0], 0), (0, 16, [], 0), (22, 19, [1, 2], 0), zno, zno, (4, 20, [0], 0), (0, 21, [], 0), (22, 24, [1, 3], 0), zno, zno, (4, 25, [0], 0), (0, 26, [], 0), (22, 29, [1, 4], 0), zno, zno, (4, 30, [0], 0), (0, 32, [], 16), zno, (32, 34, [], 0), zno, (25, 37, [1, 5], 0), zno, zno, (4, 38, [0], 0), (0, 40, [], 24), zno, (32, 42, [], 0), zno, (25, 45, [1, 6], 0), zno, zno, (4, 46, [0], 0), (0, 48, [], 24), zno, (32, 50, [], 0), zno, (25, 53, [1, 7], 0), zno, zno, (4, 54, [0], 0), (0, 56, [], 24), zno, (32, 58, [], 0), zno, (25, 61, [1, 8], 0), zno, zno, (4, 62, [0], 0), (0, 64, [], 24), zno, (32, 66, [], 0), zno, (25, 69, [1, 9], 0), zno, zno, (4, 70, [0], 0), (0, 72, [], 17), zno, (32, 74, [], 0), zno, (25, 77, [1, 10], 0), zno, zno, (4, 78, [0], 0), (0, 80, [], 48), zno, (32, 82, [], 0), zno, (25, 85, [1, 11], 0), zno, zno, (38, 0, [], 0)]
/-- TieOffice$Net.wipe()V -/
def zc14 : List (Nat × Nat × List Nat × Int) := [(4, 1, [0], 0), (0, 2, [], 0), (22, 5, [1, 0], 0), zno, zno, (4, 6, [0], 0), (0, 7, [], 0), (22, 10, [1, 1], 0), zno, zno, (4, 11, [0], 0), (0, 12, [], 0), (22, 15, [1, 2], 0), zno, zno, (4, 16, [0], 0), (0, 17, [], 0), (22, 20, [1, 3], 0), zno, zno, (4, 21, [0], 0), (0, 22, [], 0), (22, 25, [1, 4], 0), zno, zno, (4, 26, [0], 0), (21, 29, [1, 5], 0), zno, zno, (0, 30, [], 0), (34, 33, [165, 2, 1], 0), zno, zno, (38, 0, [], 0)]
/-- TieOffice$Net.copyOf(LTieOffice$Net;)V -/
def zc15 : List (Nat × Nat × List Nat × Int) := [(4, 1, [0], 0), (4, 2, [1], 0), (21, 5, [1, 0], 0), zno, zno, (22, 8, [1, 0], 0), zno, zno, (4, 9, [0], 0), (4, 10, [1], 0), (21, 13, [1, 1], 0), zno, zno, (22, 16, [1, 1], 0), zno, zno, (4, 17, [0], 0), (4, 18, [1], 0), (21, 21, [1, 2], 0), zno, zno, (22, 24, [1, 2], 0), zno, zno, (4, 25, [0], 0), (4, 26, [1], 0), (21, 29, [1, 3], 0), zno, zno, (22, 32, [1, 3], 0), zno, zno, (4, 33, [0], 0), (4, 34, [1], 0), (21, 37, [1, 4], 0), zno, zno, (22, 40, [1, 4], 0), zno, zno, (4, 41, [1], 0), (21, 44, [1, 5], 0), zno, zno, (0, 45, [], 0), (4, 46, [0], 0), (21, 49, [1, 5], 0), zno, zno, (0, 50, [], 0), (0, 52, [], 16), zno, (40, 55, [], 0), zno, zno, (4, 56, [1], 0), (21, 59, [1, 6], 0), zno, zno, (0, 60, [], 0), (4, 61, [0], 0), (21, 64, [1, 6], 0), zno, zno, (0, 65, [], 0), (0, 67, [], 24), zno, (40, 70, [], 0), zno, zno, (4, 71, [1], 0), (21, 74, [1, 7], 0), zno, zno, (0, 75, [], 0), (4, 76, [0], 0), (21, 79, [1, 7], 0), zno, zno, (0, 80, [], 0), (0, 82, [], 24), zno, (40, 85, [], 0), zno, zno, (4, 86, [1], 0), (21, 89, [1, 8], 0), zno, zno, (0, 90, [], 0), (4, 91, [0], 0), (21, 94, [1, 8], 0), zno, zno, (0, 95, [], 0), (0, 97, [], 24), zno, (40, 100, [], 0), zno, zno, (4, 101, [1], 0), (21, 104, [1, 9], 0), zno, zno, (0, 105, [], 0), (4, 106, [0], 0), (21, 109, [1, 9], 0), zno, zno, (0, 110, [], 0), (0, 112, [], 24), zno, (40, 115, [], 0), zno, zno, (4, 116, [1], 0), (21, 119, [1, 10], 0), zno, zno, (0, 120, [], 0), (4, 121, [0], 0), (21, 124, [1, 10], 0), zno, zno, (0, 125, [], 0), (0, 127, [], 17), zno, (40, 130, [], 0), zno, zno, (4, 131, [1], 0), (21, 134, [1, 11], 0), zno, zno, (0, 135, [], 0), (4, 136, [0], 0), (21, 139, [1, 11], 0), zno, zno, (0, 140, [], 0), (0, 142, [], 48), zno, (40, 145, [], 0), zno, zno, (38, 0, [], 0)]
/-- TieOffice$Net.listTouching()V -/
def zc16 : List (Nat × Nat × List Nat × Int) := [(0, 1, [], 0), (5, 2, [1], 0), (0, 3, [], 0), (5, 4, [2], 0), (2, 5, [2], 0), (0, 7, [], 16), zno, (73, 10, [78], 0), zno, zno, (4, 11, [0], 0), (21, 14, [1, 10], 0), zno, zno, (2, 15, [2], 0), (2, 16, [1], 0), (27, 17, [], 0), (0, 18, [], 0), (5, 19, [3], 0), (2, 20, [3], 0), (4, 21, [0], 0), (21, 24, [1, 2], 0), zno, zno, (73, 27, [72], 0), zno, zno, (4, 28, [0], 0), (21, 31, [1, 6], 0), zno, zno, (2, 32, [3], 0), (26, 33, [], 0), (2, 34, [2], 0), (70, 37, [47], 0), zno, zno, (4, 38, [0], 0), (21, 41, [1, 7], 0), zno, zno, (2, 42, [3], 0), (26, 43, [], 0), (2, 44, [2], 0), (71, 47, [66], 0), zno, zno, (2, 48, [1], 0), (4, 49, [0], 0), (21, 52, [1, 11], 0), zno, zno, (30, 53, [], 0), (73, 56, [66], 0), zno, zno, (4, 57, [0], 0), (21, 60, [1, 11], 0), zno, zno, (2, 61, [1], 0), (2, 62, [3], 0), (27, 63, [], 0), (8, 66, [1], 1), zno, zno, (8, 69, [3], 1), zno, zno, (17, 72, [19], 0), zno, zno, (8, 75, [2], 1), zno, zno, (17, 78, [4], 0), zno, zno, (4, 79, [0], 0), (21, 82, [1, 10], 0), zno, zno, (0, 84, [], 16), zno, (2, 85, [1], 0), (27, 86, [], 0), (38, 0, [], 0)]
/-- TieOffice$Net.hasPlace(I)Z -/
def zc17 : List (Nat × Nat × List Nat × Int) := [(2, 1, [1], 0), (82, 4, [25], 0), zno, zno, (2, 5, [1], 0), (0, 7, [], 16), zno, (73, 10, [25], 0), zno, zno, (4, 11, [0], 0), (21, 14, [1, 0], 0), zno, zno, (2, 15, [1], 0), (57, 16, [], 0), (0, 17, [], 1), (53, 18, [], 0), (80, 21, [25], 0), zno, zno, (0, 22, [], 1), (17, 25, [26], 0), zno, zno, (0, 26, [], 0), (36, 0, [], 0)]
/-- TieOffice$Net.hasLine(I)Z -/
def zc18 : List (Nat × Nat × List Nat × Int) := [(2, 1, [1], 0), (82, 4, [16], 0), zno, zno, (2, 5, [1], 0), (4, 6, [0], 0), (21, 9, [1, 2], 0), zno, zno, (73, 12, [16], 0), zno, zno, (0, 13, [], 1), (17, 16, [17], 0), zno, zno, (0, 17, [], 0), (36, 0, [], 0)]
/-- TieOffice$Net.isFeeder(I)Z -/
def zc19 : List (Nat × Nat × List Nat × Int) := [(4, 1, [0], 0), (21, 4, [1, 1], 0), zno, zno, (2, 5, [1], 0), (57, 6, [], 0), (0, 7, [], 1), (53, 8, [], 0), (80, 11, [15], 0), zno, zno, (0, 12, [], 1), (17, 15, [16], 0), zno, zno, (0, 16, [], 0), (36, 0, [], 0)]
/-- TieOffice$Net.tiesOf(I)I -/
def zc20 : List (Nat × Nat × List Nat × Int) := [(0, 1, [], 1), (4, 2, [0], 0), (21, 5, [1, 2], 0), zno, zno, (56, 6, [], 0), (0, 7, [], 1), (51, 8, [], 0), (2, 9, [1], 0), (0, 10, [], -1), (55, 11, [], 0), (53, 12, [], 0), (4, 13, [0], 0), (21, 16, [1, 4], 0), zno, zno, (0, 17, [], -1), (55, 18, [], 0), (53, 19, [], 0), (35, 0, [], 0)]
/-- TieOffice$Net.isTie(II)Z -/
def zc21 : List (Nat × Nat × List Nat × Int) := [(4, 1, [0], 0), (2, 2, [2], 0), (34, 5, [20, 2, 0], 0), zno, zno, (2, 6, [1], 0), (57, 7, [], 0), (0, 8, [], 1), (53, 9, [], 0), (80, 12, [16], 0), zno, zno, (0, 13, [], 1), (17, 16, [17], 0), zno, zno, (0, 17, [], 0), (36, 0, [], 0)]
/-- TieOffice$Net.otherEnd(II)I -/
def zc22 : List (Nat × Nat × List Nat × Int) := [(4, 1, [0], 0), (21, 4, [1, 6], 0), zno, zno, (2, 5, [1], 0), (26, 6, [], 0), (2, 7, [2], 0), (71, 10, [19], 0), zno, zno, (4, 11, [0], 0), (21, 14, [1, 7], 0), zno, zno, (2, 15, [1], 0), (26, 16, [], 0), (17, 19, [25], 0), zno, zno, (4, 20, [0], 0), (21, 23, [1, 6], 0), zno, zno, (2, 24, [1], 0), (26, 25, [], 0), (35, 0, [], 0)]
/-- TieOffice$Net.joining(II)I -/
def zc23 : List (Nat × Nat × List Nat × Int) := [(0, 1, [], 0), (5, 2, [3], 0), (2, 3, [3], 0), (4, 4, [0], 0), (21, 7, [1, 2], 0), zno, zno, (73, 10, [58], 0), zno, zno, (4, 11, [0], 0), (21, 14, [1, 6], 0), zno, zno, (2, 15, [3], 0), (26, 16, [], 0), (2, 17, [1], 0), (71, 20, [30], 0), zno, zno, (4, 21, [0], 0), (21, 24, [1, 7], 0), zno, zno, (2, 25, [3], 0), (26, 26, [], 0), (2, 27, [2], 0), (70, 30, [50], 0), zno, zno, (4, 31, [0], 0), (21, 34, [1, 6], 0), zno, zno, (2, 35, [3], 0), (26, 36, [], 0), (2, 37, [2], 0), (71, 40, [52], 0), zno, zno, (4, 41, [0], 0), (21, 44, [1, 7], 0), zno, zno, (2, 45, [3], 0), (26, 46, [], 0), (2, 47, [1], 0), (71, 50, [52], 0), zno, zno, (2, 51, [3], 0), (35, 0, [], 0), (8, 55, [3], 1), zno, zno, (17, 58, [2], 0), zno, zno, (0, 59, [], -1), (35, 0, [], 0)]
/-- TieOffice$Net.loadOf(I)I -/
def zc24 : List (Nat × Nat × List Nat × Int) := [(0, 1, [], 0), (5, 2, [2], 0), (0, 3, [], 0), (5, 4, [3], 0), (2, 5, [3], 0), (0, 7, [], 16), zno, (73, 10, [33], 0), zno, zno, (2, 11, [1], 0), (2, 12, [3], 0), (57, 13, [], 0), (0, 14, [], 1), (53, 15, [], 0), (80, 18, [27], 0), zno, zno, (2, 19, [2], 0), (4, 20, [0], 0), (21, 23, [1, 5], 0), zno, zno, (2, 24, [3], 0), (26, 25, [], 0), (50, 26, [], 0), (5, 27, [2], 0), (8, 30, [3], 1), zno, zno, (17, 33, [4], 0), zno, zno, (2, 34, [2], 0), (35, 0, [], 0)]
/-- TieOffice$Past.<init>()V -/
def zc25 : List (Nat × Nat × List Nat × Int) := [(4, 1, [0], 0), (41, 4, [], 0), zno, zno, (4, 5, [0], 0), (0, 7, [], 6), zno, (33, 10, [], 0), zno, zno, (25, 13, [2, 0], 0), zno, zno, (4, 14, [0], 0), (0, 15, [], 0), (22, 18, [2, 1], 0), zno, zno, (0, 19, [], 0), (5, 20, [1], 0), (2, 21, [1], 0), (0, 23, [], 6), zno, (73, 26, [45], 0), zno, zno, (4, 27, [0], 0), (21, 30, [2, 0], 0), zno, zno, (2, 31, [1], 0), (31, 34, [1], 0), zno, zno, (18, 35, [], 0), (34, 38, [13, 1, 3], 0), zno, zno, (29, 39, [], 0), (8, 42, [1], 1), zno, zno, (17, 45, [20], 0), zno, zno, (38, 0, [], 0)]
/-- TieOffice$Past.keep(LTieOffice$Net;)V -/
def zc26 : List (Nat × Nat × List Nat × Int) := [(4, 1, [0], 0), (21, 4, [2, 1], 0), zno, zno, (0, 6, [], 6), zno, (72, 9, [13], 0), zno, zno, (4, 10, [0], 0), (34, 13, [28, 1, 0], 0), zno, zno, (4, 14, [0], 0), (21, 17, [2, 0], 0), zno, zno, (4, 18, [0], 0), (21, 21, [2, 1], 0), zno, zno, (28, 22, [], 0), (7, 23, [2], 0), (4, 24, [2], 0), (16, 27, [42], 0), zno, zno, (4, 28, [2], 0), (4, 29, [1], 0), (34, 32, [15, 2, 0], 0), zno, zno, (4, 33, [0], 0), (18, 34, [], 0), (21, 37, [2, 1], 0), zno, zno, (0, 38, [], 1), (50, 39, [], 0), (22, 42, [2, 1], 0), zno, zno, (38, 0, [], 0)]
/-- TieOffice$Past.giveBack(LTieOffice$Net;)V -/
def zc27 : List (Nat × Nat × List Nat × Int) := [(4, 1, [0], 0), (21, 4, [2, 1], 0), zno, zno, (0, 5, [], 1), (73, 8, [9], 0), zno, zno, (38, 0, [], 0), (4, 10, [0], 0), (18, 11, [], 0), (21, 14, [2, 1], 0), zno, zno, (0, 15, [], 1), (51, 16, [], 0), (22, 19, [2, 1], 0), zno, zno, (4, 20, [0], 0), (21, 23, [2, 0], 0), zno, zno, (4, 24, [0], 0), (21, 27, [2, 1], 0), zno, zno, (28, 28, [], 0), (7, 29, [2], 0), (4, 30, [2], 0), (16, 33, [38], 0), zno, zno, (4, 34, [1], 0), (4, 35, [2], 0), (34, 38, [15, 2, 0], 0), zno, zno, (38, 0, [], 0)]
/-- TieOffice$Past.dropOldest()V -/
def zc28 : List (Nat × Nat × List Nat × Int) := [(4, 1, [0], 0), (21, 4, [2, 0], 0), zno, zno, (0, 5, [], 0), (28, 6, [], 0), (7, 7, [1], 0), (0, 8, [], 1), (5, 9, [2], 0), (2, 10, [2], 0), (0, 12, [], 6), zno, (73, 15, [35], 0), zno, zno, (4, 16, [0], 0), (21, 19, [2, 0], 0), zno, zno, (2, 20, [2], 0), (0, 21, [], 1), (51, 22, [], 0), (4, 23, [0], 0), (21, 26, [2, 0], 0), zno, zno, (2, 27, [2], 0), (28, 28, [], 0), (29, 29, [], 0), (8, 32, [2], 1), zno, zno, (17, 35, [9], 0), zno, zno, (4, 36, [0], 0), (21, 39, [2, 0], 0), zno, zno, (0, 40, [], 5), (4, 41, [1], 0), (29, 42, [], 0), (4, 43, [0], 0), (0, 44, [], 5), (22, 47, [2, 1], 0), zno, zno, (38, 0, [], 0)]
/-- TieOffice$Reader.<init>()V -/
def zc29 : List (Nat × Nat × List Nat × Int) := [(4, 1, [0], 0), (41, 4, [], 0), zno, zno, (4, 5, [0], 0), (31, 8, [1], 0), zno, zno, (18, 9, [], 0), (34, 12, [13, 1, 3], 0), zno, zno, (25, 15, [3, 0], 0), zno, zno, (4, 16, [0], 0), (0, 17, [], 0), (22, 20, [3, 1], 0), zno, zno, (4, 21, [0], 0), (0, 23, [], 16), zno, (32, 25, [], 0), zno, (25, 28, [3, 2], 0), zno, zno, (4, 29, [0], 0), (0, 30, [], 0), (22, 33, [3, 4], 0), zno, zno, (4, 34, [0], 0), (0, 35, [], 0), (22, 38, [3, 5], 0), zno, zno, (4, 39, [0], 0), (0, 40, [], -1), (22, 43, [3, 6], 0), zno, zno, (38, 0, [], 0)]
/-- TieOffice$Reader.parse([II)I -/
def zc30 : List (Nat × Nat × List Nat × Int) := [(4, 1, [0], 0), (21, 4, [3, 0], 0), zno, zno, (34, 7, [14, 1, 0], 0), zno, zno, (4, 8, [0], 0), (4, 9, [1], 0), (25, 12, [3, 3], 0), zno, zno, (4, 13, [0], 0), (2, 14, [2], 0), (22, 17, [3, 4], 0), zno, zno, (4, 18, [0], 0), (0, 19, [], 0), (22, 22, [3, 5], 0), zno, zno, (4, 23, [0], 0), (0, 24, [], 0), (22, 27, [3, 1], 0), zno, zno, (4, 28, [0], 0), (0, 29, [], -1), (22, 32, [3, 6], 0), zno, zno, (0, 33, [], 1), (5, 34, [3], 0), (2, 35, [3], 0), (80, 38, [81], 0), zno, zno, (4, 39, [0], 0), (21, 42, [3, 5], 0), zno, zno, (4, 43, [0], 0), (21, 46, [3, 4], 0), zno, zno, (73, 49, [81], 0), zno, zno, (4, 50, [0], 0), (21, 53, [3, 1], 0), zno, zno, (0, 56, [], 200), zno, zno, (73, 59, [81], 0), zno, zno, (4, 60, [0], 0), (34, 63, [31, 1, 0], 0), zno, zno, (5, 64, [3], 0), (2, 65, [3], 0), (80, 68, [34], 0), zno, zno, (4, 69, [0], 0), (18, 70, [], 0), (21, 73, [3, 1], 0), zno, zno, (0, 74, [], 1), (50, 75, [], 0), (22, 78, [3, 1], 0), zno, zno, (17, 81, [34], 0), zno, zno, (4, 82, [0], 0), (21, 85, [3, 0], 0), zno, zno, (34, 88, [16, 1, 0], 0), zno, zno, (2, 89, [3], 0), (81, 92, [108], 0), zno, zno, (4, 93, [0], 0), (21, 96, [3, 5], 0), zno, zno, (4, 97, [0], 0), (21, 100, [3, 4], 0), zno, zno, (73, 103, [108], 0), zno, zno, (4, 104, [0], 0), (21, 107, [3, 5], 0), zno, zno, (35, 0, [], 0), (4, 109, [0], 0), (21, 112, [3, 6], 0), zno, zno, (0, 113, [], -1), (70, 116, [121], 0), zno, zno, (4, 117, [0], 0), (21, 120, [3, 6], 0), zno, zno, (35, 0, [], 0), (2, 122, [3], 0), (80, 125, [129], 0), zno, zno, (0, 126, [], -1), (17, 129, [133], 0), zno, zno, (4, 130, [0], 0), (21, 133, [3, 4], 0), zno, zno, (35, 0, [], 0)]
/-- TieOffice$Reader.item()Z -/
def zc31 : List (Nat × Nat × List Nat × Int) := [(4, 1, [0], 0), (34, 4, [38, 1, 0], 0), zno, zno, (5, 5, [1], 0), (2, 6, [1], 0), (0, 8, [], 43), zno, (70, 11, [17], 0), zno, zno, (2, 12, [1], 0), (0, 14, [], 45), zno, (71, 17, [33], 0), zno, zno, (4, 18, [0], 0), (2, 19, [1], 0), (0, 21, [], 43), zno, (71, 24, [28], 0), zno, zno, (0, 25, [], 1), (17, 28, [29], 0), zno, zno, (0, 29, [], 0), (34, 32, [34, 2, 0], 0), zno, zno, (36, 0, [], 0), (4, 34, [0], 0), (2, 35, [1], 0), (0, 37, [], 97), zno, (51, 38, [], 0), (34, 41, [32, 2, 0], 0), zno, zno, (36, 0, [], 0)]
/-- TieOffice$Reader.placeItem(I)Z -/
def zc32 : List (Nat × Nat × List Nat × Int) := [(2, 1, [1], 0), (82, 4, [21], 0), zno, zno, (2, 5, [1], 0), (0, 7, [], 16), zno, (73, 10, [21], 0), zno, zno, (4, 11, [0], 0), (21, 14, [3, 0], 0), zno, zno, (2, 15, [1], 0), (34, 18, [17, 2, 0], 0), zno, zno, (80, 21, [23], 0), zno, zno, (0, 22, [], 0), (36, 0, [], 0), (4, 24, [0], 0), (18, 25, [], 0), (21, 28, [3, 5], 0), zno, zno, (0, 29, [], 1), (50, 30, [], 0), (22, 33, [3, 5], 0), zno, zno, (4, 34, [0], 0), (34, 37, [38, 1, 0], 0), zno, zno, (0, 39, [], 59), zno, (71, 42, [48], 0), zno, zno, (4, 43, [0], 0), (2, 44, [1], 0), (34, 47, [33, 2, 0], 0), zno, zno, (36, 0, [], 0), (4, 49, [0], 0), (0, 50, [], 2), (34, 53, [36, 2, 0], 0), zno, zno, (5, 54, [2], 0), (2, 55, [2], 0), (0, 56, [], -1), (70, 59, [68], 0), zno, zno, (4, 60, [0], 0), (0, 62, [], 59), zno, (34, 65, [37, 2, 0], 0), zno, zno, (81, 68, [70], 0), zno, zno, (0, 69, [], 0), (36, 0, [], 0), (4, 71, [0], 0), (21, 74, [3, 0], 0), zno, zno, (18, 75, [], 0), (21, 78, [1, 0], 0), zno, zno, (0, 79, [], 1), (2, 80, [1], 0), (56, 81, [], 0), (54, 82, [], 0), (22, 85, [1, 0], 0), zno, zno, (4, 86, [0], 0), (21, 89, [3, 0], 0), zno, zno, (21, 92, [1, 5], 0), zno, zno, (2, 93, [1], 0), (2, 94, [2], 0), (27, 95, [], 0), (4, 96, [0], 0), (21, 99, [3, 2], 0), zno, zno, (2, 100, [1], 0), (2, 101, [1], 0), (27, 102, [], 0), (0, 103, [], 1), (36, 0, [], 0)]
/-- TieOffice$Reader.feederEnd(I)Z -/
def zc33 : List (Nat × Nat × List Nat × Int) := [(4, 1, [0], 0), (21, 4, [3, 0], 0), zno, zno, (21, 7, [1, 1], 0), zno, zno, (34, 10, [164, 1, 1], 0), zno, zno, (0, 11, [], 4), (72, 14, [16], 0), zno, zno, (0, 15, [], 0), (36, 0, [], 0), (4, 17, [0], 0), (18, 18, [], 0), (21, 21, [3, 5], 0), zno, zno, (0, 22, [], 1), (50, 23, [], 0), (22, 26, [3, 5], 0), zno, zno, (4, 27, [0], 0), (21, 30, [3, 0], 0), zno, zno, (18, 31, [], 0), (21, 34, [1, 0], 0), zno, zno, (0, 35, [], 1), (2, 36, [1], 0), (56, 37, [], 0), (54, 38, [], 0), (22, 41, [1, 0], 0), zno, zno, (4, 42, [0], 0), (21, 45, [3, 0], 0), zno, zno, (18, 46, [], 0), (21, 49, [1, 1], 0), zno, zno, (0, 50, [], 1), (2, 51, [1], 0), (56, 52, [], 0), (54, 53, [], 0), (22, 56, [1, 1], 0), zno, zno, (4, 57, [0], 0), (21, 60, [3, 2], 0), zno, zno, (2, 61, [1], 0), (0, 63, [], 16), zno, (27, 64, [], 0), (0, 65, [], 1), (36, 0, [], 0)]
/-- TieOffice$Reader.lineItem(Z)Z -/
def zc34 : List (Nat × Nat × List Nat × Int) := [(4, 1, [0], 0), (21, 4, [3, 0], 0), zno, zno, (21, 7, [1, 2], 0), zno, zno, (5, 8, [2], 0), (2, 9, [2], 0), (0, 11, [], 24), zno, (72, 14, [16], 0), zno, zno, (0, 15, [], 0), (36, 0, [], 0), (4, 17, [0], 0), (21, 20, [3, 5], 0), zno, zno, (5, 21, [3], 0), (4, 22, [0], 0), (18, 23, [], 0), (21, 26, [3, 5], 0), zno, zno, (0, 27, [], 1), (50, 28, [], 0), (22, 31, [3, 5], 0), zno, zno, (4, 32, [0], 0), (34, 35, [38, 1, 0], 0), zno, zno, (0, 37, [], 97), zno, (51, 38, [], 0), (5, 40, [4], 0), zno, (4, 41, [0], 0), (21, 44, [3, 0], 0), zno, zno, (2, 46, [4], 0), zno, (34, 49, [17, 2, 0], 0), zno, zno, (81, 52, [54], 0), zno, zno, (0, 53, [], 0), (36, 0, [], 0), (4, 55, [0], 0), (18, 56, [], 0), (21, 59, [3, 5], 0), zno, zno, (0, 60, [], 1), (50, 61, [], 0), (22, 64, [3, 5], 0), zno, zno, (4, 65, [0], 0), (34, 68, [38, 1, 0], 0), zno, zno, (0, 70, [], 97), zno, (51, 71, [], 0), (5, 73, [5], 0), zno, (4, 74, [0], 0), (21, 77, [3, 0], 0), zno, zno, (2, 79, [5], 0), zno, (34, 82, [17, 2, 0], 0), zno, zno, (80, 85, [107], 0), zno, zno, (2, 87, [5], 0), zno, (2, 89, [4], 0), zno, (70, 92, [107], 0), zno, zno, (4, 93, [0], 0), (21, 96, [3, 0], 0), zno, zno, (2, 98, [4], 0), zno, (2, 100, [5], 0), zno, (34, 103, [23, 3, 0], 0), zno, zno, (0, 104, [], -1), (70, 107, [109], 0), zno, zno, (0, 108, [], 0), (36, 0, [], 0), (4, 110, [0], 0), (18, 111, [], 0), (21, 114, [3, 5], 0), zno, zno, (0, 115, [], 1), (50, 116, [], 0), (22, 119, [3, 5], 0), zno, zno, (4, 120, [0], 0), (34, 123, [38, 1, 0], 0), zno, zno, (0, 125, [], 48), zno, (71, 128, [130], 0), zno, zno, (0, 129, [], 0), (36, 0, [], 0), (4, 131, [0], 0), (0, 132, [], 2), (34, 135, [36, 2, 0], 0), zno, zno, (5, 137, [6], 0), zno, (2, 139, [6], 0), zno, (0, 140, [], -1), (70, 143, [152], 0), zno, zno, (4, 144, [0], 0), (0, 146, [], 44), zno, (34, 149, [37, 2, 0], 0), zno, zno, (81, 152, [154], 0), zno, zno, (0, 153, [], 0), (36, 0, [], 0), (4, 155, [0], 0), (0, 156, [], 3), (34, 159, [36, 2, 0], 0), zno, zno, (5, 161, [7], 0), zno, (2, 163, [7], 0), zno, (0, 164, [], -1), (70, 167, [176], 0), zno, zno, (4, 168, [0], 0), (0, 170, [], 59), zno, (34, 173, [37, 2, 0], 0), zno, zno, (81, 176, [178], 0), zno, zno, (0, 177, [], 0), (36, 0, [], 0), (4, 179, [0], 0), (21, 182, [3, 0], 0), zno, zno, (21, 185, [1, 6], 0), zno, zno, (2, 186, [2], 0), (2, 188, [4], 0), zno, (27, 189, [], 0), (4, 190, [0], 0), (21, 193, [3, 0], 0), zno, zno, (21, 196, [1, 7], 0), zno, zno, (2, 197, [2], 0), (2, 199, [5], 0), zno, (27, 200, [], 0), (4, 201, [0], 0), (21, 204, [3, 0], 0), zno, zno, (21, 207, [1, 8], 0), zno, zno, (2, 208, [2], 0), (2, 210, [6], 0), zno, (27, 211, [], 0), (4, 212, [0], 0), (21, 215, [3, 0], 0), zno, zno, (21, 218, [1, 9], 0), zno, zno, (2, 219, [2], 0), (2, 221, [7], 0), zno, (27, 222, [], 0), (4, 223, [0], 0), (21, 226, [3, 0], 0), zno, zno, (2, 227, [2], 0), (0, 228, [], 1), (50, 229, [], 0), (22, 232, [1, 2], 0), zno, zno, (2, 233, [1], 0), (80, 236, [242], 0), zno, zno, (4, 237, [0], 0), (2, 238, [2], 0), (2, 239, [3], 0), (34, 242, [35, 3, 0], 0), zno, zno, (0, 243, [], 1), (36, 0, [], 0)]
/-- TieOffice$Reader.join(II)V -/
def zc35 : List (Nat × Nat × List Nat × Int) := [(4, 1, [0], 0), (21, 4, [3, 2], 0), zno, zno, (4, 5, [0], 0), (21, 8, [3, 0], 0), zno, zno, (21, 11, [1, 6], 0), zno, zno, (2, 12, [1], 0), (26, 13, [], 0), (26, 14, [], 0), (5, 15, [3], 0), (4, 16, [0], 0), (21, 19, [3, 2], 0), zno, zno, (4, 20, [0], 0), (21, 23, [3, 0], 0), zno, zno, (21, 26, [1, 7], 0), zno, zno, (2, 27, [1], 0), (26, 28, [], 0), (26, 29, [], 0), (5, 31, [4], 0), zno, (4, 32, [0], 0), (21, 35, [3, 0], 0), zno, zno, (18, 36, [], 0), (21, 39, [1, 3], 0), zno, zno, (0, 40, [], 1), (2, 41, [1], 0), (56, 42, [], 0), (54, 43, [], 0), (22, 46, [1, 3], 0), zno, zno, (2, 47, [3], 0), (2, 49, [4], 0), zno, (71, 52, [66], 0), zno, zno, (4, 53, [0], 0), (21, 56, [3, 6], 0), zno, zno, (0, 57, [], -1), (71, 60, [65], 0), zno, zno, (4, 61, [0], 0), (2, 62, [2], 0), (22, 65, [3, 6], 0), zno, zno, (38, 0, [], 0), (2, 68, [4], 0), zno, (0, 70, [], 16), zno, (71, 73, [79], 0), zno, zno, (2, 74, [3], 0), (5, 76, [4], 0), zno, (0, 78, [], 16), zno, (5, 79, [3], 0), (0, 80, [], 0), (5, 82, [5], 0), zno, (2, 84, [5], 0), zno, (0, 86, [], 16), zno, (73, 89, [115], 0), zno, zno, (4, 90, [0], 0), (21, 93, [3, 2], 0), zno, zno, (2, 95, [5], 0), zno, (26, 96, [], 0), (2, 98, [4], 0), zno, (71, 101, [109], 0), zno, zno, (4, 102, [0], 0), (21, 105, [3, 2], 0), zno, zno, (2, 107, [5], 0), zno, (2, 108, [3], 0), (27, 109, [], 0), (8, 112, [5], 1), zno, zno, (17, 115, [82], 0), zno, zno, (38, 0, [], 0)]
/-- TieOffice$Reader.figures(I)I -/
def zc36 : List (Nat × Nat × List Nat × Int) := [(0, 1, [], -1), (5, 2, [2], 0), (0, 3, [], 0), (5, 4, [3], 0), (2, 5, [3], 0), (2, 6, [1], 0), (73, 9, [67], 0), zno, zno, (4, 10, [0], 0), (34, 13, [38, 1, 0], 0), zno, zno, (5, 15, [4], 0), zno, (2, 17, [4], 0), zno, (0, 19, [], 48), zno, (72, 22, [29], 0), zno, zno, (2, 24, [4], 0), zno, (0, 26, [], 57), zno, (75, 29, [31], 0), zno, zno, (2, 30, [2], 0), (35, 0, [], 0), (2, 32, [2], 0), (0, 33, [], -1), (71, 36, [40], 0), zno, zno, (0, 37, [], 0), (17, 40, [44], 0), zno, zno, (0, 42, [], 10), zno, (2, 43, [2], 0), (52, 44, [], 0), (2, 46, [4], 0), zno, (50, 47, [], 0), (0, 49, [], 48), zno, (51, 50, [], 0), (5, 51, [2], 0), (4, 52, [0], 0), (18, 53, [], 0), (21, 56, [3, 5], 0), zno, zno, (0, 57, [], 1), (50, 58, [], 0), (22, 61, [3, 5], 0), zno, zno, (8, 64, [3], 1), zno, zno, (17, 67, [4], 0), zno, zno, (2, 68, [2], 0), (35, 0, [], 0)]
/-- TieOffice$Reader.skip(I)Z -/
def zc37 : List (Nat × Nat × List Nat × Int) := [(4, 1, [0], 0), (34, 4, [38, 1, 0], 0), zno, zno, (2, 5, [1], 0), (70, 8, [10], 0), zno, zno, (0, 9, [], 0), (36, 0, [], 0), (4, 11, [0], 0), (18, 12, [], 0), (21, 15, [3, 5], 0), zno, zno, (0, 16, [], 1), (50, 17, [], 0), (22, 20, [3, 5], 0), zno, zno, (0, 21, [], 1), (36, 0, [], 0)]
/-- TieOffice$Reader.next()I -/
def zc38 : List (Nat × Nat × List Nat × Int) := [(4, 1, [0], 0), (21, 4, [3, 3], 0), zno, zno, (16, 7, [37], 0), zno, zno, (4, 8, [0], 0), (21, 11, [3, 5], 0), zno, zno, (82, 14, [37], 0), zno, zno, (4, 15, [0], 0), (21, 18, [3, 5], 0), zno, zno, (4, 19, [0], 0), (21, 22, [3, 4], 0), zno, zno, (73, 25, [37], 0), zno, zno, (4, 26, [0], 0), (21, 29, [3, 5], 0), zno, zno, (4, 30, [0], 0), (21, 33, [3, 3], 0), zno, zno, (30, 34, [], 0), (72, 37, [39], 0), zno, zno, (0, 38, [], -1), (35, 0, [], 0), (4, 40, [0], 0), (21, 43, [3, 3], 0), zno, zno, (4, 44, [0], 0), (21, 47, [3, 5], 0), zno, zno, (26, 48, [], 0), (35, 0, [], 0)]
/-- TieOffice$Relight.<init>()V -/
def zc39 : List (Nat × Nat × List Nat × Int) := [(4, 1, [0], 0), (41, 4, [], 0), zno, zno, (4, 5, [0], 0), (0, 6, [], 0), (22, 9, [4, 0], 0), zno, zno, (4, 10, [0], 0), (0, 11, [], 0), (22, 14, [4, 1], 0), zno, zno, (4, 15, [0], 0), (0, 16, [], 0), (22, 19, [4, 2], 0), zno, zno, (4, 20, [0], 0), (0, 22, [], 12), zno, (32, 24, [], 0), zno, (25, 27, [4, 3], 0), zno, zno, (4, 28, [0], 0), (0, 29, [], 0), (22, 32, [4, 4], 0), zno, zno, (4, 33, [0], 0), (0, 36, [], 128), zno, zno, (32, 38, [], 0), zno, (25, 41, [4, 5], 0), zno, zno, (4, 42, [0], 0), (31, 45, [0], 0), zno, zno, (18, 46, [], 0), (34, 49, [0, 1, 3], 0), zno, zno, (25, 52, [4, 6], 0), zno, zno, (4, 53, [0], 0), (0, 54, [], 0), (23, 57, [4, 7], 0), zno, zno, (4, 58, [0], 0), (0, 59, [], 0), (23, 62, [4, 8], 0), zno, zno, (38, 0, [], 0)]
/-- TieOffice$Relight.forget()V -/
def zc40 : List (Nat × Nat × List Nat × Int) := [(4, 1, [0], 0), (0, 2, [], 0), (23, 5, [4, 7], 0), zno, zno, (38, 0, [], 0)]
/-- TieOffice$Relight.find(LTieOffice$Net;LTieOffice$Flow;)Z -/
def zc41 : List (Nat × Nat × List Nat × Int) := [(4, 1, [0], 0), (21, 4, [4, 7], 0), zno, zno, (80, 7, [20], 0), zno, zno, (4, 8, [0], 0), (21, 11, [4, 8], 0), zno, zno, (81, 14, [18], 0), zno, zno, (0, 15, [], 1), (17, 18, [19], 0), zno, zno, (0, 19, [], 0), (36, 0, [], 0), (4, 21, [0], 0), (0, 22, [], 1), (23, 25, [4, 7], 0), zno, zno, (4, 26, [0], 0), (4, 27, [0], 0), (4, 28, [1], 0), (4, 29, [2], 0), (34, 32, [44, 3, 0], 0), zno, zno, (81, 35, [39], 0), zno, zno, (0, 36, [], 1), (17, 39, [40], 0), zno, zno, (0, 40, [], 0), (23, 43, [4, 8], 0), zno, zno, (4, 44, [0], 0), (21, 47, [4, 8], 0), zno, zno, (80, 50, [52], 0), zno, zno, (0, 51, [], 0), (36, 0, [], 0), (4, 53, [0], 0), (21, 56, [4, 5], 0), zno, zno, (0, 57, [], 0), (34, 60, [165, 2, 1], 0), zno, zno, (4, 61, [0], 0), (0, 62, [], 0), (22, 65, [4, 0], 0), zno, zno, (4, 66, [0], 0), (0, 67, [], 0), (22, 70, [4, 1], 0), zno, zno, (4, 71, [0], 0), (4, 72, [2], 0), (21, 75, [0, 4], 0), zno, zno, (22, 78, [4, 2], 0), zno, zno, (4, 79, [0], 0), (0, 80, [], 0), (34, 83, [47, 2, 0], 0), zno, zno, (0, 84, [], 1), (5, 85, [3], 0), (2, 86, [3], 0), (0, 87, [], 1), (4, 88, [0], 0), (21, 91, [4, 4], 0), zno, zno, (56, 92, [], 0), (73, 95, [120], 0), zno, zno, (4, 96, [0], 0), (2, 97, [3], 0), (2, 98, [3], 0), (0, 99, [], 1), (51, 100, [], 0), (53, 101, [], 0), (34, 104, [48, 2, 0], 0), zno, zno, (80, 107, [114], 0), zno, zno, (4, 108, [0], 0), (4, 109, [1], 0), (4, 110, [2], 0), (2, 111, [3], 0), (34, 114, [45, 4, 0], 0), zno, zno, (8, 117, [3], 1), zno, zno, (17, 120, [85], 0), zno, zno, (0, 121, [], 1), (36, 0, [], 0)]
/-- TieOffice$Relight.inOrder(LTieOffice$Net;I)I -/
def zc42 : List (Nat × Nat × List Nat × Int) := [(4, 1, [0], 0), (21, 4, [4, 0], 0), zno, zno, (5, 5, [3], 0), (4, 6, [1], 0), (21, 9, [1, 3], 0), zno, zno, (5, 11, [4], 0), zno, (0, 12, [], 0), (5, 14, [5], 0), zno, (2, 16, [5], 0), zno, (4, 17, [0], 0), (21, 20, [4, 1], 0), zno, zno, (73, 23, [80], 0), zno, zno, (4, 24, [0], 0), (21, 27, [4, 6], 0), zno, zno, (4, 28, [1], 0), (2, 30, [4], 0), zno, (34, 33, [1, 3, 0], 0), zno, zno, (4, 34, [0], 0), (4, 35, [1], 0), (2, 36, [3], 0), (34, 39, [43, 3, 0], 0), zno, zno, (5, 41, [6], 0), zno, (2, 43, [6], 0), zno, (0, 44, [], -1), (70, 47, [53], 0), zno, zno, (2, 49, [5], 0), zno, (2, 50, [2], 0), (71, 53, [56], 0), zno, zno, (2, 55, [6], 0), zno, (35, 0, [], 0), (2, 57, [3], 0), (0, 58, [], 1), (2, 60, [6], 0), zno, (56, 61, [], 0), (0, 62, [], -1), (55, 63, [], 0), (53, 64, [], 0), (5, 65, [3], 0), (2, 67, [4], 0), zno, (0, 68, [], 1), (2, 70, [6], 0), zno, (56, 71, [], 0), (54, 72, [], 0), (5, 74, [4], 0), zno, (8, 77, [5], 1), zno, zno, (17, 80, [14], 0), zno, zno, (0, 81, [], -1), (35, 0, [], 0)]
/-- TieOffice$Relight.lowestAtLight(LTieOffice$Net;I)I -/
def zc43 : List (Nat × Nat × List Nat × Int) := [(0, 1, [], 0), (5, 2, [3], 0), (2, 3, [3], 0), (4, 4, [1], 0), (21, 7, [1, 2], 0), zno, zno, (73, 10, [70], 0), zno, zno, (2, 11, [2], 0), (2, 12, [3], 0), (57, 13, [], 0), (0, 14, [], 1), (53, 15, [], 0), (80, 18, [22], 0), zno, zno, (0, 19, [], 1), (17, 22, [23], 0), zno, zno, (0, 23, [], 0), (5, 25, [4], 0), zno, (2, 27, [4], 0), zno, (80, 30, [64], 0), zno, zno, (4, 31, [0], 0), (21, 34, [4, 6], 0), zno, zno, (4, 35, [1], 0), (21, 38, [1, 6], 0), zno, zno, (2, 39, [3], 0), (26, 40, [], 0), (34, 43, [2, 2, 0], 0), zno, zno, (81, 46, [62], 0), zno, zno, (4, 47, [0], 0), (21, 50, [4, 6], 0), zno, zno, (4, 51, [1], 0), (21, 54, [1, 7], 0), zno, zno, (2, 55, [3], 0), (26, 56, [], 0), (34, 59, [2, 2, 0], 0), zno, zno, (80, 62, [64], 0), zno, zno, (2, 63, [3], 0), (35, 0, [], 0), (8, 67, [3], 1), zno, zno, (17, 70, [2], 0), zno, zno, (0, 71, [], -1), (35, 0, [], 0)]
/-- TieOffice$Relight.gather(LTieOffice$Net;LTieOffice$Flow;)Z -/
def zc44 : List (Nat × Nat × List Nat × Int) := [(4, 1, [0], 0), (0, 2, [], 0), (22, 5, [4, 4], 0), zno, zno, (0, 6, [], 0), (5, 7, [3], 0), (2, 8, [3], 0), (4, 9, [1], 0), (21, 12, [1, 2], 0), zno, zno, (73, 15, [105], 0), zno, zno, (4, 16, [2], 0), (4, 17, [1], 0), (21, 20, [1, 6], 0), zno, zno, (2, 21, [3], 0), (26, 22, [], 0), (34, 25, [2, 2, 0], 0), zno, zno, (80, 28, [45], 0), zno, zno, (4, 29, [2], 0), (4, 30, [1], 0), (21, 33, [1, 7], 0), zno, zno, (2, 34, [3], 0), (26, 35, [], 0), (34, 38, [2, 2, 0], 0), zno, zno, (80, 41, [45], 0), zno, zno, (0, 42, [], 1), (17, 45, [46], 0), zno, zno, (0, 46, [], 0), (5, 48, [4], 0), zno, (2, 50, [4], 0), zno, (81, 53, [99], 0), zno, zno, (4, 54, [1], 0), (2, 55, [3], 0), (4, 56, [1], 0), (21, 59, [1, 3], 0), zno, zno, (34, 62, [21, 3, 0], 0), zno, zno, (81, 65, [68], 0), zno, zno, (17, 68, [99], 0), zno, zno, (4, 69, [0], 0), (21, 72, [4, 4], 0), zno, zno, (0, 74, [], 12), zno, (72, 77, [79], 0), zno, zno, (0, 78, [], 0), (36, 0, [], 0), (4, 80, [0], 0), (21, 83, [4, 3], 0), zno, zno, (4, 84, [0], 0), (21, 87, [4, 4], 0), zno, zno, (2, 88, [3], 0), (27, 89, [], 0), (4, 90, [0], 0), (18, 91, [], 0), (21, 94, [4, 4], 0), zno, zno, (0, 95, [], 1), (50, 96, [], 0), (22, 99, [4, 4], 0), zno, zno, (8, 102, [3], 1), zno, zno, (17, 105, [7], 0), zno, zno, (0, 106, [], 1), (36, 0, [], 0)]
/-- TieOffice$Relight.tryOut(LTieOffice$Net;LTieOffice$Flow;I)V -/
def zc45 : List (Nat × Nat × List Nat × Int) := [(4, 1, [0], 0), (2, 2, [3], 0), (34, 5, [46, 2, 0], 0), zno, zno, (5, 7, [4], 0), zno, (4, 8, [0], 0), (21, 11, [4, 6], 0), zno, zno, (4, 12, [1], 0), (4, 13, [1], 0), (21, 16, [1, 3], 0), zno, zno, (2, 18, [4], 0), zno, (54, 19, [], 0), (34, 22, [1, 3, 0], 0), zno, zno, (4, 23, [0], 0), (21, 26, [4, 6], 0), zno, zno, (21, 29, [0, 1], 0), zno, zno, (80, 32, [43], 0), zno, zno, (4, 33, [0], 0), (21, 36, [4, 6], 0), zno, zno, (4, 37, [2], 0), (34, 40, [3, 2, 0], 0), zno, zno, (81, 43, [44], 0), zno, zno, (38, 0, [], 0), (4, 45, [0], 0), (2, 46, [3], 0), (34, 49, [47, 2, 0], 0), zno, zno, (2, 50, [3], 0), (34, 53, [164, 1, 1], 0), zno, zno, (5, 55, [5], 0), zno, (4, 56, [0], 0), (21, 59, [4, 6], 0), zno, zno, (21, 62, [0, 4], 0), zno, zno, (4, 63, [0], 0), (21, 66, [4, 2], 0), zno, zno, (74, 69, [92], 0), zno, zno, (4, 70, [0], 0), (21, 73, [4, 6], 0), zno, zno, (21, 76, [0, 4], 0), zno, zno, (4, 77, [0], 0), (21, 80, [4, 2], 0), zno, zno, (71, 83, [115], 0), zno, zno, (2, 85, [5], 0), zno, (4, 86, [0], 0), (21, 89, [4, 1], 0), zno, zno, (73, 92, [115], 0), zno, zno, (4, 93, [0], 0), (2, 95, [4], 0), zno, (22, 98, [4, 0], 0), zno, zno, (4, 99, [0], 0), (2, 101, [5], 0), zno, (22, 104, [4, 1], 0), zno, zno, (4, 105, [0], 0), (4, 106, [0], 0), (21, 109, [4, 6], 0), zno, zno, (21, 112, [0, 4], 0), zno, zno, (22, 115, [4, 2], 0), zno, zno, (38, 0, [], 0)]
/-- TieOffice$Relight.linesOf(I)I -/
def zc46 : List (Nat × Nat × List Nat × Int) := [(0, 1, [], 0), (5, 2, [2], 0), (0, 3, [], 0), (5, 4, [3], 0), (2, 5, [3], 0), (4, 6, [0], 0), (21, 9, [4, 4], 0), zno, zno, (73, 12, [37], 0), zno, zno, (2, 13, [1], 0), (2, 14, [3], 0), (57, 15, [], 0), (0, 16, [], 1), (53, 17, [], 0), (80, 20, [31], 0), zno, zno, (2, 21, [2], 0), (0, 22, [], 1), (4, 23, [0], 0), (21, 26, [4, 3], 0), zno, zno, (2, 27, [3], 0), (26, 28, [], 0), (56, 29, [], 0), (54, 30, [], 0), (5, 31, [2], 0), (8, 34, [3], 1), zno, zno, (17, 37, [4], 0), zno, zno, (2, 38, [2], 0), (35, 0, [], 0)]
/-- TieOffice$Relight.note(I)V -/
def zc47 : List (Nat × Nat × List Nat × Int) := [(2, 1, [1], 0), (0, 2, [], 5), (57, 3, [], 0), (5, 4, [2], 0), (2, 5, [2], 0), (82, 8, [32], 0), zno, zno, (2, 9, [2], 0), (4, 10, [0], 0), (21, 13, [4, 5], 0), zno, zno, (30, 14, [], 0), (73, 17, [32], 0), zno, zno, (4, 18, [0], 0), (21, 21, [4, 5], 0), zno, zno, (2, 22, [2], 0), (19, 23, [], 0), (26, 24, [], 0), (0, 25, [], 1), (2, 26, [1], 0), (0, 28, [], 31), zno, (53, 29, [], 0), (56, 30, [], 0), (54, 31, [], 0), (27, 32, [], 0), (38, 0, [], 0)]
/-- TieOffice$Relight.isSound(I)Z -/
def zc48 : List (Nat × Nat × List Nat × Int) := [(2, 1, [1], 0), (0, 2, [], 5), (57, 3, [], 0), (5, 4, [2], 0), (2, 5, [2], 0), (82, 8, [37], 0), zno, zno, (2, 9, [2], 0), (4, 10, [0], 0), (21, 13, [4, 5], 0), zno, zno, (30, 14, [], 0), (73, 17, [37], 0), zno, zno, (4, 18, [0], 0), (21, 21, [4, 5], 0), zno, zno, (2, 22, [2], 0), (26, 23, [], 0), (2, 24, [1], 0), (0, 26, [], 31), zno, (53, 27, [], 0), (57, 28, [], 0), (0, 29, [], 1), (53, 30, [], 0), (80, 33, [37], 0), zno, zno, (0, 34, [], 1), (17, 37, [38], 0), zno, zno, (0, 38, [], 0), (36, 0, [], 0)]
/-- TieOffice$Ring.<init>()V -/
def zc49 : List (Nat × Nat × List Nat × Int) := [(4, 1, [0], 0), (41, 4, [], 0), zno, zno, (4, 5, [0], 0), (0, 6, [], 0), (22, 9, [5, 0], 0), zno, zno, (4, 10, [0], 0), (0, 12, [], 16), zno, (32, 14, [], 0), zno, (25, 17, [5, 1], 0), zno, zno, (4, 18, [0], 0), (0, 20, [], 16), zno, (32, 22, [], 0), zno, (25, 25, [5, 2], 0), zno, zno, (4, 26, [0], 0), (0, 28, [], 16), zno, (32, 30, [], 0), zno, (25, 33, [5, 3], 0), zno, zno, (4, 34, [0], 0), (0, 35, [], 0), (22, 38, [5, 4], 0), zno, zno, (38, 0, [], 0)]
/-- TieOffice$Ring.find(LTieOffice$Net;LTieOffice$Flow;I)V -/
def zc50 : List (Nat × Nat × List Nat × Int) := [(4, 1, [0], 0), (2, 2, [3], 0), (22, 5, [5, 4], 0), zno, zno, (4, 6, [0], 0), (0, 7, [], 0), (22, 10, [5, 0], 0), zno, zno, (4, 11, [1], 0), (21, 14, [1, 6], 0), zno, zno, (2, 15, [3], 0), (26, 16, [], 0), (5, 18, [4], 0), zno, (4, 19, [1], 0), (21, 22, [1, 7], 0), zno, zno, (2, 23, [3], 0), (26, 24, [], 0), (5, 26, [5], 0), zno, (4, 27, [2], 0), (2, 29, [4], 0), zno, (2, 31, [5], 0), zno, (34, 34, [4, 3, 0], 0), zno, zno, (81, 37, [38], 0), zno, zno, (38, 0, [], 0), (0, 39, [], 0), (5, 41, [6], 0), zno, (0, 42, [], 0), (5, 44, [7], 0), zno, (2, 46, [7], 0), zno, (0, 48, [], 32), zno, (73, 51, [170], 0), zno, zno, (4, 52, [2], 0), (2, 54, [4], 0), zno, (2, 56, [5], 0), zno, (34, 59, [54, 3, 1], 0), zno, zno, (81, 62, [170], 0), zno, zno, (4, 63, [2], 0), (21, 66, [0, 8], 0), zno, zno, (2, 68, [4], 0), zno, (26, 69, [], 0), (4, 70, [2], 0), (21, 73, [0, 8], 0), zno, zno, (2, 75, [5], 0), zno, (26, 76, [], 0), (72, 79, [120], 0), zno, zno, (4, 80, [2], 0), (21, 83, [0, 7], 0), zno, zno, (2, 85, [4], 0), zno, (26, 86, [], 0), (5, 88, [8], 0), zno, (4, 89, [0], 0), (2, 91, [8], 0), zno, (0, 92, [], 1), (4, 93, [2], 0), (34, 96, [55, 4, 0], 0), zno, zno, (2, 98, [8], 0), zno, (0, 99, [], -1), (71, 102, [107], 0), zno, zno, (2, 104, [4], 0), zno, (17, 107, [115], 0), zno, zno, (4, 108, [1], 0), (2, 110, [8], 0), zno, (2, 112, [4], 0), zno, (34, 115, [22, 3, 0], 0), zno, zno, (5, 117, [4], 0), zno, (17, 120, [164], 0), zno, zno, (4, 121, [2], 0), (21, 124, [0, 7], 0), zno, zno, (2, 126, [5], 0), zno, (26, 127, [], 0), (5, 129, [8], 0), zno, (2, 131, [8], 0), zno, (0, 132, [], -1), (70, 135, [164], 0), zno, zno, (2, 137, [6], 0), zno, (0, 139, [], 16), zno, (73, 142, [164], 0), zno, zno, (4, 143, [0], 0), (21, 146, [5, 3], 0), zno, zno, (2, 148, [6], 0), zno, (2, 150, [8], 0), zno, (27, 151, [], 0), (8, 154, [6], 1), zno, zno, (4, 155, [1], 0), (2, 157, [8], 0), zno, (2, 159, [5], 0), zno, (34, 162, [22, 3, 0], 0), zno, zno, (5, 164, [5], 0), zno, (8, 167, [7], 1), zno, zno, (17, 170, [44], 0), zno, zno, (2, 172, [6], 0), zno, (0, 173, [], 1), (51, 174, [], 0), (5, 176, [7], 0), zno, (2, 178, [7], 0), zno, (82, 181, [200], 0), zno, zno, (4, 182, [0], 0), (4, 183, [0], 0), (21, 186, [5, 3], 0), zno, zno, (2, 188, [7], 0), zno, (26, 189, [], 0), (0, 190, [], -1), (4, 191, [2], 0), (34, 194, [55, 4, 0], 0), zno, zno, (8, 197, [7], -1), zno, zno, (17, 200, [176], 0), zno, zno, (38, 0, [], 0)]
/-- TieOffice$Ring.whereIs(I)I -/
def zc51 : List (Nat × Nat × List Nat × Int) := [(0, 1, [], 0), (5, 2, [2], 0), (2, 3, [2], 0), (4, 4, [0], 0), (21, 7, [5, 0], 0), zno, zno, (73, 10, [28], 0), zno, zno, (4, 11, [0], 0), (21, 14, [5, 1], 0), zno, zno, (2, 15, [2], 0), (26, 16, [], 0), (2, 17, [1], 0), (71, 20, [22], 0), zno, zno, (2, 21, [2], 0), (35, 0, [], 0), (8, 25, [2], 1), zno, zno, (17, 28, [2], 0), zno, zno, (0, 29, [], -1), (35, 0, [], 0)]
/-- TieOffice$Ring.gainAt(LTieOffice$Net;I)J -/
def zc52 : List (Nat × Nat × List Nat × Int) := [(4, 1, [0], 0), (21, 4, [5, 2], 0), zno, zno, (2, 5, [2], 0), (26, 6, [], 0), (12, 7, [], 0), (6, 8, [3], 0), (4, 9, [1], 0), (21, 12, [1, 8], 0), zno, zno, (4, 13, [0], 0), (21, 16, [5, 4], 0), zno, zno, (26, 17, [], 0), (11, 18, [], 0), (12, 19, [], 0), (3, 20, [3], 0), (62, 21, [], 0), (3, 22, [3], 0), (62, 23, [], 0), (6, 25, [5], 0), zno, (0, 26, [], 0), (5, 28, [7], 0), zno, (2, 30, [7], 0), zno, (4, 31, [0], 0), (21, 34, [5, 0], 0), zno, zno, (73, 37, [89], 0), zno, zno, (4, 38, [0], 0), (21, 41, [5, 2], 0), zno, zno, (2, 43, [7], 0), zno, (26, 44, [], 0), (12, 45, [], 0), (6, 47, [8], 0), zno, (3, 49, [8], 0), zno, (3, 50, [3], 0), (61, 51, [], 0), (6, 53, [10], 0), zno, (3, 55, [5], 0), zno, (4, 56, [1], 0), (21, 59, [1, 8], 0), zno, zno, (4, 60, [0], 0), (21, 63, [5, 1], 0), zno, zno, (2, 65, [7], 0), zno, (26, 66, [], 0), (26, 67, [], 0), (12, 68, [], 0), (3, 70, [8], 0), zno, (3, 72, [8], 0), zno, (62, 73, [], 0), (3, 75, [10], 0), zno, (3, 77, [10], 0), zno, (62, 78, [], 0), (61, 79, [], 0), (62, 80, [], 0), (60, 81, [], 0), (6, 83, [5], 0), zno, (8, 86, [7], 1), zno, zno, (17, 89, [28], 0), zno, zno, (3, 91, [5], 0), zno, (37, 0, [], 0)]
/-- TieOffice$Ring.bearsAt(LTieOffice$Net;I)Z -/
def zc53 : List (Nat × Nat × List Nat × Int) := [(4, 1, [0], 0), (21, 4, [5, 2], 0), zno, zno, (2, 5, [2], 0), (26, 6, [], 0), (5, 7, [3], 0), (2, 8, [3], 0), (42, 11, [], 0), zno, zno, (4, 12, [1], 0), (21, 15, [1, 9], 0), zno, zno, (4, 16, [0], 0), (21, 19, [5, 4], 0), zno, zno, (26, 20, [], 0), (75, 23, [25], 0), zno, zno, (0, 24, [], 0), (36, 0, [], 0), (0, 26, [], 0), (5, 28, [4], 0), zno, (2, 30, [4], 0), zno, (4, 31, [0], 0), (21, 34, [5, 0], 0), zno, zno, (73, 37, [91], 0), zno, zno, (4, 38, [1], 0), (21, 41, [1, 9], 0), zno, zno, (4, 42, [0], 0), (21, 45, [5, 1], 0), zno, zno, (2, 47, [4], 0), zno, (26, 48, [], 0), (26, 49, [], 0), (5, 51, [5], 0), zno, (4, 52, [0], 0), (21, 55, [5, 2], 0), zno, zno, (2, 57, [4], 0), zno, (26, 58, [], 0), (2, 59, [3], 0), (51, 60, [], 0), (42, 63, [], 0), zno, zno, (2, 65, [5], 0), zno, (75, 68, [85], 0), zno, zno, (4, 69, [0], 0), (21, 72, [5, 2], 0), zno, zno, (2, 74, [4], 0), zno, (26, 75, [], 0), (42, 78, [], 0), zno, zno, (2, 80, [5], 0), zno, (74, 83, [85], 0), zno, zno, (0, 84, [], 0), (36, 0, [], 0), (8, 88, [4], 1), zno, zno, (17, 91, [28], 0), zno, zno, (0, 92, [], 1), (36, 0, [], 0)]
/-- TieOffice$Ring.meet(LTieOffice$Flow;II)Z -/
def zc54 : List (Nat × Nat × List Nat × Int) := [(2, 1, [1], 0), (2, 2, [2], 0), (70, 5, [23], 0), zno, zno, (4, 6, [0], 0), (21, 9, [0, 8], 0), zno, zno, (2, 10, [1], 0), (26, 11, [], 0), (81, 14, [27], 0), zno, zno, (4, 15, [0], 0), (21, 18, [0, 8], 0), zno, zno, (2, 19, [2], 0), (26, 20, [], 0), (81, 23, [27], 0), zno, zno, (0, 24, [], 1), (17, 27, [28], 0), zno, zno, (0, 28, [], 0), (36, 0, [], 0)]
/-- TieOffice$Ring.add(IILTieOffice$Flow;)V -/
def zc55 : List (Nat × Nat × List Nat × Int) := [(2, 1, [1], 0), (0, 2, [], -1), (70, 5, [14], 0), zno, zno, (4, 6, [0], 0), (21, 9, [5, 0], 0), zno, zno, (0, 11, [], 16), zno, (72, 14, [15], 0), zno, zno, (38, 0, [], 0), (4, 16, [0], 0), (21, 19, [5, 1], 0), zno, zno, (4, 20, [0], 0), (21, 23, [5, 0], 0), zno, zno, (2, 24, [1], 0), (27, 25, [], 0), (4, 26, [0], 0), (21, 29, [5, 2], 0), zno, zno, (4, 30, [0], 0), (21, 33, [5, 0], 0), zno, zno, (2, 34, [2], 0), (4, 35, [3], 0), (21, 38, [0, 10], 0), zno, zno, (2, 39, [1], 0), (26, 40, [], 0), (52, 41, [], 0), (27, 42, [], 0), (4, 43, [0], 0), (18, 44, [], 0), (21, 47, [5, 0], 0), zno, zno, (0, 48, [], 1), (50, 49, [], 0), (22, 52, [5, 0], 0), zno, zno, (38, 0, [], 0)]
/-- TieOffice$Search.<init>()V -/
def zc56 : List (Nat × Nat × List Nat × Int) := [(4, 1, [0], 0), (41, 4, [], 0), zno, zno, (4, 5, [0], 0), (0, 6, [], 0), (22, 9, [6, 0], 0), zno, zno, (4, 10, [0], 0), (0, 11, [], 0), (23, 14, [6, 1], 0), zno, zno, (4, 15, [0], 0), (1, 16, [], 0), (24, 19, [6, 2], 0), zno, zno, (4, 20, [0], 0), (0, 21, [], 0), (22, 24, [6, 3], 0), zno, zno, (4, 25, [0], 0), (0, 28, [], 300), zno, zno, (32, 30, [], 0), zno, (25, 33, [6, 4], 0), zno, zno, (4, 34, [0], 0), (0, 37, [], 512), zno, zno, (32, 39, [], 0), zno, (25, 42, [6, 5], 0), zno, zno, (4, 43, [0], 0), (31, 46, [0], 0), zno, zno, (18, 47, [], 0), (34, 50, [0, 1, 3], 0), zno, zno, (25, 53, [6, 6], 0), zno, zno, (4, 54, [0], 0), (31, 57, [5], 0), zno, zno, (18, 58, [], 0), (34, 61, [49, 1, 3], 0), zno, zno, (25, 64, [6, 7], 0), zno, zno, (4, 65, [0], 0), (0, 66, [], -1), (22, 69, [6, 8], 0), zno, zno, (38, 0, [], 0)]
/-- TieOffice$Search.forget()V -/
def zc57 : List (Nat × Nat × List Nat × Int) := [(4, 1, [0], 0), (0, 2, [], -1), (22, 5, [6, 8], 0), zno, zno, (38, 0, [], 0)]
/-- TieOffice$Search.explore(LTieOffice$Net;I)V -/
def zc58 : List (Nat × Nat × List Nat × Int) := [(4, 1, [0], 0), (21, 4, [6, 8], 0), zno, zno, (2, 5, [2], 0), (71, 8, [9], 0), zno, zno, (38, 0, [], 0), (4, 10, [0], 0), (2, 11, [2], 0), (22, 14, [6, 8], 0), zno, zno, (4, 15, [0], 0), (0, 16, [], 0), (22, 19, [6, 0], 0), zno, zno, (4, 20, [0], 0), (0, 21, [], 0), (23, 24, [6, 1], 0), zno, zno, (4, 25, [0], 0), (21, 28, [6, 5], 0), zno, zno, (0, 29, [], 0), (34, 32, [165, 2, 1], 0), zno, zno, (4, 33, [0], 0), (21, 36, [6, 6], 0), zno, zno, (4, 37, [1], 0), (4, 38, [1], 0), (21, 41, [1, 3], 0), zno, zno, (34, 44, [1, 3, 0], 0), zno, zno, (4, 45, [0], 0), (4, 46, [0], 0), (21, 49, [6, 6], 0), zno, zno, (21, 52, [0, 5], 0), zno, zno, (24, 55, [6, 2], 0), zno, zno, (4, 56, [0], 0), (4, 57, [1], 0), (21, 60, [1, 3], 0), zno, zno, (22, 63, [6, 3], 0), zno, zno, (4, 64, [0], 0), (4, 65, [1], 0), (21, 68, [1, 3], 0), zno, zno, (4, 69, [0], 0), (21, 72, [6, 6], 0), zno, zno, (21, 75, [0, 5], 0), zno, zno, (34, 78, [61, 3, 0], 0), zno, zno, (0, 79, [], 0), (5, 80, [3], 0), (0, 81, [], 0), (5, 83, [4], 0), zno, (2, 85, [4], 0), zno, (2, 86, [2], 0), (73, 89, [154], 0), zno, zno, (4, 90, [0], 0), (21, 93, [6, 1], 0), zno, zno, (81, 96, [154], 0), zno, zno, (4, 97, [0], 0), (21, 100, [6, 0], 0), zno, zno, (5, 102, [5], 0), zno, (2, 103, [3], 0), (5, 105, [6], 0), zno, (2, 107, [6], 0), zno, (2, 109, [5], 0), zno, (73, 112, [145], 0), zno, zno, (2, 114, [6], 0), zno, (0, 117, [], 300), zno, zno, (73, 120, [145], 0), zno, zno, (4, 121, [0], 0), (21, 124, [6, 1], 0), zno, zno, (81, 127, [145], 0), zno, zno, (4, 128, [0], 0), (4, 129, [1], 0), (4, 130, [0], 0), (21, 133, [6, 4], 0), zno, zno, (2, 135, [6], 0), zno, (26, 136, [], 0), (34, 139, [59, 3, 0], 0), zno, zno, (8, 142, [6], 1), zno, zno, (17, 145, [105], 0), zno, zno, (2, 147, [5], 0), zno, (5, 148, [3], 0), (8, 151, [4], 1), zno, zno, (17, 154, [83], 0), zno, zno, (38, 0, [], 0)]
/-- TieOffice$Search.leave(LTieOffice$Net;I)V -/
def zc59 : List (Nat × Nat × List Nat × Int) := [(4, 1, [0], 0), (21, 4, [6, 6], 0), zno, zno, (4, 5, [1], 0), (2, 6, [2], 0), (34, 9, [1, 3, 0], 0), zno, zno, (0, 10, [], 0), (5, 11, [3], 0), (2, 12, [3], 0), (4, 13, [1], 0), (21, 16, [1, 2], 0), zno, zno, (73, 19, [60], 0), zno, zno, (4, 20, [0], 0), (21, 23, [6, 1], 0), zno, zno, (81, 26, [60], 0), zno, zno, (4, 27, [1], 0), (2, 28, [3], 0), (2, 29, [2], 0), (34, 32, [21, 3, 0], 0), zno, zno, (80, 35, [54], 0), zno, zno, (4, 36, [0], 0), (21, 39, [6, 7], 0), zno, zno, (4, 40, [1], 0), (4, 41, [0], 0), (21, 44, [6, 6], 0), zno, zno, (2, 45, [3], 0), (34, 48, [50, 4, 0], 0), zno, zno, (4, 49, [0], 0), (4, 50, [1], 0), (2, 51, [3], 0), (34, 54, [60, 3, 0], 0), zno, zno, (8, 57, [3], 1), zno, zno, (17, 60, [11], 0), zno, zno, (38, 0, [], 0)]
/-- TieOffice$Search.leaveRound(LTieOffice$Net;I)V -/
def zc60 : List (Nat × Nat × List Nat × Int) := [(0, 1, [], 0), (5, 2, [3], 0), (2, 3, [3], 0), (4, 4, [0], 0), (21, 7, [6, 7], 0), zno, zno, (21, 10, [5, 0], 0), zno, zno, (73, 13, [90], 0), zno, zno, (4, 14, [0], 0), (21, 17, [6, 6], 0), zno, zno, (21, 20, [0, 0], 0), zno, zno, (2, 21, [2], 0), (4, 22, [0], 0), (21, 25, [6, 7], 0), zno, zno, (21, 28, [5, 1], 0), zno, zno, (2, 29, [3], 0), (26, 30, [], 0), (34, 33, [96, 3, 4], 0), zno, zno, (5, 35, [4], 0), zno, (4, 36, [0], 0), (21, 39, [6, 5], 0), zno, zno, (4, 40, [0], 0), (2, 42, [4], 0), zno, (34, 45, [62, 2, 0], 0), zno, zno, (26, 46, [], 0), (81, 49, [84], 0), zno, zno, (4, 50, [0], 0), (21, 53, [6, 7], 0), zno, zno, (4, 54, [1], 0), (2, 55, [3], 0), (34, 58, [53, 3, 0], 0), zno, zno, (80, 61, [84], 0), zno, zno, (4, 62, [0], 0), (2, 64, [4], 0), zno, (4, 65, [0], 0), (21, 68, [6, 6], 0), zno, zno, (21, 71, [0, 5], 0), zno, zno, (4, 72, [0], 0), (21, 75, [6, 7], 0), zno, zno, (4, 76, [1], 0), (2, 77, [3], 0), (34, 80, [52, 3, 0], 0), zno, zno, (61, 81, [], 0), (34, 84, [61, 3, 0], 0), zno, zno, (8, 87, [3], 1), zno, zno, (17, 90, [2], 0), zno, zno, (38, 0, [], 0)]
/-- TieOffice$Search.add(IJ)V -/
def zc61 : List (Nat × Nat × List Nat × Int) := [(4, 1, [0], 0), (21, 4, [6, 0], 0), zno, zno, (0, 7, [], 300), zno, zno, (72, 10, [16], 0), zno, zno, (4, 11, [0], 0), (0, 12, [], 1), (23, 15, [6, 1], 0), zno, zno, (38, 0, [], 0), (4, 17, [0], 0), (21, 20, [6, 4], 0), zno, zno, (4, 21, [0], 0), (21, 24, [6, 0], 0), zno, zno, (2, 25, [1], 0), (27, 26, [], 0), (4, 27, [0], 0), (18, 28, [], 0), (21, 31, [6, 0], 0), zno, zno, (0, 32, [], 1), (50, 33, [], 0), (22, 36, [6, 0], 0), zno, zno, (4, 37, [0], 0), (21, 40, [6, 5], 0), zno, zno, (4, 41, [0], 0), (2, 42, [1], 0), (34, 45, [62, 2, 0], 0), zno, zno, (4, 46, [0], 0), (21, 49, [6, 0], 0), zno, zno, (27, 50, [], 0), (3, 51, [2], 0), (4, 52, [0], 0), (21, 55, [6, 2], 0), zno, zno, (13, 56, [], 0), (82, 59, [76], 0), zno, zno, (3, 60, [2], 0), (4, 61, [0], 0), (21, 64, [6, 2], 0), zno, zno, (13, 65, [], 0), (81, 68, [86], 0), zno, zno, (2, 69, [1], 0), (4, 70, [0], 0), (21, 73, [6, 3], 0), zno, zno, (73, 76, [86], 0), zno, zno, (4, 77, [0], 0), (3, 78, [2], 0), (24, 81, [6, 2], 0), zno, zno, (4, 82, [0], 0), (2, 83, [1], 0), (22, 86, [6, 3], 0), zno, zno, (38, 0, [], 0)]
/-- TieOffice$Search.slotOf(I)I -/
def zc62 : List (Nat × Nat × List Nat × Int) := [(2, 1, [1], 0), (0, 3, [], -1640531535), zno, (52, 4, [], 0), (0, 6, [], 23), zno, (58, 7, [], 0), (5, 8, [2], 0), (0, 9, [], 0), (5, 10, [3], 0), (2, 11, [3], 0), (0, 14, [], 512), zno, zno, (73, 17, [67], 0), zno, zno, (4, 18, [0], 0), (21, 21, [6, 5], 0), zno, zno, (2, 22, [2], 0), (26, 23, [], 0), (5, 25, [4], 0), zno, (2, 27, [4], 0), zno, (80, 30, [51], 0), zno, zno, (2, 32, [4], 0), zno, (0, 35, [], 300), zno, zno, (74, 38, [53], 0), zno, zno, (4, 39, [0], 0), (21, 42, [6, 4], 0), zno, zno, (2, 44, [4], 0), zno, (0, 45, [], 1), (51, 46, [], 0), (26, 47, [], 0), (2, 48, [1], 0), (71, 51, [53], 0), zno, zno, (2, 52, [2], 0), (35, 0, [], 0), (2, 54, [2], 0), (0, 55, [], 1), (50, 56, [], 0), (0, 59, [], 511), zno, zno, (53, 60, [], 0), (5, 61, [2], 0), (8, 64, [3], 1), zno, zno, (17, 67, [10], 0), zno, zno, (2, 68, [2], 0), (35, 0, [], 0)]
/-- TieOffice$Survey.<init>()V -/
def zc63 : List (Nat × Nat × List Nat × Int) := [(4, 1, [0], 0), (41, 4, [], 0), zno, zno, (4, 5, [0], 0), (0, 6, [], 0), (22, 9, [7, 0], 0), zno, zno, (4, 10, [0], 0), (0, 11, [], -1), (22, 14, [7, 1], 0), zno, zno, (4, 15, [0], 0), (0, 16, [], -1), (22, 19, [7, 2], 0), zno, zno, (4, 20, [0], 0), (1, 21, [], 0), (24, 24, [7, 3], 0), zno, zno, (4, 25, [0], 0), (31, 28, [5], 0), zno, zno, (18, 29, [], 0), (34, 32, [49, 1, 3], 0), zno, zno, (25, 35, [7, 4], 0), zno, zno, (38, 0, [], 0)]
/-- TieOffice$Survey.look(LTieOffice$Net;LTieOffice$Flow;)V -/
def zc64 : List (Nat × Nat × List Nat × Int) := [(4, 1, [0], 0), (0, 2, [], 0), (22, 5, [7, 0], 0), zno, zno, (4, 6, [0], 0), (0, 7, [], -1), (22, 10, [7, 1], 0), zno, zno, (4, 11, [0], 0), (0, 12, [], -1), (22, 15, [7, 2], 0), zno, zno, (4, 16, [0], 0), (1, 17, [], 0), (24, 20, [7, 3], 0), zno, zno, (0, 21, [], 0), (5, 22, [3], 0), (2, 23, [3], 0), (4, 24, [1], 0), (21, 27, [1, 2], 0), zno, zno, (73, 30, [64], 0), zno, zno, (4, 31, [1], 0), (2, 32, [3], 0), (4, 33, [2], 0), (21, 36, [0, 0], 0), zno, zno, (34, 39, [21, 3, 0], 0), zno, zno, (80, 42, [58], 0), zno, zno, (4, 43, [0], 0), (21, 46, [7, 4], 0), zno, zno, (4, 47, [1], 0), (4, 48, [2], 0), (2, 49, [3], 0), (34, 52, [50, 4, 0], 0), zno, zno, (4, 53, [0], 0), (4, 54, [1], 0), (2, 55, [3], 0), (34, 58, [65, 3, 0], 0), zno, zno, (8, 61, [3], 1), zno, zno, (17, 64, [22], 0), zno, zno, (38, 0, [], 0)]
/-- TieOffice$Survey.lookRound(LTieOffice$Net;I)V -/
def zc65 : List (Nat × Nat × List Nat × Int) := [(0, 1, [], 0), (5, 2, [3], 0), (2, 3, [3], 0), (4, 4, [0], 0), (21, 7, [7, 4], 0), zno, zno, (21, 10, [5, 0], 0), zno, zno, (73, 13, [75], 0), zno, zno, (4, 14, [0], 0), (21, 17, [7, 4], 0), zno, zno, (4, 18, [1], 0), (2, 19, [3], 0), (34, 22, [52, 3, 0], 0), zno, zno, (6, 24, [4], 0), zno, (3, 26, [4], 0), zno, (1, 27, [], 0), (13, 28, [], 0), (85, 31, [69], 0), zno, zno, (4, 32, [0], 0), (21, 35, [7, 4], 0), zno, zno, (4, 36, [1], 0), (2, 37, [3], 0), (34, 40, [53, 3, 0], 0), zno, zno, (80, 43, [69], 0), zno, zno, (4, 44, [0], 0), (18, 45, [], 0), (21, 48, [7, 0], 0), zno, zno, (0, 49, [], 1), (50, 50, [], 0), (22, 53, [7, 0], 0), zno, zno, (4, 54, [0], 0), (2, 55, [2], 0), (4, 56, [0], 0), (21, 59, [7, 4], 0), zno, zno, (21, 62, [5, 1], 0), zno, zno, (2, 63, [3], 0), (26, 64, [], 0), (3, 66, [4], 0), zno, (34, 69, [66, 4, 0], 0), zno, zno, (8, 72, [3], 1), zno, zno, (17, 75, [2], 0), zno, zno, (38, 0, [], 0)]
/-- TieOffice$Survey.compare(IIJ)V -/
def zc66 : List (Nat × Nat × List Nat × Int) := [(3, 1, [3], 0), (4, 2, [0], 0), (21, 5, [7, 3], 0), zno, zno, (13, 6, [], 0), (81, 9, [29], 0), zno, zno, (2, 10, [1], 0), (4, 11, [0], 0), (21, 14, [7, 1], 0), zno, zno, (71, 17, [29], 0), zno, zno, (2, 18, [2], 0), (4, 19, [0], 0), (21, 22, [7, 2], 0), zno, zno, (73, 25, [29], 0), zno, zno, (0, 26, [], 1), (17, 29, [30], 0), zno, zno, (0, 30, [], 0), (5, 32, [5], 0), zno, (3, 33, [3], 0), (4, 34, [0], 0), (21, 37, [7, 3], 0), zno, zno, (13, 38, [], 0), (84, 41, [46], 0), zno, zno, (2, 43, [5], 0), zno, (80, 46, [61], 0), zno, zno, (4, 47, [0], 0), (3, 48, [3], 0), (24, 51, [7, 3], 0), zno, zno, (4, 52, [0], 0), (2, 53, [1], 0), (22, 56, [7, 1], 0), zno, zno, (4, 57, [0], 0), (2, 58, [2], 0), (22, 61, [7, 2], 0), zno, zno, (38, 0, [], 0)]
/-- TieOffice.<init>()V -/
def zc67 : List (Nat × Nat × List Nat × Int) := [(4, 1, [0], 0), (41, 4, [], 0), zno, zno, (4, 5, [0], 0), (0, 6, [], 4), (32, 8, [], 0), zno, (25, 11, [8, 0], 0), zno, zno, (4, 12, [0], 0), (0, 15, [], 200), zno, zno, (32, 17, [], 0), zno, (25, 20, [8, 1], 0), zno, zno, (4, 21, [0], 0), (31, 24, [1], 0), zno, zno, (18, 25, [], 0), (34, 28, [13, 1, 3], 0), zno, zno, (25, 31, [8, 3], 0), zno, zno, (4, 32, [0], 0), (31, 35, [0], 0), zno, zno, (18, 36, [], 0), (34, 39, [0, 1, 3], 0), zno, zno, (25, 42, [8, 4], 0), zno, zno, (4, 43, [0], 0), (31, 46, [0], 0), zno, zno, (18, 47, [], 0), (34, 50, [0, 1, 3], 0), zno, zno, (25, 53, [8, 5], 0), zno, zno, (4, 54, [0], 0), (31, 57, [2], 0), zno, zno, (18, 58, [], 0), (34, 61, [25, 1, 2], 0), zno, zno, (25, 64, [8, 6], 0), zno, zno, (4, 65, [0], 0), (31, 68, [3], 0), zno, zno, (18, 69, [], 0), (34, 72, [29, 1, 3], 0), zno, zno, (25, 75, [8, 7], 0), zno, zno, (4, 76, [0], 0), (31, 79, [5], 0), zno, zno, (18, 80, [], 0), (34, 83, [49, 1, 3], 0), zno, zno, (25, 86, [8, 8], 0), zno, zno, (4, 87, [0], 0), (31, 90, [7], 0), zno, zno, (18, 91, [], 0), (34, 94, [63, 1, 3], 0), zno, zno, (25, 97, [8, 9], 0), zno, zno, (4, 98, [0], 0), (31, 101, [6], 0), zno, zno, (18, 102, [], 0), (34, 105, [56, 1, 3], 0), zno, zno, (25, 108, [8, 10], 0), zno, zno, (4, 109, [0], 0), (31, 112, [4], 0), zno, zno, (18, 113, [], 0), (34, 116, [39, 1, 3], 0), zno, zno, (25, 119, [8, 11], 0), zno, zno, (4, 120, [0], 0), (0, 121, [], 0), (22, 124, [8, 2], 0), zno, zno, (4, 125, [0], 0), (34, 128, [92, 1, 0], 0), zno, zno, (38, 0, [], 0)]
/-- TieOffice.type(I)I -/
def zc68 : List (Nat × Nat × List Nat × Int) := [(2, 1, [1], 0), (82, 4, [10], 0), zno, zno, (2, 5, [1], 0), (0, 7, [], 127), zno, (75, 10, [17], 0), zno, zno, (4, 11, [0], 0), (0, 13, [], -2), zno, (34, 16, [91, 2, 0], 0), zno, zno, (35, 0, [], 0), (4, 18, [0], 0), (21, 21, [8, 2], 0), zno, zno, (0, 24, [], 200), zno, zno, (72, 27, [34], 0), zno, zno, (4, 28, [0], 0), (0, 30, [], -4), zno, (34, 33, [91, 2, 0], 0), zno, zno, (35, 0, [], 0), (4, 35, [0], 0), (21, 38, [8, 1], 0), zno, zno, (4, 39, [0], 0), (21, 42, [8, 2], 0), zno, zno, (2, 43, [1], 0), (27, 44, [], 0), (4, 45, [0], 0), (18, 46, [], 0), (21, 49, [8, 2], 0), zno, zno, (0, 50, [], 1), (50, 51, [], 0), (22, 54, [8, 2], 0), zno, zno, (4, 55, [0], 0), (21, 58, [8, 2], 0), zno, zno, (35, 0, [], 0)]
/-- TieOffice.clear()I -/
def zc69 : List (Nat × Nat × List Nat × Int) := [(4, 1, [0], 0), (21, 4, [8, 2], 0), zno, zno, (5, 5, [1], 0), (4, 6, [0], 0), (0, 7, [], 0), (22, 10, [8, 2], 0), zno, zno, (2, 11, [1], 0), (35, 0, [], 0)]
/-- TieOffice.reads()I -/
def zc70 : List (Nat × Nat × List Nat × Int) := [(4, 1, [0], 0), (21, 4, [8, 7], 0), zno, zno, (4, 5, [0], 0), (21, 8, [8, 1], 0), zno, zno, (4, 9, [0], 0), (21, 12, [8, 2], 0), zno, zno, (34, 15, [30, 3, 0], 0), zno, zno, (5, 16, [1], 0), (2, 17, [1], 0), (0, 18, [], -1), (70, 21, [26], 0), zno, zno, (0, 23, [], -10), zno, (2, 24, [1], 0), (51, 25, [], 0), (35, 0, [], 0), (4, 27, [0], 0), (21, 30, [8, 6], 0), zno, zno, (4, 31, [0], 0), (21, 34, [8, 3], 0), zno, zno, (34, 37, [26, 2, 0], 0), zno, zno, (4, 38, [0], 0), (21, 41, [8, 3], 0), zno, zno, (4, 42, [0], 0), (21, 45, [8, 7], 0), zno, zno, (21, 48, [3, 0], 0), zno, zno, (34, 51, [15, 2, 0], 0), zno, zno, (4, 52, [0], 0), (34, 55, [92, 1, 0], 0), zno, zno, (4, 56, [0], 0), (21, 59, [8, 7], 0), zno, zno, (21, 62, [3, 1], 0), zno, zno, (35, 0, [], 0)]
/-- TieOffice.line(II)I -/
def zc71 : List (Nat × Nat × List Nat × Int) := [(4, 1, [0], 0), (21, 4, [8, 3], 0), zno, zno, (2, 5, [1], 0), (34, 8, [18, 2, 0], 0), zno, zno, (81, 11, [18], 0), zno, zno, (4, 12, [0], 0), (0, 14, [], -2), zno, (34, 17, [91, 2, 0], 0), zno, zno, (35, 0, [], 0), (2, 19, [2], 0), (39, 0, [142, 64, 74, 84, 94, 104, 110, 120, 130], 0), zno, zno, zno, zno, zno, zno, zno, zno, zno, zno, zno, zno, zno, zno, zno, zno, zno, zno, zno, zno, zno, zno, zno, zno, zno, zno, zno, zno, zno, zno, zno, zno, zno, zno, zno, zno, zno, zno, zno, zno, zno, zno, zno, zno, (4, 65, [0], 0), (21, 68, [8, 3], 0), zno, zno, (21, 71, [1, 6], 0), zno, zno, (2, 72, [1], 0), (26, 73, [], 0), (35, 0, [], 0), (4, 75, [0], 0), (21, 78, [8, 3], 0), zno, zno, (21, 81, [1, 7], 0), zno, zno, (2, 82, [1], 0), (26, 83, [], 0), (35, 0, [], 0), (4, 85, [0], 0), (21, 88, [8, 3], 0), zno, zno, (21, 91, [1, 8], 0), zno, zno, (2, 92, [1], 0), (26, 93, [], 0), (35, 0, [], 0), (4, 95, [0], 0), (21, 98, [8, 3], 0), zno, zno, (21, 101, [1, 9], 0), zno, zno, (2, 102, [1], 0), (26, 103, [], 0), (35, 0, [], 0), (4, 105, [0], 0), (2, 106, [1], 0), (34, 109, [93, 2, 0], 0), zno, zno, (35, 0, [], 0), (4, 111, [0], 0), (21, 114, [8, 4], 0), zno, zno, (21, 117, [0, 10], 0), zno, zno, (2, 118, [1], 0), (26, 119, [], 0), (35, 0, [], 0), (4, 121, [0], 0), (21, 124, [8, 4], 0), zno, zno, (21, 127, [0, 11], 0), zno, zno, (2, 128, [1], 0), (26, 129, [], 0), (35, 0, [], 0), (4, 131, [0], 0), (21, 134, [8, 4], 0), zno, zno, (21, 137, [0, 3], 0), zno, zno, (2, 138, [1], 0), (57, 139, [], 0), (0, 140, [], 1), (53, 141, [], 0), (35, 0, [], 0), (4, 143, [0], 0), (0, 145, [], -2), zno, (34, 148, [91, 2, 0], 0), zno, zno, (35, 0, [], 0)]
/-- TieOffice.place(II)I -/
def zc72 : List (Nat × Nat × List Nat × Int) := [(4, 1, [0], 0), (21, 4, [8, 3], 0), zno, zno, (2, 5, [1], 0), (34, 8, [17, 2, 0], 0), zno, zno, (81, 11, [18], 0), zno, zno, (4, 12, [0], 0), (0, 14, [], -2), zno, (34, 17, [91, 2, 0], 0), zno, zno, (35, 0, [], 0), (4, 19, [0], 0), (21, 22, [8, 4], 0), zno, zno, (2, 23, [1], 0), (34, 26, [2, 2, 0], 0), zno, zno, (5, 27, [3], 0), (2, 28, [2], 0), (39, 0, [161, 64, 89, 107, 125, 143], 0), zno, zno, zno, zno, zno, zno, zno, zno, zno, zno, zno, zno, zno, zno, zno, zno, zno, zno, zno, zno, zno, zno, zno, zno, zno, zno, zno, zno, zno, zno, zno, zno, zno, zno, zno, (4, 65, [0], 0), (21, 68, [8, 3], 0), zno, zno, (2, 69, [1], 0), (34, 72, [19, 2, 0], 0), zno, zno, (80, 75, [79], 0), zno, zno, (0, 76, [], -1), (17, 79, [88], 0), zno, zno, (4, 80, [0], 0), (21, 83, [8, 3], 0), zno, zno, (21, 86, [1, 5], 0), zno, zno, (2, 87, [1], 0), (26, 88, [], 0), (35, 0, [], 0), (2, 90, [3], 0), (80, 93, [105], 0), zno, zno, (4, 94, [0], 0), (21, 97, [8, 4], 0), zno, zno, (21, 100, [0, 6], 0), zno, zno, (2, 101, [1], 0), (26, 102, [], 0), (17, 105, [106], 0), zno, zno, (0, 106, [], -1), (35, 0, [], 0), (2, 108, [3], 0), (80, 111, [123], 0), zno, zno, (4, 112, [0], 0), (21, 115, [8, 4], 0), zno, zno, (21, 118, [0, 7], 0), zno, zno, (2, 119, [1], 0), (26, 120, [], 0), (17, 123, [124], 0), zno, zno, (0, 124, [], -1), (35, 0, [], 0), (2, 126, [3], 0), (80, 129, [141], 0), zno, zno, (4, 130, [0], 0), (21, 133, [8, 4], 0), zno, zno, (21, 136, [0, 8], 0), zno, zno, (2, 137, [1], 0), (26, 138, [], 0), (17, 141, [142], 0), zno, zno, (0, 142, [], -1), (35, 0, [], 0), (2, 144, [3], 0), (80, 147, [159], 0), zno, zno, (4, 148, [0], 0), (21, 151, [8, 4], 0), zno, zno, (21, 154, [0, 9], 0), zno, zno, (2, 155, [1], 0), (26, 156, [], 0), (17, 159, [160], 0), zno, zno, (0, 160, [], 0), (35, 0, [], 0), (4, 162, [0], 0), (0, 164, [], -2), zno, (34, 167, [91, 2, 0], 0), zno, zno, (35, 0, [], 0)]
/-- TieOffice.between(II)I -/
def zc73 : List (Nat × Nat × List Nat × Int) := [(4, 1, [0], 0), (21, 4, [8, 3], 0), zno, zno, (2, 5, [1], 0), (34, 8, [17, 2, 0], 0), zno, zno, (80, 11, [22], 0), zno, zno, (4, 12, [0], 0), (21, 15, [8, 3], 0), zno, zno, (2, 16, [2], 0), (34, 19, [17, 2, 0], 0), zno, zno, (81, 22, [29], 0), zno, zno, (4, 23, [0], 0), (0, 25, [], -2), zno, (34, 28, [91, 2, 0], 0), zno, zno, (35, 0, [], 0), (4, 30, [0], 0), (21, 33, [8, 3], 0), zno, zno, (2, 34, [1], 0), (2, 35, [2], 0), (34, 38, [23, 3, 0], 0), zno, zno, (35, 0, [], 0)]
/-- TieOffice.load(II)I -/
def zc74 : List (Nat × Nat × List Nat × Int) := [(4, 1, [0], 0), (21, 4, [8, 3], 0), zno, zno, (2, 5, [1], 0), (34, 8, [17, 2, 0], 0), zno, zno, (80, 11, [21], 0), zno, zno, (2, 12, [2], 0), (82, 15, [21], 0), zno, zno, (2, 16, [2], 0), (0, 18, [], 99), zno, (75, 21, [28], 0), zno, zno, (4, 22, [0], 0), (0, 24, [], -2), zno, (34, 27, [91, 2, 0], 0), zno, zno, (35, 0, [], 0), (4, 29, [0], 0), (21, 32, [8, 3], 0), zno, zno, (21, 35, [1, 5], 0), zno, zno, (2, 36, [1], 0), (26, 37, [], 0), (5, 38, [3], 0), (4, 39, [0], 0), (21, 42, [8, 3], 0), zno, zno, (2, 43, [1], 0), (34, 46, [19, 2, 0], 0), zno, zno, (81, 49, [54], 0), zno, zno, (2, 50, [3], 0), (2, 51, [2], 0), (71, 54, [61], 0), zno, zno, (4, 55, [0], 0), (0, 57, [], -3), zno, (34, 60, [91, 2, 0], 0), zno, zno, (35, 0, [], 0), (4, 62, [0], 0), (21, 65, [8, 3], 0), zno, zno, (21, 68, [1, 5], 0), zno, zno, (2, 69, [1], 0), (2, 70, [2], 0), (27, 71, [], 0), (4, 72, [0], 0), (21, 75, [8, 5], 0), zno, zno, (4, 76, [0], 0), (21, 79, [8, 3], 0), zno, zno, (4, 80, [0], 0), (21, 83, [8, 3], 0), zno, zno, (21, 86, [1, 3], 0), zno, zno, (34, 89, [1, 3, 0], 0), zno, zno, (4, 90, [0], 0), (21, 93, [8, 3], 0), zno, zno, (21, 96, [1, 5], 0), zno, zno, (2, 97, [1], 0), (2, 98, [3], 0), (27, 99, [], 0), (4, 100, [0], 0), (21, 103, [8, 5], 0), zno, zno, (4, 104, [0], 0), (21, 107, [8, 4], 0), zno, zno, (34, 110, [3, 2, 0], 0), zno, zno, (81, 113, [120], 0), zno, zno, (4, 114, [0], 0), (0, 116, [], -4), zno, (34, 119, [91, 2, 0], 0), zno, zno, (35, 0, [], 0), (4, 121, [0], 0), (21, 124, [8, 6], 0), zno, zno, (4, 125, [0], 0), (21, 128, [8, 3], 0), zno, zno, (34, 131, [26, 2, 0], 0), zno, zno, (4, 132, [0], 0), (21, 135, [8, 3], 0), zno, zno, (21, 138, [1, 5], 0), zno, zno, (2, 139, [1], 0), (2, 140, [2], 0), (27, 141, [], 0), (4, 142, [0], 0), (34, 145, [92, 1, 0], 0), zno, zno, (2, 146, [3], 0), (35, 0, [], 0)]
/-- TieOffice.closes(I)I -/
def zc75 : List (Nat × Nat × List Nat × Int) := [(4, 1, [0], 0), (21, 4, [8, 3], 0), zno, zno, (2, 5, [1], 0), (34, 8, [18, 2, 0], 0), zno, zno, (81, 11, [18], 0), zno, zno, (4, 12, [0], 0), (0, 14, [], -2), zno, (34, 17, [91, 2, 0], 0), zno, zno, (35, 0, [], 0), (4, 19, [0], 0), (21, 22, [8, 3], 0), zno, zno, (2, 23, [1], 0), (4, 24, [0], 0), (21, 27, [8, 3], 0), zno, zno, (21, 30, [1, 3], 0), zno, zno, (34, 33, [21, 3, 0], 0), zno, zno, (81, 36, [43], 0), zno, zno, (4, 37, [0], 0), (0, 39, [], -3), zno, (34, 42, [91, 2, 0], 0), zno, zno, (35, 0, [], 0), (4, 44, [0], 0), (21, 47, [8, 5], 0), zno, zno, (4, 48, [0], 0), (21, 51, [8, 3], 0), zno, zno, (4, 52, [0], 0), (21, 55, [8, 3], 0), zno, zno, (21, 58, [1, 3], 0), zno, zno, (0, 59, [], 1), (2, 60, [1], 0), (56, 61, [], 0), (54, 62, [], 0), (34, 65, [1, 3, 0], 0), zno, zno, (4, 66, [0], 0), (21, 69, [8, 5], 0), zno, zno, (21, 72, [0, 1], 0), zno, zno, (81, 75, [82], 0), zno, zno, (4, 76, [0], 0), (0, 78, [], -3), zno, (34, 81, [91, 2, 0], 0), zno, zno, (35, 0, [], 0), (4, 83, [0], 0), (21, 86, [8, 5], 0), zno, zno, (4, 87, [0], 0), (21, 90, [8, 4], 0), zno, zno, (34, 93, [3, 2, 0], 0), zno, zno, (81, 96, [103], 0), zno, zno, (4, 97, [0], 0), (0, 99, [], -4), zno, (34, 102, [91, 2, 0], 0), zno, zno, (35, 0, [], 0), (4, 104, [0], 0), (21, 107, [8, 4], 0), zno, zno, (21, 110, [0, 4], 0), zno, zno, (5, 111, [2], 0), (4, 112, [0], 0), (21, 115, [8, 6], 0), zno, zno, (4, 116, [0], 0), (21, 119, [8, 3], 0), zno, zno, (34, 122, [26, 2, 0], 0), zno, zno, (4, 123, [0], 0), (21, 126, [8, 3], 0), zno, zno, (18, 127, [], 0), (21, 130, [1, 3], 0), zno, zno, (0, 131, [], 1), (2, 132, [1], 0), (56, 133, [], 0), (54, 134, [], 0), (22, 137, [1, 3], 0), zno, zno, (4, 138, [0], 0), (34, 141, [92, 1, 0], 0), zno, zno, (4, 142, [0], 0), (21, 145, [8, 4], 0), zno, zno, (21, 148, [0, 4], 0), zno, zno, (2, 149, [2], 0), (51, 150, [], 0), (35, 0, [], 0)]
/-- TieOffice.opens(I)I -/
def zc76 : List (Nat × Nat × List Nat × Int) := [(4, 1, [0], 0), (21, 4, [8, 3], 0), zno, zno, (2, 5, [1], 0), (34, 8, [18, 2, 0], 0), zno, zno, (81, 11, [18], 0), zno, zno, (4, 12, [0], 0), (0, 14, [], -2), zno, (34, 17, [91, 2, 0], 0), zno, zno, (35, 0, [], 0), (4, 19, [0], 0), (21, 22, [8, 3], 0), zno, zno, (21, 25, [1, 3], 0), zno, zno, (2, 26, [1], 0), (57, 27, [], 0), (0, 28, [], 1), (53, 29, [], 0), (81, 32, [39], 0), zno, zno, (4, 33, [0], 0), (0, 35, [], -3), zno, (34, 38, [91, 2, 0], 0), zno, zno, (35, 0, [], 0), (4, 40, [0], 0), (21, 43, [8, 4], 0), zno, zno, (21, 46, [0, 4], 0), zno, zno, (5, 47, [2], 0), (4, 48, [0], 0), (21, 51, [8, 6], 0), zno, zno, (4, 52, [0], 0), (21, 55, [8, 3], 0), zno, zno, (34, 58, [26, 2, 0], 0), zno, zno, (4, 59, [0], 0), (21, 62, [8, 3], 0), zno, zno, (18, 63, [], 0), (21, 66, [1, 3], 0), zno, zno, (0, 67, [], 1), (2, 68, [1], 0), (56, 69, [], 0), (0, 70, [], -1), (55, 71, [], 0), (53, 72, [], 0), (22, 75, [1, 3], 0), zno, zno, (4, 76, [0], 0), (34, 79, [92, 1, 0], 0), zno, zno, (2, 80, [2], 0), (4, 81, [0], 0), (21, 84, [8, 4], 0), zno, zno, (21, 87, [0, 4], 0), zno, zno, (51, 88, [], 0), (35, 0, [], 0)]
/-- TieOffice.falls(I)I -/
def zc77 : List (Nat × Nat × List Nat × Int) := [(4, 1, [0], 0), (21, 4, [8, 3], 0), zno, zno, (2, 5, [1], 0), (34, 8, [18, 2, 0], 0), zno, zno, (81, 11, [18], 0), zno, zno, (4, 12, [0], 0), (0, 14, [], -2), zno, (34, 17, [91, 2, 0], 0), zno, zno, (35, 0, [], 0), (4, 19, [0], 0), (21, 22, [8, 3], 0), zno, zno, (21, 25, [1, 4], 0), zno, zno, (2, 26, [1], 0), (57, 27, [], 0), (0, 28, [], 1), (53, 29, [], 0), (80, 32, [39], 0), zno, zno, (4, 33, [0], 0), (0, 35, [], -3), zno, (34, 38, [91, 2, 0], 0), zno, zno, (35, 0, [], 0), (4, 40, [0], 0), (21, 43, [8, 4], 0), zno, zno, (21, 46, [0, 4], 0), zno, zno, (5, 47, [2], 0), (4, 48, [0], 0), (21, 51, [8, 6], 0), zno, zno, (4, 52, [0], 0), (21, 55, [8, 3], 0), zno, zno, (34, 58, [26, 2, 0], 0), zno, zno, (4, 59, [0], 0), (21, 62, [8, 3], 0), zno, zno, (18, 63, [], 0), (21, 66, [1, 3], 0), zno, zno, (0, 67, [], 1), (2, 68, [1], 0), (56, 69, [], 0), (0, 70, [], -1), (55, 71, [], 0), (53, 72, [], 0), (22, 75, [1, 3], 0), zno, zno, (4, 76, [0], 0), (21, 79, [8, 3], 0), zno, zno, (18, 80, [], 0), (21, 83, [1, 4], 0), zno, zno, (0, 84, [], 1), (2, 85, [1], 0), (56, 86, [], 0), (54, 87, [], 0), (22, 90, [1, 4], 0), zno, zno, (4, 91, [0], 0), (34, 94, [92, 1, 0], 0), zno, zno, (2, 95, [2], 0), (4, 96, [0], 0), (21, 99, [8, 4], 0), zno, zno, (21, 102, [0, 4], 0), zno, zno, (51, 103, [], 0), (35, 0, [], 0)]
/-- TieOffice.mends(I)I -/
def zc78 : List (Nat × Nat × List Nat × Int) := [(4, 1, [0], 0), (21, 4, [8, 3], 0), zno, zno, (2, 5, [1], 0), (34, 8, [18, 2, 0], 0), zno, zno, (81, 11, [18], 0), zno, zno, (4, 12, [0], 0), (0, 14, [], -2), zno, (34, 17, [91, 2, 0], 0), zno, zno, (35, 0, [], 0), (4, 19, [0], 0), (21, 22, [8, 3], 0), zno, zno, (21, 25, [1, 4], 0), zno, zno, (2, 26, [1], 0), (57, 27, [], 0), (0, 28, [], 1), (53, 29, [], 0), (81, 32, [39], 0), zno, zno, (4, 33, [0], 0), (0, 35, [], -3), zno, (34, 38, [91, 2, 0], 0), zno, zno, (35, 0, [], 0), (4, 40, [0], 0), (21, 43, [8, 6], 0), zno, zno, (4, 44, [0], 0), (21, 47, [8, 3], 0), zno, zno, (34, 50, [26, 2, 0], 0), zno, zno, (4, 51, [0], 0), (21, 54, [8, 3], 0), zno, zno, (18, 55, [], 0), (21, 58, [1, 4], 0), zno, zno, (0, 59, [], 1), (2, 60, [1], 0), (56, 61, [], 0), (0, 62, [], -1), (55, 63, [], 0), (53, 64, [], 0), (22, 67, [1, 4], 0), zno, zno, (4, 68, [0], 0), (34, 71, [92, 1, 0], 0), zno, zno, (4, 72, [0], 0), (21, 75, [8, 3], 0), zno, zno, (21, 78, [1, 4], 0), zno, zno, (34, 81, [164, 1, 1], 0), zno, zno, (35, 0, [], 0)]
/-- TieOffice.ring(II)I -/
def zc79 : List (Nat × Nat × List Nat × Int) := [(4, 1, [0], 0), (21, 4, [8, 3], 0), zno, zno, (2, 5, [1], 0), (34, 8, [18, 2, 0], 0), zno, zno, (80, 11, [15], 0), zno, zno, (2, 12, [2], 0), (83, 15, [22], 0), zno, zno, (4, 16, [0], 0), (0, 18, [], -2), zno, (34, 21, [91, 2, 0], 0), zno, zno, (35, 0, [], 0), (4, 23, [0], 0), (21, 26, [8, 3], 0), zno, zno, (2, 27, [1], 0), (4, 28, [0], 0), (21, 31, [8, 3], 0), zno, zno, (21, 34, [1, 3], 0), zno, zno, (34, 37, [21, 3, 0], 0), zno, zno, (81, 40, [47], 0), zno, zno, (4, 41, [0], 0), (0, 43, [], -3), zno, (34, 46, [91, 2, 0], 0), zno, zno, (35, 0, [], 0), (4, 48, [0], 0), (21, 51, [8, 8], 0), zno, zno, (4, 52, [0], 0), (21, 55, [8, 3], 0), zno, zno, (4, 56, [0], 0), (21, 59, [8, 4], 0), zno, zno, (2, 60, [1], 0), (34, 63, [50, 4, 0], 0), zno, zno, (2, 64, [2], 0), (4, 65, [0], 0), (21, 68, [8, 8], 0), zno, zno, (21, 71, [5, 0], 0), zno, zno, (73, 74, [86], 0), zno, zno, (4, 75, [0], 0), (21, 78, [8, 8], 0), zno, zno, (21, 81, [5, 1], 0), zno, zno, (2, 82, [2], 0), (26, 83, [], 0), (17, 86, [87], 0), zno, zno, (0, 87, [], -1), (35, 0, [], 0)]
/-- TieOffice.gain(II)J -/
def zc80 : List (Nat × Nat × List Nat × Int) := [(4, 1, [0], 0), (21, 4, [8, 3], 0), zno, zno, (2, 5, [1], 0), (34, 8, [18, 2, 0], 0), zno, zno, (80, 11, [22], 0), zno, zno, (4, 12, [0], 0), (21, 15, [8, 3], 0), zno, zno, (2, 16, [2], 0), (34, 19, [18, 2, 0], 0), zno, zno, (81, 22, [30], 0), zno, zno, (4, 23, [0], 0), (0, 25, [], -2), zno, (34, 28, [91, 2, 0], 0), zno, zno, (12, 29, [], 0), (37, 0, [], 0), (4, 31, [0], 0), (2, 32, [1], 0), (2, 33, [2], 0), (34, 36, [94, 3, 0], 0), zno, zno, (5, 37, [3], 0), (2, 38, [3], 0), (0, 39, [], -1), (71, 42, [50], 0), zno, zno, (4, 43, [0], 0), (0, 45, [], -3), zno, (34, 48, [91, 2, 0], 0), zno, zno, (12, 49, [], 0), (37, 0, [], 0), (4, 51, [0], 0), (21, 54, [8, 8], 0), zno, zno, (4, 55, [0], 0), (21, 58, [8, 3], 0), zno, zno, (2, 59, [3], 0), (34, 62, [52, 3, 0], 0), zno, zno, (37, 0, [], 0)]
/-- TieOffice.exchanges(II)I -/
def zc81 : List (Nat × Nat × List Nat × Int) := [(4, 1, [0], 0), (21, 4, [8, 3], 0), zno, zno, (2, 5, [1], 0), (34, 8, [18, 2, 0], 0), zno, zno, (80, 11, [22], 0), zno, zno, (4, 12, [0], 0), (21, 15, [8, 3], 0), zno, zno, (2, 16, [2], 0), (34, 19, [18, 2, 0], 0), zno, zno, (81, 22, [29], 0), zno, zno, (4, 23, [0], 0), (0, 25, [], -2), zno, (34, 28, [91, 2, 0], 0), zno, zno, (35, 0, [], 0), (4, 30, [0], 0), (2, 31, [1], 0), (2, 32, [2], 0), (34, 35, [94, 3, 0], 0), zno, zno, (5, 36, [3], 0), (2, 37, [3], 0), (0, 38, [], -1), (71, 41, [48], 0), zno, zno, (4, 42, [0], 0), (0, 44, [], -3), zno, (34, 47, [91, 2, 0], 0), zno, zno, (35, 0, [], 0), (4, 49, [0], 0), (21, 52, [8, 8], 0), zno, zno, (4, 53, [0], 0), (21, 56, [8, 3], 0), zno, zno, (2, 57, [3], 0), (34, 60, [53, 3, 0], 0), zno, zno, (81, 63, [70], 0), zno, zno, (4, 64, [0], 0), (0, 66, [], -4), zno, (34, 69, [91, 2, 0], 0), zno, zno, (35, 0, [], 0), (4, 71, [0], 0), (21, 74, [8, 6], 0), zno, zno, (4, 75, [0], 0), (21, 78, [8, 3], 0), zno, zno, (34, 81, [26, 2, 0], 0), zno, zno, (4, 82, [0], 0), (2, 83, [1], 0), (2, 84, [2], 0), (34, 87, [95, 3, 0], 0), zno, zno, (4, 88, [0], 0), (21, 91, [8, 9], 0), zno, zno, (4, 92, [0], 0), (21, 95, [8, 3], 0), zno, zno, (4, 96, [0], 0), (21, 99, [8, 4], 0), zno, zno, (34, 102, [64, 3, 0], 0), zno, zno, (4, 103, [0], 0), (21, 106, [8, 9], 0), zno, zno, (21, 109, [7, 0], 0), zno, zno, (35, 0, [], 0)]
/-- TieOffice.best(I)I -/
def zc82 : List (Nat × Nat × List Nat × Int) := [(2, 1, [1], 0), (82, 4, [9], 0), zno, zno, (2, 5, [1], 0), (0, 6, [], 1), (75, 9, [16], 0), zno, zno, (4, 10, [0], 0), (0, 12, [], -2), zno, (34, 15, [91, 2, 0], 0), zno, zno, (35, 0, [], 0), (4, 17, [0], 0), (21, 20, [8, 9], 0), zno, zno, (4, 21, [0], 0), (21, 24, [8, 3], 0), zno, zno, (4, 25, [0], 0), (21, 28, [8, 4], 0), zno, zno, (34, 31, [64, 3, 0], 0), zno, zno, (2, 32, [1], 0), (81, 35, [45], 0), zno, zno, (4, 36, [0], 0), (21, 39, [8, 9], 0), zno, zno, (21, 42, [7, 1], 0), zno, zno, (17, 45, [52], 0), zno, zno, (4, 46, [0], 0), (21, 49, [8, 9], 0), zno, zno, (21, 52, [7, 2], 0), zno, zno, (35, 0, [], 0)]
/-- TieOffice.lessens()I -/
def zc83 : List (Nat × Nat × List Nat × Int) := [(4, 1, [0], 0), (21, 4, [8, 9], 0), zno, zno, (4, 5, [0], 0), (21, 8, [8, 3], 0), zno, zno, (4, 9, [0], 0), (21, 12, [8, 4], 0), zno, zno, (34, 15, [64, 3, 0], 0), zno, zno, (4, 16, [0], 0), (21, 19, [8, 9], 0), zno, zno, (21, 22, [7, 1], 0), zno, zno, (0, 23, [], -1), (71, 26, [33], 0), zno, zno, (4, 27, [0], 0), (0, 29, [], -3), zno, (34, 32, [91, 2, 0], 0), zno, zno, (35, 0, [], 0), (4, 34, [0], 0), (21, 37, [8, 6], 0), zno, zno, (4, 38, [0], 0), (21, 41, [8, 3], 0), zno, zno, (34, 44, [26, 2, 0], 0), zno, zno, (0, 45, [], 0), (5, 46, [1], 0), (2, 47, [1], 0), (0, 49, [], 1000000), zno, (73, 52, [102], 0), zno, zno, (4, 53, [0], 0), (21, 56, [8, 9], 0), zno, zno, (21, 59, [7, 1], 0), zno, zno, (0, 60, [], -1), (70, 63, [102], 0), zno, zno, (4, 64, [0], 0), (4, 65, [0], 0), (21, 68, [8, 9], 0), zno, zno, (21, 71, [7, 1], 0), zno, zno, (4, 72, [0], 0), (21, 75, [8, 9], 0), zno, zno, (21, 78, [7, 2], 0), zno, zno, (34, 81, [95, 3, 0], 0), zno, zno, (4, 82, [0], 0), (21, 85, [8, 9], 0), zno, zno, (4, 86, [0], 0), (21, 89, [8, 3], 0), zno, zno, (4, 90, [0], 0), (21, 93, [8, 4], 0), zno, zno, (34, 96, [64, 3, 0], 0), zno, zno, (8, 99, [1], 1), zno, zno, (17, 102, [46], 0), zno, zno, (2, 103, [1], 0), (35, 0, [], 0)]
/-- TieOffice.reach(II)J -/
def zc84 : List (Nat × Nat × List Nat × Int) := [(2, 1, [1], 0), (82, 4, [19], 0), zno, zno, (2, 5, [1], 0), (0, 7, [], 9), zno, (74, 10, [19], 0), zno, zno, (2, 11, [2], 0), (82, 14, [19], 0), zno, zno, (2, 15, [2], 0), (0, 16, [], 2), (75, 19, [27], 0), zno, zno, (4, 20, [0], 0), (0, 22, [], -2), zno, (34, 25, [91, 2, 0], 0), zno, zno, (12, 26, [], 0), (37, 0, [], 0), (4, 28, [0], 0), (21, 31, [8, 10], 0), zno, zno, (4, 32, [0], 0), (21, 35, [8, 3], 0), zno, zno, (2, 36, [1], 0), (34, 39, [58, 3, 0], 0), zno, zno, (4, 40, [0], 0), (21, 43, [8, 10], 0), zno, zno, (21, 46, [6, 1], 0), zno, zno, (80, 49, [57], 0), zno, zno, (4, 50, [0], 0), (0, 52, [], -5), zno, (34, 55, [91, 2, 0], 0), zno, zno, (12, 56, [], 0), (37, 0, [], 0), (2, 58, [2], 0), (81, 61, [70], 0), zno, zno, (4, 62, [0], 0), (21, 65, [8, 10], 0), zno, zno, (21, 68, [6, 0], 0), zno, zno, (12, 69, [], 0), (37, 0, [], 0), (2, 71, [2], 0), (0, 72, [], 1), (71, 75, [85], 0), zno, zno, (4, 76, [0], 0), (21, 79, [8, 10], 0), zno, zno, (21, 82, [6, 2], 0), zno, zno, (17, 85, [93], 0), zno, zno, (4, 86, [0], 0), (21, 89, [8, 10], 0), zno, zno, (21, 92, [6, 3], 0), zno, zno, (12, 93, [], 0), (37, 0, [], 0)]
/-- TieOffice.cure(II)I -/
def zc85 : List (Nat × Nat × List Nat × Int) := [(2, 1, [1], 0), (82, 4, [13], 0), zno, zno, (2, 5, [1], 0), (0, 6, [], 3), (74, 9, [13], 0), zno, zno, (2, 10, [2], 0), (83, 13, [20], 0), zno, zno, (4, 14, [0], 0), (0, 16, [], -2), zno, (34, 19, [91, 2, 0], 0), zno, zno, (35, 0, [], 0), (4, 21, [0], 0), (21, 24, [8, 11], 0), zno, zno, (4, 25, [0], 0), (21, 28, [8, 3], 0), zno, zno, (4, 29, [0], 0), (21, 32, [8, 4], 0), zno, zno, (34, 35, [41, 3, 0], 0), zno, zno, (81, 38, [45], 0), zno, zno, (4, 39, [0], 0), (0, 41, [], -5), zno, (34, 44, [91, 2, 0], 0), zno, zno, (35, 0, [], 0), (2, 46, [1], 0), (39, 0, [96, 72, 80, 88], 0), zno, zno, zno, zno, zno, zno, zno, zno, zno, zno, zno, zno, zno, zno, zno, zno, zno, zno, zno, zno, zno, zno, zno, zno, zno, (4, 73, [0], 0), (21, 76, [8, 11], 0), zno, zno, (21, 79, [4, 0], 0), zno, zno, (35, 0, [], 0), (4, 81, [0], 0), (21, 84, [8, 11], 0), zno, zno, (21, 87, [4, 1], 0), zno, zno, (35, 0, [], 0), (4, 89, [0], 0), (21, 92, [8, 11], 0), zno, zno, (21, 95, [4, 2], 0), zno, zno, (35, 0, [], 0), (4, 97, [0], 0), (21, 100, [8, 11], 0), zno, zno, (4, 101, [0], 0), (21, 104, [8, 3], 0), zno, zno, (2, 105, [2], 0), (34, 108, [42, 3, 0], 0), zno, zno, (35, 0, [], 0)]
/-- TieOffice.cures()I -/
def zc86 : List (Nat × Nat × List Nat × Int) := [(4, 1, [0], 0), (21, 4, [8, 11], 0), zno, zno, (4, 5, [0], 0), (21, 8, [8, 3], 0), zno, zno, (4, 9, [0], 0), (21, 12, [8, 4], 0), zno, zno, (34, 15, [41, 3, 0], 0), zno, zno, (81, 18, [25], 0), zno, zno, (4, 19, [0], 0), (0, 21, [], -5), zno, (34, 24, [91, 2, 0], 0), zno, zno, (35, 0, [], 0), (4, 26, [0], 0), (21, 29, [8, 11], 0), zno, zno, (21, 32, [4, 1], 0), zno, zno, (81, 35, [42], 0), zno, zno, (4, 36, [0], 0), (0, 38, [], -3), zno, (34, 41, [91, 2, 0], 0), zno, zno, (35, 0, [], 0), (4, 43, [0], 0), (21, 46, [8, 6], 0), zno, zno, (4, 47, [0], 0), (21, 50, [8, 3], 0), zno, zno, (34, 53, [26, 2, 0], 0), zno, zno, (4, 54, [0], 0), (21, 57, [8, 3], 0), zno, zno, (18, 58, [], 0), (21, 61, [1, 3], 0), zno, zno, (4, 62, [0], 0), (21, 65, [8, 11], 0), zno, zno, (21, 68, [4, 0], 0), zno, zno, (54, 69, [], 0), (22, 72, [1, 3], 0), zno, zno, (4, 73, [0], 0), (34, 76, [92, 1, 0], 0), zno, zno, (4, 77, [0], 0), (21, 80, [8, 11], 0), zno, zno, (21, 83, [4, 1], 0), zno, zno, (35, 0, [], 0)]
/-- TieOffice.all(I)J -/
def zc87 : List (Nat × Nat × List Nat × Int) := [(2, 1, [1], 0), (39, 0, [179, 48, 56, 65, 91, 110, 122, 144, 156], 0), zno, zno, zno, zno, zno, zno, zno, zno, zno, zno, zno, zno, zno, zno, zno, zno, zno, zno, zno, zno, zno, zno, zno, zno, zno, zno, zno, zno, zno, zno, zno, zno, zno, zno, zno, zno, zno, zno, zno, zno, zno, zno, zno, zno, zno, zno, (4, 49, [0], 0), (21, 52, [8, 4], 0), zno, zno, (21, 55, [0, 5], 0), zno, zno, (37, 0, [], 0), (4, 57, [0], 0), (21, 60, [8, 4], 0), zno, zno, (21, 63, [0, 4], 0), zno, zno, (12, 64, [], 0), (37, 0, [], 0), (4, 66, [0], 0), (21, 69, [8, 3], 0), zno, zno, (4, 70, [0], 0), (21, 73, [8, 3], 0), zno, zno, (21, 76, [1, 0], 0), zno, zno, (4, 77, [0], 0), (21, 80, [8, 4], 0), zno, zno, (21, 83, [0, 2], 0), zno, zno, (0, 84, [], -1), (55, 85, [], 0), (53, 86, [], 0), (34, 89, [24, 2, 0], 0), zno, zno, (12, 90, [], 0), (37, 0, [], 0), (4, 92, [0], 0), (21, 95, [8, 3], 0), zno, zno, (4, 96, [0], 0), (21, 99, [8, 3], 0), zno, zno, (21, 102, [1, 3], 0), zno, zno, (34, 105, [20, 2, 0], 0), zno, zno, (34, 108, [164, 1, 1], 0), zno, zno, (12, 109, [], 0), (37, 0, [], 0), (4, 111, [0], 0), (21, 114, [8, 3], 0), zno, zno, (21, 117, [1, 4], 0), zno, zno, (34, 120, [164, 1, 1], 0), zno, zno, (12, 121, [], 0), (37, 0, [], 0), (4, 123, [0], 0), (21, 126, [8, 3], 0), zno, zno, (21, 129, [1, 0], 0), zno, zno, (4, 130, [0], 0), (21, 133, [8, 4], 0), zno, zno, (21, 136, [0, 2], 0), zno, zno, (0, 137, [], -1), (55, 138, [], 0), (53, 139, [], 0), (34, 142, [164, 1, 1], 0), zno, zno, (12, 143, [], 0), (37, 0, [], 0), (4, 145, [0], 0), (21, 148, [8, 4], 0), zno, zno, (21, 151, [0, 3], 0), zno, zno, (34, 154, [164, 1, 1], 0), zno, zno, (12, 155, [], 0), (37, 0, [], 0), (4, 157, [0], 0), (21, 160, [8, 4], 0), zno, zno, (4, 161, [0], 0), (21, 164, [8, 3], 0), zno, zno, (4, 165, [0], 0), (21, 168, [8, 4], 0), zno, zno, (4, 169, [0], 0), (21, 172, [8, 3], 0), zno, zno, (34, 175, [5, 2, 0], 0), zno, zno, (34, 178, [6, 3, 0], 0), zno, zno, (37, 0, [], 0), (4, 180, [0], 0), (0, 182, [], -2), zno, (34, 185, [91, 2, 0], 0), zno, zno, (12, 186, [], 0), (37, 0, [], 0)]
/-- TieOffice.back()I -/
def zc88 : List (Nat × Nat × List Nat × Int) := [(4, 1, [0], 0), (21, 4, [8, 6], 0), zno, zno, (21, 7, [2, 1], 0), zno, zno, (81, 10, [17], 0), zno, zno, (4, 11, [0], 0), (0, 13, [], -3), zno, (34, 16, [91, 2, 0], 0), zno, zno, (35, 0, [], 0), (4, 18, [0], 0), (21, 21, [8, 6], 0), zno, zno, (4, 22, [0], 0), (21, 25, [8, 3], 0), zno, zno, (34, 28, [27, 2, 0], 0), zno, zno, (4, 29, [0], 0), (34, 32, [92, 1, 0], 0), zno, zno, (4, 33, [0], 0), (21, 36, [8, 6], 0), zno, zno, (21, 39, [2, 1], 0), zno, zno, (35, 0, [], 0)]
/-- TieOffice.told(I)I -/
def zc89 : List (Nat × Nat × List Nat × Int) := [(2, 1, [1], 0), (39, 0, [87, 48, 48, 48, 48, 55, 60, 71, 79], 0), zno, zno, zno, zno, zno, zno, zno, zno, zno, zno, zno, zno, zno, zno, zno, zno, zno, zno, zno, zno, zno, zno, zno, zno, zno, zno, zno, zno, zno, zno, zno, zno, zno, zno, zno, zno, zno, zno, zno, zno, zno, zno, zno, zno, zno, zno, (4, 49, [0], 0), (21, 52, [8, 0], 0), zno, zno, (2, 53, [1], 0), (26, 54, [], 0), (35, 0, [], 0), (4, 56, [0], 0), (21, 59, [8, 2], 0), zno, zno, (35, 0, [], 0), (4, 61, [0], 0), (21, 64, [8, 3], 0), zno, zno, (21, 67, [1, 0], 0), zno, zno, (34, 70, [164, 1, 1], 0), zno, zno, (35, 0, [], 0), (4, 72, [0], 0), (21, 75, [8, 3], 0), zno, zno, (21, 78, [1, 2], 0), zno, zno, (35, 0, [], 0), (4, 80, [0], 0), (21, 83, [8, 6], 0), zno, zno, (21, 86, [2, 1], 0), zno, zno, (35, 0, [], 0), (4, 88, [0], 0), (0, 90, [], -2), zno, (34, 93, [91, 2, 0], 0), zno, zno, (35, 0, [], 0)]
/-- TieOffice.digest()J -/
def zc90 : List (Nat × Nat × List Nat × Int) := [(1, 3, [], 2267), zno, zno, (6, 4, [1], 0), (0, 5, [], 0), (5, 6, [3], 0), (2, 7, [3], 0), (0, 9, [], 7), zno, (74, 12, [31], 0), zno, zno, (1, 15, [], 31), zno, zno, (3, 16, [1], 0), (62, 17, [], 0), (4, 18, [0], 0), (2, 19, [3], 0), (34, 22, [89, 2, 0], 0), zno, zno, (12, 23, [], 0), (60, 24, [], 0), (6, 25, [1], 0), (8, 28, [3], 1), zno, zno, (17, 31, [6], 0), zno, zno, (0, 32, [], 0), (5, 33, [3], 0), (2, 34, [3], 0), (0, 36, [], 16), zno, (73, 39, [95], 0), zno, zno, (4, 40, [0], 0), (21, 43, [8, 3], 0), zno, zno, (2, 44, [3], 0), (34, 47, [17, 2, 0], 0), zno, zno, (80, 50, [89], 0), zno, zno, (1, 53, [], 31), zno, zno, (3, 54, [1], 0), (62, 55, [], 0), (2, 56, [3], 0), (12, 57, [], 0), (60, 58, [], 0), (6, 59, [1], 0), (0, 60, [], 0), (5, 62, [4], 0), zno, (2, 64, [4], 0), zno, (0, 65, [], 4), (74, 68, [89], 0), zno, zno, (1, 71, [], 31), zno, zno, (3, 72, [1], 0), (62, 73, [], 0), (4, 74, [0], 0), (2, 75, [3], 0), (2, 77, [4], 0), zno, (34, 80, [72, 3, 0], 0), zno, zno, (12, 81, [], 0), (60, 82, [], 0), (6, 83, [1], 0), (8, 86, [4], 1), zno, zno, (17, 89, [62], 0), zno, zno, (8, 92, [3], 1), zno, zno, (17, 95, [33], 0), zno, zno, (0, 96, [], 0), (5, 97, [3], 0), (2, 98, [3], 0), (4, 99, [0], 0), (21, 102, [8, 3], 0), zno, zno, (21, 105, [1, 2], 0), zno, zno, (73, 108, [145], 0), zno, zno, (0, 109, [], 0), (5, 111, [4], 0), zno, (2, 113, [4], 0), zno, (0, 115, [], 7), zno, (74, 118, [139], 0), zno, zno, (1, 121, [], 31), zno, zno, (3, 122, [1], 0), (62, 123, [], 0), (4, 124, [0], 0), (2, 125, [3], 0), (2, 127, [4], 0), zno, (34, 130, [71, 3, 0], 0), zno, zno, (12, 131, [], 0), (60, 132, [], 0), (6, 133, [1], 0), (8, 136, [4], 1), zno, zno, (17, 139, [111], 0), zno, zno, (8, 142, [3], 1), zno, zno, (17, 145, [97], 0), zno, zno, (0, 146, [], 0), (5, 147, [3], 0), (2, 148, [3], 0), (0, 150, [], 7), zno, (74, 153, [171], 0), zno, zno, (1, 156, [], 31), zno, zno, (3, 157, [1], 0), (62, 158, [], 0), (4, 159, [0], 0), (2, 160, [3], 0), (34, 163, [87, 2, 0], 0), zno, zno, (60, 164, [], 0), (6, 165, [1], 0), (8, 168, [3], 1), zno, zno, (17, 171, [147], 0), zno, zno, (3, 172, [1], 0), (37, 0, [], 0)]
/-- TieOffice.refuse(I)I -/
def zc91 : List (Nat × Nat × List Nat × Int) := [(0, 2, [], -2), zno, (2, 3, [1], 0), (51, 4, [], 0), (5, 5, [2], 0), (2, 6, [2], 0), (82, 9, [28], 0), zno, zno, (2, 10, [2], 0), (4, 11, [0], 0), (21, 14, [8, 0], 0), zno, zno, (30, 15, [], 0), (73, 18, [28], 0), zno, zno, (4, 19, [0], 0), (21, 22, [8, 0], 0), zno, zno, (2, 23, [2], 0), (19, 24, [], 0), (26, 25, [], 0), (0, 26, [], 1), (50, 27, [], 0), (27, 28, [], 0), (2, 29, [1], 0), (35, 0, [], 0)]
/-- TieOffice.settle()V -/
def zc92 : List (Nat × Nat × List Nat × Int) := [(4, 1, [0], 0), (21, 4, [8, 4], 0), zno, zno, (4, 5, [0], 0), (21, 8, [8, 3], 0), zno, zno, (4, 9, [0], 0), (21, 12, [8, 3], 0), zno, zno, (21, 15, [1, 3], 0), zno, zno, (34, 18, [1, 3, 0], 0), zno, zno, (4, 19, [0], 0), (21, 22, [8, 10], 0), zno, zno, (34, 25, [57, 1, 0], 0), zno, zno, (4, 26, [0], 0), (21, 29, [8, 11], 0), zno, zno, (34, 32, [40, 1, 0], 0), zno, zno, (38, 0, [], 0)]
/-- TieOffice.condition(I)I -/
def zc93 : List (Nat × Nat × List Nat × Int) := [(4, 1, [0], 0), (21, 4, [8, 3], 0), zno, zno, (21, 7, [1, 4], 0), zno, zno, (2, 8, [1], 0), (57, 9, [], 0), (0, 10, [], 1), (53, 11, [], 0), (80, 14, [16], 0), zno, zno, (0, 15, [], 2), (35, 0, [], 0), (4, 17, [0], 0), (21, 20, [8, 3], 0), zno, zno, (21, 23, [1, 3], 0), zno, zno, (2, 24, [1], 0), (57, 25, [], 0), (0, 26, [], 1), (53, 27, [], 0), (35, 0, [], 0)]
/-- TieOffice.placeOnRing(II)I -/
def zc94 : List (Nat × Nat × List Nat × Int) := [(4, 1, [0], 0), (21, 4, [8, 3], 0), zno, zno, (2, 5, [1], 0), (4, 6, [0], 0), (21, 9, [8, 3], 0), zno, zno, (21, 12, [1, 3], 0), zno, zno, (34, 15, [21, 3, 0], 0), zno, zno, (81, 18, [20], 0), zno, zno, (0, 19, [], -1), (35, 0, [], 0), (4, 21, [0], 0), (21, 24, [8, 8], 0), zno, zno, (4, 25, [0], 0), (21, 28, [8, 3], 0), zno, zno, (4, 29, [0], 0), (21, 32, [8, 4], 0), zno, zno, (2, 33, [1], 0), (34, 36, [50, 4, 0], 0), zno, zno, (4, 37, [0], 0), (21, 40, [8, 8], 0), zno, zno, (2, 41, [2], 0), (34, 44, [51, 2, 0], 0), zno, zno, (35, 0, [], 0)]
/-- TieOffice.swap(II)V -/
def zc95 : List (Nat × Nat × List Nat × Int) := [(4, 1, [0], 0), (21, 4, [8, 3], 0), zno, zno, (4, 5, [0], 0), (21, 8, [8, 3], 0), zno, zno, (21, 11, [1, 3], 0), zno, zno, (2, 12, [1], 0), (2, 13, [2], 0), (34, 16, [96, 3, 1], 0), zno, zno, (22, 19, [1, 3], 0), zno, zno, (4, 20, [0], 0), (34, 23, [92, 1, 0], 0), zno, zno, (38, 0, [], 0)]
/-- TieOffice.exchanged(III)I -/
def zc96 : List (Nat × Nat × List Nat × Int) := [(2, 1, [0], 0), (0, 2, [], 1), (2, 3, [1], 0), (56, 4, [], 0), (54, 5, [], 0), (0, 6, [], 1), (2, 7, [2], 0), (56, 8, [], 0), (0, 9, [], -1), (55, 10, [], 0), (53, 11, [], 0), (35, 0, [], 0)]
/-- TieOfficeModel.<init>()V -/
def zc97 : List (Nat × Nat × List Nat × Int) := [(4, 1, [0], 0), (41, 4, [], 0), zno, zno, (4, 5, [0], 0), (0, 6, [], 4), (32, 8, [], 0), zno, (25, 11, [9, 0], 0), zno, zno, (4, 12, [0], 0), (0, 15, [], 200), zno, zno, (32, 17, [], 0), zno, (25, 20, [9, 1], 0), zno, zno, (4, 21, [0], 0), (0, 23, [], 16), zno, (32, 25, [], 0), zno, (25, 28, [9, 4], 0), zno, zno, (4, 29, [0], 0), (0, 31, [], 16), zno, (32, 33, [], 0), zno, (25, 36, [9, 5], 0), zno, zno, (4, 37, [0], 0), (0, 39, [], 24), zno, (32, 41, [], 0), zno, (25, 44, [9, 6], 0), zno, zno, (4, 45, [0], 0), (0, 47, [], 24), zno, (32, 49, [], 0), zno, (25, 52, [9, 7], 0), zno, zno, (4, 53, [0], 0), (0, 55, [], 24), zno, (32, 57, [], 0), zno, (25, 60, [9, 8], 0), zno, zno, (4, 61, [0], 0), (0, 63, [], 24), zno, (32, 65, [], 0), zno, (25, 68, [9, 9], 0), zno, zno, (4, 69, [0], 0), (0, 71, [], 24), zno, (32, 73, [], 0), zno, (25, 76, [9, 10], 0), zno, zno, (4, 77, [0], 0), (0, 80, [], 918), zno, zno, (32, 82, [], 0), zno, (25, 85, [9, 12], 0), zno, zno, (4, 86, [0], 0), (0, 88, [], 16), zno, (32, 90, [], 0), zno, (25, 93, [9, 18], 0), zno, zno, (4, 94, [0], 0), (0, 96, [], 16), zno, (32, 98, [], 0), zno, (25, 101, [9, 19], 0), zno, zno, (4, 102, [0], 0), (0, 104, [], 24), zno, (32, 106, [], 0), zno, (25, 109, [9, 20], 0), zno, zno, (4, 110, [0], 0), (0, 112, [], 24), zno, (32, 114, [], 0), zno, (25, 117, [9, 21], 0), zno, zno, (4, 118, [0], 0), (0, 120, [], 24), zno, (32, 122, [], 0), zno, (25, 125, [9, 22], 0), zno, zno, (4, 126, [0], 0), (0, 128, [], 24), zno, (32, 130, [], 0), zno, (25, 133, [9, 23], 0), zno, zno, (4, 134, [0], 0), (0, 136, [], 24), zno, (32, 138, [], 0), zno, (25, 141, [9, 24], 0), zno, zno, (4, 142, [0], 0), (0, 144, [], 24), zno, (32, 146, [], 0), zno, (25, 149, [9, 25], 0), zno, zno, (4, 150, [0], 0), (0, 152, [], 16), zno, (32, 154, [], 0), zno, (25, 157, [9, 26], 0), zno, zno, (4, 158, [0], 0), (0, 160, [], 16), zno, (32, 162, [], 0), zno, (25, 165, [9, 27], 0), zno, zno, (4, 166, [0], 0), (0, 168, [], 16), zno, (32, 170, [], 0), zno, (25, 173, [9, 28], 0), zno, zno, (4, 174, [0], 0), (0, 176, [], 16), zno, (32, 178, [], 0), zno, (25, 181, [9, 29], 0), zno, zno, (4, 182, [0], 0), (0, 184, [], 16), zno, (32, 186, [], 0), zno, (25, 189, [9, 30], 0), zno, zno, (4, 190, [0], 0), (0, 192, [], 24), zno, (32, 194, [], 0), zno, (25, 197, [9, 32], 0), zno, zno, (4, 198, [0], 0), (0, 200, [], 24), zno, (32, 202, [], 0), zno, (25, 205, [9, 33], 0), zno, zno, (4, 206, [0], 0), (0, 208, [], 24), zno, (32, 210, [], 0), zno, (25, 213, [9, 35], 0), zno, zno, (4, 214, [0], 0), (0, 216, [], 18), zno, (32, 218, [], 0), zno, (25, 221, [9, 36], 0), zno, zno, (4, 222, [0], 0), (0, 224, [], 17), zno, (32, 226, [], 0), zno, (25, 229, [9, 37], 0), zno, zno, (4, 230, [0], 0), (0, 232, [], 17), zno, (32, 234, [], 0), zno, (25, 237, [9, 38], 0), zno, zno, (4, 238, [0], 0), (0, 240, [], 17), zno, (32, 242, [], 0), zno, (25, 245, [9, 39], 0), zno, zno, (4, 246, [0], 0), (0, 249, [], 301), zno, zno, (32, 251, [], 0), zno, (25, 254, [9, 41], 0), zno, zno, (4, 255, [0], 0), (0, 258, [], 301), zno, zno, (32, 260, [], 0), zno, (25, 263, [9, 42], 0), zno, zno, (4, 264, [0], 0), (0, 266, [], 24), zno, (32, 268, [], 0), zno, (25, 271, [9, 43], 0), zno, zno, (4, 272, [0], 0), (0, 274, [], 24), zno, (32, 276, [], 0), zno, (25, 279, [9, 44], 0), zno, zno, (4, 280, [0], 0), (0, 282, [], 24), zno, (32, 284, [], 0), zno, (25, 287, [9, 52], 0), zno, zno, (4, 288, [0], 0), (34, 291, [118, 1, 0], 0), zno, zno, (38, 0, [], 0)]
/-- TieOfficeModel.in(III)Z -/
def zc98 : List (Nat × Nat × List Nat × Int) := [(2, 1, [0], 0), (2, 2, [1], 0), (72, 5, [14], 0), zno, zno, (2, 6, [0], 0), (2, 7, [2], 0), (74, 10, [14], 0), zno, zno, (0, 11, [], 1), (17, 14, [15], 0), zno, zno, (0, 15, [], 0), (36, 0, [], 0)]
/-- TieOfficeModel.refuses(I)I -/
def zc99 : List (Nat × Nat × List Nat × Int) := [(4, 1, [0], 0), (21, 4, [9, 0], 0), zno, zno, (0, 6, [], -2), zno, (2, 7, [1], 0), (51, 8, [], 0), (19, 9, [], 0), (26, 10, [], 0), (0, 11, [], 1), (50, 12, [], 0), (27, 13, [], 0), (2, 14, [1], 0), (35, 0, [], 0)]
/-- TieOfficeModel.type(I)I -/
def zc100 : List (Nat × Nat × List Nat × Int) := [(2, 1, [1], 0), (0, 2, [], 0), (0, 4, [], 127), zno, (34, 7, [98, 3, 1], 0), zno, zno, (81, 10, [17], 0), zno, zno, (4, 11, [0], 0), (0, 13, [], -2), zno, (34, 16, [99, 2, 0], 0), zno, zno, (35, 0, [], 0), (4, 18, [0], 0), (21, 21, [9, 2], 0), zno, zno, (0, 24, [], 200), zno, zno, (71, 27, [34], 0), zno, zno, (4, 28, [0], 0), (0, 30, [], -4), zno, (34, 33, [99, 2, 0], 0), zno, zno, (35, 0, [], 0), (4, 35, [0], 0), (21, 38, [9, 1], 0), zno, zno, (4, 39, [0], 0), (21, 42, [9, 2], 0), zno, zno, (2, 43, [1], 0), (27, 44, [], 0), (4, 45, [0], 0), (18, 46, [], 0), (21, 49, [9, 2], 0), zno, zno, (0, 50, [], 1), (50, 51, [], 0), (22, 54, [9, 2], 0), zno, zno, (4, 55, [0], 0), (21, 58, [9, 2], 0), zno, zno, (35, 0, [], 0)]
/-- TieOfficeModel.clear()I -/
def zc101 : List (Nat × Nat × List Nat × Int) := [(4, 1, [0], 0), (21, 4, [9, 2], 0), zno, zno, (5, 5, [1], 0), (4, 6, [0], 0), (0, 7, [], 0), (22, 10, [9, 2], 0), zno, zno, (2, 11, [1], 0), (35, 0, [], 0)]
/-- TieOfficeModel.byteAt(I)I -/
def zc102 : List (Nat × Nat × List Nat × Int) := [(2, 1, [1], 0), (4, 2, [0], 0), (21, 5, [9, 2], 0), zno, zno, (73, 8, [17], 0), zno, zno, (4, 9, [0], 0), (21, 12, [9, 1], 0), zno, zno, (2, 13, [1], 0), (26, 14, [], 0), (17, 17, [18], 0), zno, zno, (0, 18, [], -1), (35, 0, [], 0)]
/-- TieOfficeModel.isFigure(I)Z -/
def zc103 : List (Nat × Nat × List Nat × Int) := [(4, 1, [0], 0), (2, 2, [1], 0), (34, 5, [102, 2, 0], 0), zno, zno, (0, 7, [], 48), zno, (0, 9, [], 57), zno, (34, 12, [98, 3, 1], 0), zno, zno, (36, 0, [], 0)]
/-- TieOfficeModel.stands(Z)Z -/
def zc104 : List (Nat × Nat × List Nat × Int) := [(2, 1, [1], 0), (81, 4, [19], 0), zno, zno, (4, 5, [0], 0), (21, 8, [9, 14], 0), zno, zno, (83, 11, [19], 0), zno, zno, (4, 12, [0], 0), (4, 13, [0], 0), (21, 16, [9, 13], 0), zno, zno, (22, 19, [9, 14], 0), zno, zno, (4, 20, [0], 0), (18, 21, [], 0), (21, 24, [9, 13], 0), zno, zno, (4, 25, [0], 0), (21, 28, [9, 14], 0), zno, zno, (83, 31, [35], 0), zno, zno, (0, 32, [], 1), (17, 35, [36], 0), zno, zno, (0, 36, [], 0), (50, 37, [], 0), (22, 40, [9, 13], 0), zno, zno, (4, 41, [0], 0), (21, 44, [9, 14], 0), zno, zno, (83, 47, [51], 0), zno, zno, (0, 48, [], 1), (17, 51, [52], 0), zno, zno, (0, 52, [], 0), (36, 0, [], 0)]
/-- TieOfficeModel.number(I)I -/
def zc105 : List (Nat × Nat × List Nat × Int) := [(0, 1, [], 0), (5, 2, [2], 0), (0, 3, [], 0), (5, 4, [3], 0), (2, 5, [3], 0), (2, 6, [1], 0), (73, 9, [53], 0), zno, zno, (4, 10, [0], 0), (4, 11, [0], 0), (21, 14, [9, 13], 0), zno, zno, (34, 17, [103, 2, 0], 0), zno, zno, (80, 20, [53], 0), zno, zno, (0, 22, [], 10), zno, (2, 23, [2], 0), (52, 24, [], 0), (4, 25, [0], 0), (4, 26, [0], 0), (21, 29, [9, 13], 0), zno, zno, (34, 32, [102, 2, 0], 0), zno, zno, (50, 33, [], 0), (0, 35, [], 48), zno, (51, 36, [], 0), (5, 37, [2], 0), (4, 38, [0], 0), (18, 39, [], 0), (21, 42, [9, 13], 0), zno, zno, (0, 43, [], 1), (50, 44, [], 0), (22, 47, [9, 13], 0), zno, zno, (8, 50, [3], 1), zno, zno, (17, 53, [4], 0), zno, zno, (2, 54, [3], 0), (81, 57, [63], 0), zno, zno, (4, 58, [0], 0), (0, 59, [], 0), (34, 62, [104, 2, 0], 0), zno, zno, (20, 63, [], 0), (2, 64, [2], 0), (35, 0, [], 0)]
/-- TieOfficeModel.place()V -/
def zc106 : List (Nat × Nat × List Nat × Int) := [(4, 1, [0], 0), (4, 2, [0], 0), (21, 5, [9, 13], 0), zno, zno, (34, 8, [102, 2, 0], 0), zno, zno, (0, 10, [], 97), zno, (51, 11, [], 0), (5, 12, [1], 0), (4, 13, [0], 0), (2, 14, [1], 0), (0, 15, [], 0), (0, 17, [], 15), zno, (34, 20, [98, 3, 1], 0), zno, zno, (80, 23, [36], 0), zno, zno, (4, 24, [0], 0), (21, 27, [9, 18], 0), zno, zno, (2, 28, [1], 0), (26, 29, [], 0), (81, 32, [36], 0), zno, zno, (0, 33, [], 1), (17, 36, [37], 0), zno, zno, (0, 37, [], 0), (34, 40, [104, 2, 0], 0), zno, zno, (81, 43, [44], 0), zno, zno, (38, 0, [], 0), (4, 45, [0], 0), (4, 46, [0], 0), (21, 49, [9, 13], 0), zno, zno, (34, 52, [103, 2, 0], 0), zno, zno, (80, 55, [105], 0), zno, zno, (4, 56, [0], 0), (21, 59, [9, 19], 0), zno, zno, (2, 60, [1], 0), (4, 61, [0], 0), (0, 62, [], 2), (34, 65, [105, 2, 0], 0), zno, zno, (27, 66, [], 0), (4, 67, [0], 0), (21, 70, [9, 18], 0), zno, zno, (2, 71, [1], 0), (4, 72, [0], 0), (4, 73, [0], 0), (4, 74, [0], 0), (21, 77, [9, 13], 0), zno, zno, (34, 80, [102, 2, 0], 0), zno, zno, (0, 82, [], 59), zno, (71, 85, [89], 0), zno, zno, (0, 86, [], 1), (17, 89, [90], 0), zno, zno, (0, 90, [], 0), (34, 93, [104, 2, 0], 0), zno, zno, (80, 96, [100], 0), zno, zno, (0, 97, [], 2), (17, 100, [101], 0), zno, zno, (0, 101, [], 0), (27, 102, [], 0), (17, 105, [155], 0), zno, zno, (4, 106, [0], 0), (4, 107, [0], 0), (4, 108, [0], 0), (21, 111, [9, 13], 0), zno, zno, (34, 114, [102, 2, 0], 0), zno, zno, (0, 116, [], 59), zno, (71, 119, [131], 0), zno, zno, (4, 120, [0], 0), (21, 123, [9, 16], 0), zno, zno, (0, 124, [], 4), (73, 127, [131], 0), zno, zno, (0, 128, [], 1), (17, 131, [132], 0), zno, zno, (0, 132, [], 0), (34, 135, [104, 2, 0], 0), zno, zno, (80, 138, [155], 0), zno, zno, (4, 139, [0], 0), (21, 142, [9, 18], 0), zno, zno, (2, 143, [1], 0), (0, 144, [], 1), (27, 145, [], 0), (4, 146, [0], 0), (18, 147, [], 0), (21, 150, [9, 16], 0), zno, zno, (0, 151, [], 1), (50, 152, [], 0), (22, 155, [9, 16], 0), zno, zno, (38, 0, [], 0)]
/-- TieOfficeModel.isNewPlace(I)Z -/
def zc107 : List (Nat × Nat × List Nat × Int) := [(2, 1, [1], 0), (0, 2, [], 0), (0, 4, [], 15), zno, (34, 7, [98, 3, 1], 0), zno, zno, (80, 10, [23], 0), zno, zno, (4, 11, [0], 0), (21, 14, [9, 18], 0), zno, zno, (2, 15, [1], 0), (26, 16, [], 0), (80, 19, [23], 0), zno, zno, (0, 20, [], 1), (17, 23, [24], 0), zno, zno, (0, 24, [], 0), (36, 0, [], 0)]
/-- TieOfficeModel.isNewLine(II)Z -/
def zc108 : List (Nat × Nat × List Nat × Int) := [(0, 1, [], 0), (5, 2, [3], 0), (0, 3, [], 0), (5, 5, [4], 0), zno, (2, 7, [4], 0), zno, (4, 8, [0], 0), (21, 11, [9, 15], 0), zno, zno, (73, 14, [74], 0), zno, zno, (2, 15, [3], 0), (81, 18, [62], 0), zno, zno, (4, 19, [0], 0), (21, 22, [9, 20], 0), zno, zno, (2, 24, [4], 0), zno, (26, 25, [], 0), (2, 26, [1], 0), (71, 29, [40], 0), zno, zno, (4, 30, [0], 0), (21, 33, [9, 21], 0), zno, zno, (2, 35, [4], 0), zno, (26, 36, [], 0), (2, 37, [2], 0), (70, 40, [62], 0), zno, zno, (4, 41, [0], 0), (21, 44, [9, 20], 0), zno, zno, (2, 46, [4], 0), zno, (26, 47, [], 0), (2, 48, [2], 0), (71, 51, [66], 0), zno, zno, (4, 52, [0], 0), (21, 55, [9, 21], 0), zno, zno, (2, 57, [4], 0), zno, (26, 58, [], 0), (2, 59, [1], 0), (71, 62, [66], 0), zno, zno, (0, 63, [], 1), (17, 66, [67], 0), zno, zno, (0, 67, [], 0), (5, 68, [3], 0), (8, 71, [4], 1), zno, zno, (17, 74, [5], 0), zno, zno, (2, 75, [3], 0), (36, 0, [], 0)]
/-- TieOfficeModel.newLine()V -/
def zc109 : List (Nat × Nat × List Nat × Int) := [(4, 1, [0], 0), (21, 4, [9, 13], 0), zno, zno, (5, 5, [1], 0), (4, 6, [0], 0), (4, 7, [0], 0), (21, 10, [9, 15], 0), zno, zno, (0, 12, [], 24), zno, (73, 15, [19], 0), zno, zno, (0, 16, [], 1), (17, 19, [20], 0), zno, zno, (0, 20, [], 0), (34, 23, [104, 2, 0], 0), zno, zno, (81, 26, [27], 0), zno, zno, (38, 0, [], 0), (4, 28, [0], 0), (4, 29, [0], 0), (21, 32, [9, 13], 0), zno, zno, (34, 35, [102, 2, 0], 0), zno, zno, (0, 37, [], 97), zno, (51, 38, [], 0), (5, 39, [2], 0), (4, 40, [0], 0), (4, 41, [0], 0), (2, 42, [2], 0), (34, 45, [107, 2, 0], 0), zno, zno, (34, 48, [104, 2, 0], 0), zno, zno, (81, 51, [52], 0), zno, zno, (38, 0, [], 0), (4, 53, [0], 0), (4, 54, [0], 0), (21, 57, [9, 13], 0), zno, zno, (34, 60, [102, 2, 0], 0), zno, zno, (0, 62, [], 97), zno, (51, 63, [], 0), (5, 64, [3], 0), (4, 65, [0], 0), (4, 66, [0], 0), (2, 67, [3], 0), (34, 70, [107, 2, 0], 0), zno, zno, (80, 73, [91], 0), zno, zno, (2, 74, [3], 0), (2, 75, [2], 0), (70, 78, [91], 0), zno, zno, (4, 79, [0], 0), (2, 80, [2], 0), (2, 81, [3], 0), (34, 84, [108, 3, 0], 0), zno, zno, (81, 87, [91], 0), zno, zno, (0, 88, [], 1), (17, 91, [92], 0), zno, zno, (0, 92, [], 0), (34, 95, [104, 2, 0], 0), zno, zno, (81, 98, [99], 0), zno, zno, (38, 0, [], 0), (4, 100, [0], 0), (4, 101, [0], 0), (21, 104, [9, 13], 0), zno, zno, (34, 107, [102, 2, 0], 0), zno, zno, (0, 109, [], 48), zno, (71, 112, [118], 0), zno, zno, (4, 113, [0], 0), (0, 114, [], 0), (34, 117, [104, 2, 0], 0), zno, zno, (20, 118, [], 0), (4, 119, [0], 0), (21, 122, [9, 14], 0), zno, zno, (83, 125, [133], 0), zno, zno, (4, 126, [0], 0), (0, 127, [], 2), (34, 130, [105, 2, 0], 0), zno, zno, (17, 133, [134], 0), zno, zno, (0, 134, [], 0), (5, 136, [4], 0), zno, (4, 137, [0], 0), (21, 140, [9, 14], 0), zno, zno, (83, 143, [168], 0), zno, zno, (4, 144, [0], 0), (4, 145, [0], 0), (4, 146, [0], 0), (21, 149, [9, 13], 0), zno, zno, (34, 152, [102, 2, 0], 0), zno, zno, (0, 154, [], 44), zno, (71, 157, [161], 0), zno, zno, (0, 158, [], 1), (17, 161, [162], 0), zno, zno, (0, 162, [], 0), (34, 165, [104, 2, 0], 0), zno, zno, (81, 168, [169], 0), zno, zno, (38, 0, [], 0), (4, 170, [0], 0), (0, 171, [], 3), (34, 174, [105, 2, 0], 0), zno, zno, (5, 176, [5], 0), zno, (4, 177, [0], 0), (21, 180, [9, 14], 0), zno, zno, (83, 183, [208], 0), zno, zno, (4, 184, [0], 0), (4, 185, [0], 0), (4, 186, [0], 0), (21, 189, [9, 13], 0), zno, zno, (34, 192, [102, 2, 0], 0), zno, zno, (0, 194, [], 59), zno, (71, 197, [201], 0), zno, zno, (0, 198, [], 1), (17, 201, [202], 0), zno, zno, (0, 202, [], 0), (34, 205, [104, 2, 0], 0), zno, zno, (81, 208, [209], 0), zno, zno, (38, 0, [], 0), (4, 210, [0], 0), (21, 213, [9, 20], 0), zno, zno, (4, 214, [0], 0), (21, 217, [9, 15], 0), zno, zno, (2, 218, [2], 0), (27, 219, [], 0), (4, 220, [0], 0), (21, 223, [9, 21], 0), zno, zno, (4, 224, [0], 0), (21, 227, [9, 15], 0), zno, zno, (2, 228, [3], 0), (27, 229, [], 0), (4, 230, [0], 0), (21, 233, [9, 22], 0), zno, zno, (4, 234, [0], 0), (21, 237, [9, 15], 0), zno, zno, (2, 239, [4], 0), zno, (27, 240, [], 0), (4, 241, [0], 0), (21, 244, [9, 23], 0), zno, zno, (4, 245, [0], 0), (21, 248, [9, 15], 0), zno, zno, (2, 250, [5], 0), zno, (27, 251, [], 0), (4, 252, [0], 0), (21, 255, [9, 24], 0), zno, zno, (4, 256, [0], 0), (21, 259, [9, 15], 0), zno, zno, (4, 260, [0], 0), (2, 261, [1], 0), (34, 264, [102, 2, 0], 0), zno, zno, (0, 266, [], 43), zno, (71, 269, [273], 0), zno, zno, (0, 270, [], 1), (17, 273, [274], 0), zno, zno, (0, 274, [], 0), (27, 275, [], 0), (4, 276, [0], 0), (21, 279, [9, 25], 0), zno, zno, (4, 280, [0], 0), (21, 283, [9, 15], 0), zno, zno, (2, 284, [1], 0), (27, 285, [], 0), (4, 286, [0], 0), (18, 287, [], 0), (21, 290, [9, 15], 0), zno, zno, (0, 291, [], 1), (50, 292, [], 0), (22, 295, [9, 15], 0), zno, zno, (38, 0, [], 0)]
/-- TieOfficeModel.rootOf(I)I -/
def zc110 : List (Nat × Nat × List Nat × Int) := [(2, 1, [1], 0), (5, 2, [2], 0), (4, 3, [0], 0), (21, 6, [9, 39], 0), zno, zno, (2, 7, [2], 0), (26, 8, [], 0), (2, 9, [2], 0), (70, 12, [22], 0), zno, zno, (4, 13, [0], 0), (21, 16, [9, 39], 0), zno, zno, (2, 17, [2], 0), (26, 18, [], 0), (5, 19, [2], 0), (17, 22, [2], 0), zno, zno, (2, 23, [2], 0), (35, 0, [], 0)]
/-- TieOfficeModel.firstRing()I -/
def zc111 : List (Nat × Nat × List Nat × Int) := [(0, 1, [], 0), (5, 2, [1], 0), (2, 3, [1], 0), (0, 5, [], 16), zno, (74, 8, [42], 0), zno, zno, (4, 9, [0], 0), (21, 12, [9, 39], 0), zno, zno, (2, 13, [1], 0), (2, 14, [1], 0), (0, 16, [], 16), zno, (73, 19, [34], 0), zno, zno, (4, 20, [0], 0), (21, 23, [9, 18], 0), zno, zno, (2, 24, [1], 0), (26, 25, [], 0), (0, 26, [], 1), (71, 29, [34], 0), zno, zno, (0, 31, [], 16), zno, (17, 34, [35], 0), zno, zno, (2, 35, [1], 0), (27, 36, [], 0), (8, 39, [1], 1), zno, zno, (17, 42, [2], 0), zno, zno, (0, 43, [], 0), (5, 44, [1], 0), (2, 45, [1], 0), (4, 46, [0], 0), (21, 49, [9, 15], 0), zno, zno, (73, 52, [136], 0), zno, zno, (4, 53, [0], 0), (21, 56, [9, 24], 0), zno, zno, (2, 57, [1], 0), (26, 58, [], 0), (0, 59, [], 1), (71, 62, [130], 0), zno, zno, (4, 63, [0], 0), (4, 64, [0], 0), (21, 67, [9, 20], 0), zno, zno, (2, 68, [1], 0), (26, 69, [], 0), (34, 72, [110, 2, 0], 0), zno, zno, (5, 73, [2], 0), (4, 74, [0], 0), (4, 75, [0], 0), (21, 78, [9, 21], 0), zno, zno, (2, 79, [1], 0), (26, 80, [], 0), (34, 83, [110, 2, 0], 0), zno, zno, (5, 84, [3], 0), (2, 85, [2], 0), (2, 86, [3], 0), (71, 89, [91], 0), zno, zno, (2, 90, [1], 0), (35, 0, [], 0), (4, 92, [0], 0), (21, 95, [9, 39], 0), zno, zno, (2, 96, [2], 0), (2, 97, [3], 0), (0, 99, [], 16), zno, (71, 102, [106], 0), zno, zno, (2, 103, [3], 0), (17, 106, [112], 0), zno, zno, (4, 107, [0], 0), (21, 110, [9, 39], 0), zno, zno, (2, 111, [2], 0), (26, 112, [], 0), (27, 113, [], 0), (4, 114, [0], 0), (21, 117, [9, 39], 0), zno, zno, (2, 118, [3], 0), (2, 119, [3], 0), (0, 121, [], 16), zno, (71, 124, [128], 0), zno, zno, (2, 125, [3], 0), (17, 128, [129], 0), zno, zno, (2, 129, [2], 0), (27, 130, [], 0), (8, 133, [1], 1), zno, zno, (17, 136, [44], 0), zno, zno, (0, 137, [], -1), (35, 0, [], 0)]
/-- TieOfficeModel.readsAll()V -/
def zc112 : List (Nat × Nat × List Nat × Int) := [(4, 1, [0], 0), (0, 2, [], 0), (22, 5, [9, 15], 0), zno, zno, (4, 6, [0], 0), (0, 7, [], 0), (22, 10, [9, 16], 0), zno, zno, (4, 11, [0], 0), (0, 12, [], 0), (22, 15, [9, 17], 0), zno, zno, (0, 16, [], 0), (5, 17, [1], 0), (2, 18, [1], 0), (0, 20, [], 16), zno, (73, 23, [43], 0), zno, zno, (4, 24, [0], 0), (21, 27, [9, 18], 0), zno, zno, (2, 28, [1], 0), (0, 29, [], 0), (27, 30, [], 0), (4, 31, [0], 0), (21, 34, [9, 19], 0), zno, zno, (2, 35, [1], 0), (0, 36, [], 0), (27, 37, [], 0), (8, 40, [1], 1), zno, zno, (17, 43, [17], 0), zno, zno, (4, 44, [0], 0), (0, 45, [], 0), (22, 48, [9, 13], 0), zno, zno, (4, 49, [0], 0), (0, 50, [], -1), (22, 53, [9, 14], 0), zno, zno, (4, 54, [0], 0), (21, 57, [9, 13], 0), zno, zno, (4, 58, [0], 0), (21, 61, [9, 2], 0), zno, zno, (73, 64, [121], 0), zno, zno, (4, 65, [0], 0), (21, 68, [9, 14], 0), zno, zno, (83, 71, [121], 0), zno, zno, (4, 72, [0], 0), (4, 73, [0], 0), (21, 76, [9, 13], 0), zno, zno, (34, 79, [102, 2, 0], 0), zno, zno, (0, 81, [], 43), zno, (70, 84, [97], 0), zno, zno, (4, 85, [0], 0), (4, 86, [0], 0), (21, 89, [9, 13], 0), zno, zno, (34, 92, [102, 2, 0], 0), zno, zno, (0, 94, [], 45), zno, (71, 97, [104], 0), zno, zno, (4, 98, [0], 0), (34, 101, [109, 1, 0], 0), zno, zno, (17, 104, [108], 0), zno, zno, (4, 105, [0], 0), (34, 108, [106, 1, 0], 0), zno, zno, (4, 109, [0], 0), (18, 110, [], 0), (21, 113, [9, 17], 0), zno, zno, (0, 114, [], 1), (50, 115, [], 0), (22, 118, [9, 17], 0), zno, zno, (17, 121, [53], 0), zno, zno, (4, 122, [0], 0), (21, 125, [9, 14], 0), zno, zno, (82, 128, [139], 0), zno, zno, (4, 129, [0], 0), (21, 132, [9, 14], 0), zno, zno, (4, 133, [0], 0), (21, 136, [9, 2], 0), zno, zno, (71, 139, [166], 0), zno, zno, (4, 140, [0], 0), (34, 143, [111, 1, 0], 0), zno, zno, (5, 144, [1], 0), (4, 145, [0], 0), (2, 146, [1], 0), (0, 147, [], -1), (71, 150, [157], 0), zno, zno, (4, 151, [0], 0), (21, 154, [9, 14], 0), zno, zno, (17, 157, [163], 0), zno, zno, (4, 158, [0], 0), (21, 161, [9, 25], 0), zno, zno, (2, 162, [1], 0), (26, 163, [], 0), (22, 166, [9, 14], 0), zno, zno, (38, 0, [], 0)]
/-- TieOfficeModel.reads()I -/
def zc113 : List (Nat × Nat × List Nat × Int) := [(4, 1, [0], 0), (34, 4, [112, 1, 0], 0), zno, zno, (4, 5, [0], 0), (21, 8, [9, 14], 0), zno, zno, (82, 11, [19], 0), zno, zno, (0, 13, [], -10), zno, (4, 14, [0], 0), (21, 17, [9, 14], 0), zno, zno, (51, 18, [], 0), (35, 0, [], 0), (4, 20, [0], 0), (34, 23, [115, 1, 0], 0), zno, zno, (4, 24, [0], 0), (4, 25, [0], 0), (21, 28, [9, 15], 0), zno, zno, (22, 31, [9, 3], 0), zno, zno, (0, 32, [], 0), (5, 33, [1], 0), (2, 34, [1], 0), (0, 36, [], 16), zno, (73, 39, [69], 0), zno, zno, (4, 40, [0], 0), (21, 43, [9, 4], 0), zno, zno, (2, 44, [1], 0), (4, 45, [0], 0), (21, 48, [9, 18], 0), zno, zno, (2, 49, [1], 0), (26, 50, [], 0), (27, 51, [], 0), (4, 52, [0], 0), (21, 55, [9, 5], 0), zno, zno, (2, 56, [1], 0), (4, 57, [0], 0), (21, 60, [9, 19], 0), zno, zno, (2, 61, [1], 0), (26, 62, [], 0), (27, 63, [], 0), (8, 66, [1], 1), zno, zno, (17, 69, [33], 0), zno, zno, (0, 70, [], 0), (5, 71, [1], 0), (2, 72, [1], 0), (4, 73, [0], 0), (21, 76, [9, 3], 0), zno, zno, (73, 79, [145], 0), zno, zno, (4, 80, [0], 0), (21, 83, [9, 6], 0), zno, zno, (2, 84, [1], 0), (4, 85, [0], 0), (21, 88, [9, 20], 0), zno, zno, (2, 89, [1], 0), (26, 90, [], 0), (27, 91, [], 0), (4, 92, [0], 0), (21, 95, [9, 7], 0), zno, zno, (2, 96, [1], 0), (4, 97, [0], 0), (21, 100, [9, 21], 0), zno, zno, (2, 101, [1], 0), (26, 102, [], 0), (27, 103, [], 0), (4, 104, [0], 0), (21, 107, [9, 8], 0), zno, zno, (2, 108, [1], 0), (4, 109, [0], 0), (21, 112, [9, 22], 0), zno, zno, (2, 113, [1], 0), (26, 114, [], 0), (27, 115, [], 0), (4, 116, [0], 0), (21, 119, [9, 9], 0), zno, zno, (2, 120, [1], 0), (4, 121, [0], 0), (21, 124, [9, 23], 0), zno, zno, (2, 125, [1], 0), (26, 126, [], 0), (27, 127, [], 0), (4, 128, [0], 0), (21, 131, [9, 10], 0), zno, zno, (2, 132, [1], 0), (4, 133, [0], 0), (21, 136, [9, 24], 0), zno, zno, (2, 137, [1], 0), (26, 138, [], 0), (27, 139, [], 0), (8, 142, [1], 1), zno, zno, (17, 145, [71], 0), zno, zno, (4, 146, [0], 0), (34, 149, [118, 1, 0], 0), zno, zno, (4, 150, [0], 0), (21, 153, [9, 17], 0), zno, zno, (35, 0, [], 0)]
/-- TieOfficeModel.writes(I)V -/
def zc114 : List (Nat × Nat × List Nat × Int) := [(0, 1, [], 0), (5, 2, [2], 0), (2, 3, [2], 0), (0, 5, [], 16), zno, (73, 8, [45], 0), zno, zno, (4, 9, [0], 0), (21, 12, [9, 12], 0), zno, zno, (2, 13, [1], 0), (2, 14, [2], 0), (50, 15, [], 0), (4, 16, [0], 0), (21, 19, [9, 4], 0), zno, zno, (2, 20, [2], 0), (26, 21, [], 0), (27, 22, [], 0), (4, 23, [0], 0), (21, 26, [9, 12], 0), zno, zno, (2, 27, [1], 0), (0, 29, [], 16), zno, (50, 30, [], 0), (2, 31, [2], 0), (50, 32, [], 0), (4, 33, [0], 0), (21, 36, [9, 5], 0), zno, zno, (2, 37, [2], 0), (26, 38, [], 0), (27, 39, [], 0), (8, 42, [2], 1), zno, zno, (17, 45, [2], 0), zno, zno, (4, 46, [0], 0), (21, 49, [9, 12], 0), zno, zno, (2, 50, [1], 0), (0, 52, [], 56), zno, (50, 53, [], 0), (4, 54, [0], 0), (21, 57, [9, 3], 0), zno, zno, (27, 58, [], 0), (0, 59, [], 0), (5, 60, [2], 0), (2, 61, [2], 0), (0, 63, [], 24), zno, (73, 66, [166], 0), zno, zno, (4, 67, [0], 0), (21, 70, [9, 12], 0), zno, zno, (2, 71, [1], 0), (0, 73, [], 32), zno, (50, 74, [], 0), (2, 75, [2], 0), (50, 76, [], 0), (4, 77, [0], 0), (21, 80, [9, 10], 0), zno, zno, (2, 81, [2], 0), (26, 82, [], 0), (27, 83, [], 0), (4, 84, [0], 0), (21, 87, [9, 12], 0), zno, zno, (2, 88, [1], 0), (0, 90, [], 57), zno, (50, 91, [], 0), (2, 92, [2], 0), (50, 93, [], 0), (4, 94, [0], 0), (21, 97, [9, 6], 0), zno, zno, (2, 98, [2], 0), (26, 99, [], 0), (27, 100, [], 0), (4, 101, [0], 0), (21, 104, [9, 12], 0), zno, zno, (2, 105, [1], 0), (0, 107, [], 57), zno, (50, 108, [], 0), (0, 110, [], 24), zno, (50, 111, [], 0), (2, 112, [2], 0), (50, 113, [], 0), (4, 114, [0], 0), (21, 117, [9, 7], 0), zno, zno, (2, 118, [2], 0), (26, 119, [], 0), (27, 120, [], 0), (4, 121, [0], 0), (21, 124, [9, 12], 0), zno, zno, (2, 125, [1], 0), (0, 127, [], 57), zno, (50, 128, [], 0), (0, 130, [], 48), zno, (50, 131, [], 0), (2, 132, [2], 0), (50, 133, [], 0), (4, 134, [0], 0), (21, 137, [9, 8], 0), zno, zno, (2, 138, [2], 0), (26, 139, [], 0), (27, 140, [], 0), (4, 141, [0], 0), (21, 144, [9, 12], 0), zno, zno, (2, 145, [1], 0), (0, 147, [], 57), zno, (50, 148, [], 0), (0, 150, [], 72), zno, (50, 151, [], 0), (2, 152, [2], 0), (50, 153, [], 0), (4, 154, [0], 0), (21, 157, [9, 9], 0), zno, zno, (2, 158, [2], 0), (26, 159, [], 0), (27, 160, [], 0), (8, 163, [2], 1), zno, zno, (17, 166, [60], 0), zno, zno, (38, 0, [], 0)]
/-- TieOfficeModel.notes()V -/
def zc115 : List (Nat × Nat × List Nat × Int) := [(4, 1, [0], 0), (21, 4, [9, 11], 0), zno, zno, (0, 6, [], 6), zno, (71, 9, [50], 0), zno, zno, (0, 10, [], 0), (5, 11, [1], 0), (2, 12, [1], 0), (0, 15, [], 765), zno, zno, (73, 18, [40], 0), zno, zno, (4, 19, [0], 0), (21, 22, [9, 12], 0), zno, zno, (2, 23, [1], 0), (4, 24, [0], 0), (21, 27, [9, 12], 0), zno, zno, (2, 28, [1], 0), (0, 31, [], 153), zno, zno, (50, 32, [], 0), (26, 33, [], 0), (27, 34, [], 0), (8, 37, [1], 1), zno, zno, (17, 40, [11], 0), zno, zno, (4, 41, [0], 0), (18, 42, [], 0), (21, 45, [9, 11], 0), zno, zno, (0, 46, [], 1), (51, 47, [], 0), (22, 50, [9, 11], 0), zno, zno, (4, 51, [0], 0), (0, 54, [], 153), zno, zno, (4, 55, [0], 0), (21, 58, [9, 11], 0), zno, zno, (52, 59, [], 0), (34, 62, [114, 2, 0], 0), zno, zno, (4, 63, [0], 0), (18, 64, [], 0), (21, 67, [9, 11], 0), zno, zno, (0, 68, [], 1), (50, 69, [], 0), (22, 72, [9, 11], 0), zno, zno, (38, 0, [], 0)]
/-- TieOfficeModel.back()I -/
def zc116 : List (Nat × Nat × List Nat × Int) := [(4, 1, [0], 0), (21, 4, [9, 11], 0), zno, zno, (81, 7, [14], 0), zno, zno, (4, 8, [0], 0), (0, 10, [], -3), zno, (34, 13, [99, 2, 0], 0), zno, zno, (35, 0, [], 0), (4, 15, [0], 0), (18, 16, [], 0), (21, 19, [9, 11], 0), zno, zno, (0, 20, [], 1), (51, 21, [], 0), (22, 24, [9, 11], 0), zno, zno, (0, 27, [], 153), zno, zno, (4, 28, [0], 0), (21, 31, [9, 11], 0), zno, zno, (52, 32, [], 0), (5, 33, [1], 0), (0, 34, [], 0), (5, 35, [2], 0), (2, 36, [2], 0), (0, 38, [], 16), zno, (73, 41, [78], 0), zno, zno, (4, 42, [0], 0), (21, 45, [9, 4], 0), zno, zno, (2, 46, [2], 0), (4, 47, [0], 0), (21, 50, [9, 12], 0), zno, zno, (2, 51, [1], 0), (2, 52, [2], 0), (50, 53, [], 0), (26, 54, [], 0), (27, 55, [], 0), (4, 56, [0], 0), (21, 59, [9, 5], 0), zno, zno, (2, 60, [2], 0), (4, 61, [0], 0), (21, 64, [9, 12], 0), zno, zno, (2, 65, [1], 0), (0, 67, [], 16), zno, (50, 68, [], 0), (2, 69, [2], 0), (50, 70, [], 0), (26, 71, [], 0), (27, 72, [], 0), (8, 75, [2], 1), zno, zno, (17, 78, [35], 0), zno, zno, (4, 79, [0], 0), (4, 80, [0], 0), (21, 83, [9, 12], 0), zno, zno, (2, 84, [1], 0), (0, 86, [], 56), zno, (50, 87, [], 0), (26, 88, [], 0), (22, 91, [9, 3], 0), zno, zno, (0, 92, [], 0), (5, 93, [2], 0), (2, 94, [2], 0), (0, 96, [], 24), zno, (73, 99, [199], 0), zno, zno, (4, 100, [0], 0), (21, 103, [9, 10], 0), zno, zno, (2, 104, [2], 0), (4, 105, [0], 0), (21, 108, [9, 12], 0), zno, zno, (2, 109, [1], 0), (0, 111, [], 32), zno, (50, 112, [], 0), (2, 113, [2], 0), (50, 114, [], 0), (26, 115, [], 0), (27, 116, [], 0), (4, 117, [0], 0), (21, 120, [9, 6], 0), zno, zno, (2, 121, [2], 0), (4, 122, [0], 0), (21, 125, [9, 12], 0), zno, zno, (2, 126, [1], 0), (0, 128, [], 57), zno, (50, 129, [], 0), (2, 130, [2], 0), (50, 131, [], 0), (26, 132, [], 0), (27, 133, [], 0), (4, 134, [0], 0), (21, 137, [9, 7], 0), zno, zno, (2, 138, [2], 0), (4, 139, [0], 0), (21, 142, [9, 12], 0), zno, zno, (2, 143, [1], 0), (0, 145, [], 57), zno, (50, 146, [], 0), (0, 148, [], 24), zno, (50, 149, [], 0), (2, 150, [2], 0), (50, 151, [], 0), (26, 152, [], 0), (27, 153, [], 0), (4, 154, [0], 0), (21, 157, [9, 8], 0), zno, zno, (2, 158, [2], 0), (4, 159, [0], 0), (21, 162, [9, 12], 0), zno, zno, (2, 163, [1], 0), (0, 165, [], 57), zno, (50, 166, [], 0), (0, 168, [], 48), zno, (50, 169, [], 0), (2, 170, [2], 0), (50, 171, [], 0), (26, 172, [], 0), (27, 173, [], 0), (4, 174, [0], 0), (21, 177, [9, 9], 0), zno, zno, (2, 178, [2], 0), (4, 179, [0], 0), (21, 182, [9, 12], 0), zno, zno, (2, 183, [1], 0), (0, 185, [], 57), zno, (50, 186, [], 0), (0, 188, [], 72), zno, (50, 189, [], 0), (2, 190, [2], 0), (50, 191, [], 0), (26, 192, [], 0), (27, 193, [], 0), (8, 196, [2], 1), zno, zno, (17, 199, [93], 0), zno, zno, (4, 200, [0], 0), (34, 203, [118, 1, 0], 0), zno, zno, (4, 204, [0], 0), (21, 207, [9, 11], 0), zno, zno, (35, 0, [], 0)]
/-- TieOfficeModel.other(II)I -/
def zc117 : List (Nat × Nat × List Nat × Int) := [(4, 1, [0], 0), (21, 4, [9, 6], 0), zno, zno, (2, 5, [1], 0), (26, 6, [], 0), (2, 7, [2], 0), (71, 10, [19], 0), zno, zno, (4, 11, [0], 0), (21, 14, [9, 7], 0), zno, zno, (2, 15, [1], 0), (26, 16, [], 0), (17, 19, [39], 0), zno, zno, (4, 20, [0], 0), (21, 23, [9, 7], 0), zno, zno, (2, 24, [1], 0), (26, 25, [], 0), (2, 26, [2], 0), (71, 29, [38], 0), zno, zno, (4, 30, [0], 0), (21, 33, [9, 6], 0), zno, zno, (2, 34, [1], 0), (26, 35, [], 0), (17, 38, [39], 0), zno, zno, (0, 39, [], -1), (35, 0, [], 0)]
/-- TieOfficeModel.lays()V -/
def zc118 : List (Nat × Nat × List Nat × Int) := [(4, 1, [0], 0), (0, 2, [], 0), (22, 5, [9, 31], 0), zno, zno, (0, 6, [], 0), (5, 7, [1], 0), (2, 8, [1], 0), (0, 10, [], 16), zno, (73, 13, [103], 0), zno, zno, (4, 14, [0], 0), (21, 17, [9, 4], 0), zno, zno, (2, 18, [1], 0), (26, 19, [], 0), (0, 20, [], 1), (71, 23, [27], 0), zno, zno, (0, 24, [], 1), (17, 27, [28], 0), zno, zno, (0, 28, [], 0), (5, 29, [2], 0), (4, 30, [0], 0), (21, 33, [9, 26], 0), zno, zno, (2, 34, [1], 0), (2, 35, [2], 0), (80, 38, [42], 0), zno, zno, (2, 39, [1], 0), (17, 42, [43], 0), zno, zno, (0, 43, [], -1), (27, 44, [], 0), (4, 45, [0], 0), (21, 48, [9, 27], 0), zno, zno, (2, 49, [1], 0), (0, 50, [], -1), (27, 51, [], 0), (4, 52, [0], 0), (21, 55, [9, 28], 0), zno, zno, (2, 56, [1], 0), (2, 57, [2], 0), (80, 60, [64], 0), zno, zno, (0, 61, [], 0), (17, 64, [65], 0), zno, zno, (0, 65, [], -1), (27, 66, [], 0), (4, 67, [0], 0), (21, 70, [9, 29], 0), zno, zno, (2, 71, [1], 0), (0, 72, [], 0), (27, 73, [], 0), (2, 74, [2], 0), (80, 77, [97], 0), zno, zno, (4, 78, [0], 0), (21, 81, [9, 30], 0), zno, zno, (4, 82, [0], 0), (21, 85, [9, 31], 0), zno, zno, (2, 86, [1], 0), (27, 87, [], 0), (4, 88, [0], 0), (18, 89, [], 0), (21, 92, [9, 31], 0), zno, zno, (0, 93, [], 1), (50, 94, [], 0), (22, 97, [9, 31], 0), zno, zno, (8, 100, [1], 1), zno, zno, (17, 103, [7], 0), zno, zno, (0, 104, [], 0), (5, 105, [1], 0), (2, 106, [1], 0), (0, 108, [], 24), zno, (73, 111, [131], 0), zno, zno, (4, 112, [0], 0), (21, 115, [9, 32], 0), zno, zno, (2, 116, [1], 0), (0, 117, [], 0), (27, 118, [], 0), (4, 119, [0], 0), (21, 122, [9, 33], 0), zno, zno, (2, 123, [1], 0), (0, 124, [], -1), (27, 125, [], 0), (8, 128, [1], 1), zno, zno, (17, 131, [105], 0), zno, zno, (0, 132, [], 0), (5, 133, [1], 0), (2, 134, [1], 0), (4, 135, [0], 0), (21, 138, [9, 31], 0), zno, zno, (73, 141, [273], 0), zno, zno, (4, 142, [0], 0), (21, 145, [9, 30], 0), zno, zno, (2, 146, [1], 0), (26, 147, [], 0), (5, 148, [2], 0), (0, 149, [], 0), (5, 150, [3], 0), (2, 151, [3], 0), (4, 152, [0], 0), (21, 155, [9, 3], 0), zno, zno, (73, 158, [267], 0), zno, zno, (4, 159, [0], 0), (21, 162, [9, 10], 0), zno, zno, (2, 163, [3], 0), (26, 164, [], 0), (0, 165, [], 1), (71, 168, [177], 0), zno, zno, (4, 169, [0], 0), (2, 170, [3], 0), (2, 171, [2], 0), (34, 174, [117, 3, 0], 0), zno, zno, (17, 177, [178], 0), zno, zno, (0, 178, [], -1), (5, 180, [4], 0), zno, (2, 182, [4], 0), zno, (0, 183, [], -1), (70, 186, [261], 0), zno, zno, (4, 187, [0], 0), (21, 190, [9, 26], 0), zno, zno, (2, 192, [4], 0), zno, (26, 193, [], 0), (0, 194, [], -1), (71, 197, [261], 0), zno, zno, (4, 198, [0], 0), (21, 201, [9, 26], 0), zno, zno, (2, 203, [4], 0), zno, (4, 204, [0], 0), (21, 207, [9, 26], 0), zno, zno, (2, 208, [2], 0), (26, 209, [], 0), (27, 210, [], 0), (4, 211, [0], 0), (21, 214, [9, 27], 0), zno, zno, (2, 216, [4], 0), zno, (2, 217, [3], 0), (27, 218, [], 0), (4, 219, [0], 0), (21, 222, [9, 28], 0), zno, zno, (2, 224, [4], 0), zno, (4, 225, [0], 0), (21, 228, [9, 28], 0), zno, zno, (2, 229, [2], 0), (26, 230, [], 0), (0, 231, [], 1), (50, 232, [], 0), (27, 233, [], 0), (4, 234, [0], 0), (21, 237, [9, 33], 0), zno, zno, (2, 238, [3], 0), (2, 239, [2], 0), (27, 240, [], 0), (4, 241, [0], 0), (21, 244, [9, 30], 0), zno, zno, (4, 245, [0], 0), (21, 248, [9, 31], 0), zno, zno, (2, 250, [4], 0), zno, (27, 251, [], 0), (4, 252, [0], 0), (18, 253, [], 0), (21, 256, [9, 31], 0), zno, zno, (0, 257, [], 1), (50, 258, [], 0), (22, 261, [9, 31], 0), zno, zno, (8, 264, [3], 1), zno, zno, (17, 267, [150], 0), zno, zno, (8, 270, [1], 1), zno, zno, (17, 273, [133], 0), zno, zno, (4, 274, [0], 0), (21, 277, [9, 31], 0), zno, zno, (0, 278, [], 1), (51, 279, [], 0), (5, 280, [1], 0), (2, 281, [1], 0), (82, 284, [378], 0), zno, zno, (4, 285, [0], 0), (21, 288, [9, 30], 0), zno, zno, (2, 289, [1], 0), (26, 290, [], 0), (5, 291, [2], 0), (4, 292, [0], 0), (21, 295, [9, 29], 0), zno, zno, (2, 296, [2], 0), (19, 297, [], 0), (26, 298, [], 0), (4, 299, [0], 0), (21, 302, [9, 4], 0), zno, zno, (2, 303, [2], 0), (26, 304, [], 0), (0, 305, [], 2), (71, 308, [317], 0), zno, zno, (4, 309, [0], 0), (21, 312, [9, 5], 0), zno, zno, (2, 313, [2], 0), (26, 314, [], 0), (17, 317, [318], 0), zno, zno, (0, 318, [], 0), (50, 319, [], 0), (27, 320, [], 0), (4, 321, [0], 0), (21, 324, [9, 27], 0), zno, zno, (2, 325, [2], 0), (26, 326, [], 0), (0, 327, [], -1), (70, 330, [372], 0), zno, zno, (4, 331, [0], 0), (21, 334, [9, 32], 0), zno, zno, (4, 335, [0], 0), (21, 338, [9, 27], 0), zno, zno, (2, 339, [2], 0), (26, 340, [], 0), (4, 341, [0], 0), (21, 344, [9, 29], 0), zno, zno, (2, 345, [2], 0), (26, 346, [], 0), (27, 347, [], 0), (4, 348, [0], 0), (21, 351, [9, 29], 0), zno, zno, (4, 352, [0], 0), (21, 355, [9, 33], 0), zno, zno, (4, 356, [0], 0), (21, 359, [9, 27], 0), zno, zno, (2, 360, [2], 0), (26, 361, [], 0), (26, 362, [], 0), (19, 363, [], 0), (26, 364, [], 0), (4, 365, [0], 0), (21, 368, [9, 29], 0), zno, zno, (2, 369, [2], 0), (26, 370, [], 0), (50, 371, [], 0), (27, 372, [], 0), (8, 375, [1], -1), zno, zno, (17, 378, [280], 0), zno, zno, (38, 0, [], 0)]
/-- TieOfficeModel.lossOf(I)J -/
def zc119 : List (Nat × Nat × List Nat × Int) := [(1, 1, [], 0), (6, 2, [2], 0), (0, 3, [], 0), (5, 5, [4], 0), zno, (2, 7, [4], 0), zno, (4, 8, [0], 0), (21, 11, [9, 3], 0), zno, zno, (73, 14, [97], 0), zno, zno, (2, 15, [1], 0), (0, 16, [], -1), (70, 19, [46], 0), zno, zno, (4, 20, [0], 0), (21, 23, [9, 33], 0), zno, zno, (2, 25, [4], 0), zno, (26, 26, [], 0), (0, 27, [], -1), (70, 30, [50], 0), zno, zno, (4, 31, [0], 0), (21, 34, [9, 26], 0), zno, zno, (4, 35, [0], 0), (21, 38, [9, 33], 0), zno, zno, (2, 40, [4], 0), zno, (26, 41, [], 0), (26, 42, [], 0), (2, 43, [1], 0), (71, 46, [50], 0), zno, zno, (0, 47, [], 1), (17, 50, [51], 0), zno, zno, (0, 51, [], 0), (5, 53, [5], 0), zno, (3, 54, [2], 0), (2, 56, [5], 0), zno, (80, 59, [88], 0), zno, zno, (4, 60, [0], 0), (21, 63, [9, 8], 0), zno, zno, (2, 65, [4], 0), zno, (26, 66, [], 0), (12, 67, [], 0), (4, 68, [0], 0), (21, 71, [9, 32], 0), zno, zno, (2, 73, [4], 0), zno, (26, 74, [], 0), (12, 75, [], 0), (62, 76, [], 0), (4, 77, [0], 0), (21, 80, [9, 32], 0), zno, zno, (2, 82, [4], 0), zno, (26, 83, [], 0), (12, 84, [], 0), (62, 85, [], 0), (17, 88, [89], 0), zno, zno, (1, 89, [], 0), (60, 90, [], 0), (6, 91, [2], 0), (8, 94, [4], 1), zno, zno, (17, 97, [5], 0), zno, zno, (3, 98, [2], 0), (37, 0, [], 0)]
/-- TieOfficeModel.loss()J -/
def zc120 : List (Nat × Nat × List Nat × Int) := [(4, 1, [0], 0), (0, 2, [], -1), (34, 5, [119, 2, 0], 0), zno, zno, (37, 0, [], 0)]
/-- TieOfficeModel.overs()I -/
def zc121 : List (Nat × Nat × List Nat × Int) := [(0, 1, [], 0), (5, 2, [1], 0), (0, 3, [], 0), (5, 4, [2], 0), (2, 5, [2], 0), (4, 6, [0], 0), (21, 9, [9, 3], 0), zno, zno, (73, 12, [43], 0), zno, zno, (2, 13, [1], 0), (4, 14, [0], 0), (21, 17, [9, 32], 0), zno, zno, (2, 18, [2], 0), (26, 19, [], 0), (4, 20, [0], 0), (21, 23, [9, 9], 0), zno, zno, (2, 24, [2], 0), (26, 25, [], 0), (75, 28, [34], 0), zno, zno, (0, 29, [], 1), (2, 30, [2], 0), (56, 31, [], 0), (17, 34, [35], 0), zno, zno, (0, 35, [], 0), (54, 36, [], 0), (5, 37, [1], 0), (8, 40, [2], 1), zno, zno, (17, 43, [4], 0), zno, zno, (2, 44, [1], 0), (35, 0, [], 0)]
/-- TieOfficeModel.lit()I -/
def zc122 : List (Nat × Nat × List Nat × Int) := [(0, 1, [], 0), (5, 2, [1], 0), (0, 3, [], 0), (5, 4, [2], 0), (2, 5, [2], 0), (0, 7, [], 16), zno, (73, 10, [49], 0), zno, zno, (2, 11, [1], 0), (4, 12, [0], 0), (21, 15, [9, 4], 0), zno, zno, (2, 16, [2], 0), (26, 17, [], 0), (0, 18, [], 2), (71, 21, [40], 0), zno, zno, (4, 22, [0], 0), (21, 25, [9, 26], 0), zno, zno, (2, 26, [2], 0), (26, 27, [], 0), (0, 28, [], -1), (70, 31, [40], 0), zno, zno, (4, 32, [0], 0), (21, 35, [9, 5], 0), zno, zno, (2, 36, [2], 0), (26, 37, [], 0), (17, 40, [41], 0), zno, zno, (0, 41, [], 0), (50, 42, [], 0), (5, 43, [1], 0), (8, 46, [2], 1), zno, zno, (17, 49, [4], 0), zno, zno, (2, 50, [1], 0), (35, 0, [], 0)]
/-- TieOfficeModel.isLine(I)Z -/
def zc123 : List (Nat × Nat × List Nat × Int) := [(2, 1, [1], 0), (0, 2, [], 0), (4, 3, [0], 0), (21, 6, [9, 3], 0), zno, zno, (0, 7, [], 1), (51, 8, [], 0), (34, 11, [98, 3, 1], 0), zno, zno, (36, 0, [], 0)]
/-- TieOfficeModel.isPlace(I)Z -/
def zc124 : List (Nat × Nat × List Nat × Int) := [(2, 1, [1], 0), (0, 2, [], 0), (0, 4, [], 15), zno, (34, 7, [98, 3, 1], 0), zno, zno, (80, 10, [23], 0), zno, zno, (4, 11, [0], 0), (21, 14, [9, 4], 0), zno, zno, (2, 15, [1], 0), (26, 16, [], 0), (80, 19, [23], 0), zno, zno, (0, 20, [], 1), (17, 23, [24], 0), zno, zno, (0, 24, [], 0), (36, 0, [], 0)]
/-- TieOfficeModel.isTie(I)Z -/
def zc125 : List (Nat × Nat × List Nat × Int) := [(4, 1, [0], 0), (2, 2, [1], 0), (34, 5, [123, 2, 0], 0), zno, zno, (80, 8, [21], 0), zno, zno, (4, 9, [0], 0), (21, 12, [9, 10], 0), zno, zno, (2, 13, [1], 0), (26, 14, [], 0), (81, 17, [21], 0), zno, zno, (0, 18, [], 1), (17, 21, [22], 0), zno, zno, (0, 22, [], 0), (36, 0, [], 0)]
/-- TieOfficeModel.line(II)I -/
def zc126 : List (Nat × Nat × List Nat × Int) := [(4, 1, [0], 0), (2, 2, [1], 0), (34, 5, [123, 2, 0], 0), zno, zno, (80, 8, [18], 0), zno, zno, (2, 9, [2], 0), (0, 10, [], 0), (0, 12, [], 7), zno, (34, 15, [98, 3, 1], 0), zno, zno, (81, 18, [25], 0), zno, zno, (4, 19, [0], 0), (0, 21, [], -2), zno, (34, 24, [99, 2, 0], 0), zno, zno, (35, 0, [], 0), (2, 26, [2], 0), (39, 0, [117, 68, 75, 82, 89, 96, 103, 110], 0), zno, zno, zno, zno, zno, zno, zno, zno, zno, zno, zno, zno, zno, zno, zno, zno, zno, zno, zno, zno, zno, zno, zno, zno, zno, zno, zno, zno, zno, zno, zno, zno, zno, zno, zno, zno, zno, zno, zno, zno, zno, (4, 69, [0], 0), (21, 72, [9, 6], 0), zno, zno, (2, 73, [1], 0), (26, 74, [], 0), (35, 0, [], 0), (4, 76, [0], 0), (21, 79, [9, 7], 0), zno, zno, (2, 80, [1], 0), (26, 81, [], 0), (35, 0, [], 0), (4, 83, [0], 0), (21, 86, [9, 8], 0), zno, zno, (2, 87, [1], 0), (26, 88, [], 0), (35, 0, [], 0), (4, 90, [0], 0), (21, 93, [9, 9], 0), zno, zno, (2, 94, [1], 0), (26, 95, [], 0), (35, 0, [], 0), (4, 97, [0], 0), (21, 100, [9, 10], 0), zno, zno, (2, 101, [1], 0), (26, 102, [], 0), (35, 0, [], 0), (4, 104, [0], 0), (21, 107, [9, 32], 0), zno, zno, (2, 108, [1], 0), (26, 109, [], 0), (35, 0, [], 0), (4, 111, [0], 0), (21, 114, [9, 33], 0), zno, zno, (2, 115, [1], 0), (26, 116, [], 0), (35, 0, [], 0), (4, 118, [0], 0), (21, 121, [9, 32], 0), zno, zno, (2, 122, [1], 0), (26, 123, [], 0), (4, 124, [0], 0), (21, 127, [9, 9], 0), zno, zno, (2, 128, [1], 0), (26, 129, [], 0), (75, 132, [136], 0), zno, zno, (0, 133, [], 1), (17, 136, [137], 0), zno, zno, (0, 137, [], 0), (35, 0, [], 0)]
/-- TieOfficeModel.place(II)I -/
def zc127 : List (Nat × Nat × List Nat × Int) := [(4, 1, [0], 0), (2, 2, [1], 0), (34, 5, [124, 2, 0], 0), zno, zno, (80, 8, [17], 0), zno, zno, (2, 9, [2], 0), (0, 10, [], 0), (0, 11, [], 4), (34, 14, [98, 3, 1], 0), zno, zno, (81, 17, [24], 0), zno, zno, (4, 18, [0], 0), (0, 20, [], -2), zno, (34, 23, [99, 2, 0], 0), zno, zno, (35, 0, [], 0), (2, 25, [2], 0), (39, 0, [98, 56, 77, 84, 91], 0), zno, zno, zno, zno, zno, zno, zno, zno, zno, zno, zno, zno, zno, zno, zno, zno, zno, zno, zno, zno, zno, zno, zno, zno, zno, zno, zno, zno, zno, zno, (4, 57, [0], 0), (21, 60, [9, 4], 0), zno, zno, (2, 61, [1], 0), (26, 62, [], 0), (0, 63, [], 1), (71, 66, [70], 0), zno, zno, (0, 67, [], -1), (17, 70, [76], 0), zno, zno, (4, 71, [0], 0), (21, 74, [9, 5], 0), zno, zno, (2, 75, [1], 0), (26, 76, [], 0), (35, 0, [], 0), (4, 78, [0], 0), (21, 81, [9, 26], 0), zno, zno, (2, 82, [1], 0), (26, 83, [], 0), (35, 0, [], 0), (4, 85, [0], 0), (21, 88, [9, 27], 0), zno, zno, (2, 89, [1], 0), (26, 90, [], 0), (35, 0, [], 0), (4, 92, [0], 0), (21, 95, [9, 28], 0), zno, zno, (2, 96, [1], 0), (26, 97, [], 0), (35, 0, [], 0), (4, 99, [0], 0), (21, 102, [9, 29], 0), zno, zno, (2, 103, [1], 0), (26, 104, [], 0), (35, 0, [], 0)]
/-- TieOfficeModel.between(II)I -/
def zc128 : List (Nat × Nat × List Nat × Int) := [(4, 1, [0], 0), (2, 2, [1], 0), (34, 5, [124, 2, 0], 0), zno, zno, (80, 8, [16], 0), zno, zno, (4, 9, [0], 0), (2, 10, [2], 0), (34, 13, [124, 2, 0], 0), zno, zno, (81, 16, [23], 0), zno, zno, (4, 17, [0], 0), (0, 19, [], -2), zno, (34, 22, [99, 2, 0], 0), zno, zno, (35, 0, [], 0), (0, 24, [], 0), (5, 25, [3], 0), (2, 26, [3], 0), (4, 27, [0], 0), (21, 30, [9, 3], 0), zno, zno, (73, 33, [56], 0), zno, zno, (2, 34, [1], 0), (2, 35, [2], 0), (70, 38, [50], 0), zno, zno, (4, 39, [0], 0), (2, 40, [3], 0), (2, 41, [1], 0), (34, 44, [117, 3, 0], 0), zno, zno, (2, 45, [2], 0), (71, 48, [50], 0), zno, zno, (2, 49, [3], 0), (35, 0, [], 0), (8, 53, [3], 1), zno, zno, (17, 56, [25], 0), zno, zno, (0, 57, [], -1), (35, 0, [], 0)]
/-- TieOfficeModel.load(II)I -/
def zc129 : List (Nat × Nat × List Nat × Int) := [(4, 1, [0], 0), (2, 2, [1], 0), (34, 5, [124, 2, 0], 0), zno, zno, (80, 8, [18], 0), zno, zno, (2, 9, [2], 0), (0, 10, [], 0), (0, 12, [], 99), zno, (34, 15, [98, 3, 1], 0), zno, zno, (81, 18, [25], 0), zno, zno, (4, 19, [0], 0), (0, 21, [], -2), zno, (34, 24, [99, 2, 0], 0), zno, zno, (35, 0, [], 0), (4, 26, [0], 0), (21, 29, [9, 4], 0), zno, zno, (2, 30, [1], 0), (26, 31, [], 0), (0, 32, [], 1), (70, 35, [45], 0), zno, zno, (4, 36, [0], 0), (21, 39, [9, 5], 0), zno, zno, (2, 40, [1], 0), (26, 41, [], 0), (2, 42, [2], 0), (71, 45, [52], 0), zno, zno, (4, 46, [0], 0), (0, 48, [], -3), zno, (34, 51, [99, 2, 0], 0), zno, zno, (35, 0, [], 0), (4, 53, [0], 0), (21, 56, [9, 5], 0), zno, zno, (2, 57, [1], 0), (26, 58, [], 0), (5, 59, [3], 0), (4, 60, [0], 0), (34, 63, [121, 1, 0], 0), zno, zno, (5, 65, [4], 0), zno, (4, 66, [0], 0), (21, 69, [9, 5], 0), zno, zno, (2, 70, [1], 0), (2, 71, [2], 0), (27, 72, [], 0), (4, 73, [0], 0), (34, 76, [118, 1, 0], 0), zno, zno, (4, 77, [0], 0), (34, 80, [121, 1, 0], 0), zno, zno, (2, 82, [4], 0), zno, (0, 83, [], -1), (55, 84, [], 0), (53, 85, [], 0), (81, 88, [92], 0), zno, zno, (0, 89, [], 1), (17, 92, [93], 0), zno, zno, (0, 93, [], 0), (5, 95, [5], 0), zno, (4, 96, [0], 0), (21, 99, [9, 5], 0), zno, zno, (2, 100, [1], 0), (2, 101, [3], 0), (27, 102, [], 0), (4, 103, [0], 0), (34, 106, [118, 1, 0], 0), zno, zno, (2, 108, [5], 0), zno, (81, 111, [118], 0), zno, zno, (4, 112, [0], 0), (0, 114, [], -4), zno, (34, 117, [99, 2, 0], 0), zno, zno, (35, 0, [], 0), (4, 119, [0], 0), (34, 122, [115, 1, 0], 0), zno, zno, (4, 123, [0], 0), (21, 126, [9, 5], 0), zno, zno, (2, 127, [1], 0), (2, 128, [2], 0), (27, 129, [], 0), (4, 130, [0], 0), (34, 133, [118, 1, 0], 0), zno, zno, (2, 134, [3], 0), (35, 0, [], 0)]
/-- TieOfficeModel.isRadial()Z -/
def zc130 : List (Nat × Nat × List Nat × Int) := [(0, 1, [], 0), (5, 2, [1], 0), (2, 3, [1], 0), (0, 5, [], 16), zno, (74, 8, [42], 0), zno, zno, (4, 9, [0], 0), (21, 12, [9, 39], 0), zno, zno, (2, 13, [1], 0), (2, 14, [1], 0), (0, 16, [], 16), zno, (73, 19, [34], 0), zno, zno, (4, 20, [0], 0), (21, 23, [9, 4], 0), zno, zno, (2, 24, [1], 0), (26, 25, [], 0), (0, 26, [], 1), (71, 29, [34], 0), zno, zno, (0, 31, [], 16), zno, (17, 34, [35], 0), zno, zno, (2, 35, [1], 0), (27, 36, [], 0), (8, 39, [1], 1), zno, zno, (17, 42, [2], 0), zno, zno, (0, 43, [], 1), (5, 44, [1], 0), (0, 45, [], 0), (5, 46, [2], 0), (2, 47, [2], 0), (4, 48, [0], 0), (21, 51, [9, 3], 0), zno, zno, (73, 54, [117], 0), zno, zno, (2, 55, [1], 0), (80, 58, [117], 0), zno, zno, (4, 59, [0], 0), (21, 62, [9, 10], 0), zno, zno, (2, 63, [2], 0), (26, 64, [], 0), (0, 65, [], 1), (71, 68, [111], 0), zno, zno, (4, 69, [0], 0), (4, 70, [0], 0), (21, 73, [9, 6], 0), zno, zno, (2, 74, [2], 0), (26, 75, [], 0), (34, 78, [110, 2, 0], 0), zno, zno, (5, 79, [3], 0), (4, 80, [0], 0), (4, 81, [0], 0), (21, 84, [9, 7], 0), zno, zno, (2, 85, [2], 0), (26, 86, [], 0), (34, 89, [110, 2, 0], 0), zno, zno, (5, 91, [4], 0), zno, (2, 92, [3], 0), (2, 94, [4], 0), zno, (70, 97, [101], 0), zno, zno, (0, 98, [], 1), (17, 101, [102], 0), zno, zno, (0, 102, [], 0), (5, 103, [1], 0), (4, 104, [0], 0), (21, 107, [9, 39], 0), zno, zno, (2, 108, [3], 0), (2, 110, [4], 0), zno, (27, 111, [], 0), (8, 114, [2], 1), zno, zno, (17, 117, [46], 0), zno, zno, (2, 118, [1], 0), (36, 0, [], 0)]
/-- TieOfficeModel.closes(I)I -/
def zc131 : List (Nat × Nat × List Nat × Int) := [(4, 1, [0], 0), (2, 2, [1], 0), (34, 5, [123, 2, 0], 0), zno, zno, (81, 8, [15], 0), zno, zno, (4, 9, [0], 0), (0, 11, [], -2), zno, (34, 14, [99, 2, 0], 0), zno, zno, (35, 0, [], 0), (4, 16, [0], 0), (2, 17, [1], 0), (34, 20, [125, 2, 0], 0), zno, zno, (81, 23, [30], 0), zno, zno, (4, 24, [0], 0), (0, 26, [], -3), zno, (34, 29, [99, 2, 0], 0), zno, zno, (35, 0, [], 0), (4, 31, [0], 0), (34, 34, [121, 1, 0], 0), zno, zno, (5, 35, [2], 0), (4, 36, [0], 0), (34, 39, [122, 1, 0], 0), zno, zno, (5, 40, [3], 0), (4, 41, [0], 0), (21, 44, [9, 10], 0), zno, zno, (2, 45, [1], 0), (0, 46, [], 1), (27, 47, [], 0), (4, 48, [0], 0), (34, 51, [130, 1, 0], 0), zno, zno, (5, 53, [4], 0), zno, (2, 55, [4], 0), zno, (80, 58, [62], 0), zno, zno, (4, 59, [0], 0), (34, 62, [118, 1, 0], 0), zno, zno, (2, 64, [4], 0), zno, (80, 67, [82], 0), zno, zno, (4, 68, [0], 0), (34, 71, [121, 1, 0], 0), zno, zno, (2, 72, [2], 0), (0, 73, [], -1), (55, 74, [], 0), (53, 75, [], 0), (81, 78, [82], 0), zno, zno, (0, 79, [], 1), (17, 82, [83], 0), zno, zno, (0, 83, [], 0), (5, 85, [5], 0), zno, (4, 86, [0], 0), (21, 89, [9, 10], 0), zno, zno, (2, 90, [1], 0), (0, 91, [], 0), (27, 92, [], 0), (4, 93, [0], 0), (34, 96, [118, 1, 0], 0), zno, zno, (2, 98, [5], 0), zno, (81, 101, [118], 0), zno, zno, (4, 102, [0], 0), (2, 104, [4], 0), zno, (80, 107, [112], 0), zno, zno, (0, 109, [], -4), zno, (17, 112, [114], 0), zno, zno, (0, 114, [], -3), zno, (34, 117, [99, 2, 0], 0), zno, zno, (35, 0, [], 0), (4, 119, [0], 0), (34, 122, [115, 1, 0], 0), zno, zno, (4, 123, [0], 0), (21, 126, [9, 10], 0), zno, zno, (2, 127, [1], 0), (0, 128, [], 1), (27, 129, [], 0), (4, 130, [0], 0), (34, 133, [118, 1, 0], 0), zno, zno, (4, 134, [0], 0), (34, 137, [122, 1, 0], 0), zno, zno, (2, 138, [3], 0), (51, 139, [], 0), (35, 0, [], 0)]
/-- TieOfficeModel.turnsOff(II)I -/
def zc132 : List (Nat × Nat × List Nat × Int) := [(4, 1, [0], 0), (34, 4, [122, 1, 0], 0), zno, zno, (5, 5, [3], 0), (4, 6, [0], 0), (34, 9, [115, 1, 0], 0), zno, zno, (4, 10, [0], 0), (21, 13, [9, 10], 0), zno, zno, (2, 14, [1], 0), (2, 15, [2], 0), (27, 16, [], 0), (4, 17, [0], 0), (34, 20, [118, 1, 0], 0), zno, zno, (2, 21, [3], 0), (4, 22, [0], 0), (34, 25, [122, 1, 0], 0), zno, zno, (51, 26, [], 0), (35, 0, [], 0)]
/-- TieOfficeModel.opens(I)I -/
def zc133 : List (Nat × Nat × List Nat × Int) := [(4, 1, [0], 0), (2, 2, [1], 0), (34, 5, [123, 2, 0], 0), zno, zno, (81, 8, [15], 0), zno, zno, (4, 9, [0], 0), (0, 11, [], -2), zno, (34, 14, [99, 2, 0], 0), zno, zno, (35, 0, [], 0), (4, 16, [0], 0), (21, 19, [9, 10], 0), zno, zno, (2, 20, [1], 0), (26, 21, [], 0), (0, 22, [], 1), (71, 25, [34], 0), zno, zno, (4, 26, [0], 0), (2, 27, [1], 0), (0, 28, [], 0), (34, 31, [132, 3, 0], 0), zno, zno, (17, 34, [40], 0), zno, zno, (4, 35, [0], 0), (0, 37, [], -3), zno, (34, 40, [99, 2, 0], 0), zno, zno, (35, 0, [], 0)]
/-- TieOfficeModel.falls(I)I -/
def zc134 : List (Nat × Nat × List Nat × Int) := [(4, 1, [0], 0), (2, 2, [1], 0), (34, 5, [123, 2, 0], 0), zno, zno, (81, 8, [15], 0), zno, zno, (4, 9, [0], 0), (0, 11, [], -2), zno, (34, 14, [99, 2, 0], 0), zno, zno, (35, 0, [], 0), (4, 16, [0], 0), (21, 19, [9, 10], 0), zno, zno, (2, 20, [1], 0), (26, 21, [], 0), (0, 22, [], 2), (71, 25, [34], 0), zno, zno, (4, 26, [0], 0), (0, 28, [], -3), zno, (34, 31, [99, 2, 0], 0), zno, zno, (17, 34, [40], 0), zno, zno, (4, 35, [0], 0), (2, 36, [1], 0), (0, 37, [], 2), (34, 40, [132, 3, 0], 0), zno, zno, (35, 0, [], 0)]
/-- TieOfficeModel.manyOf(I)I -/
def zc135 : List (Nat × Nat × List Nat × Int) := [(0, 1, [], 0), (5, 2, [2], 0), (0, 3, [], 0), (5, 4, [3], 0), (2, 5, [3], 0), (4, 6, [0], 0), (21, 9, [9, 3], 0), zno, zno, (73, 12, [36], 0), zno, zno, (2, 13, [2], 0), (4, 14, [0], 0), (21, 17, [9, 10], 0), zno, zno, (2, 18, [3], 0), (26, 19, [], 0), (2, 20, [1], 0), (71, 23, [27], 0), zno, zno, (0, 24, [], 1), (17, 27, [28], 0), zno, zno, (0, 28, [], 0), (50, 29, [], 0), (5, 30, [2], 0), (8, 33, [3], 1), zno, zno, (17, 36, [4], 0), zno, zno, (2, 37, [2], 0), (35, 0, [], 0)]
/-- TieOfficeModel.mends(I)I -/
def zc136 : List (Nat × Nat × List Nat × Int) := [(4, 1, [0], 0), (2, 2, [1], 0), (34, 5, [123, 2, 0], 0), zno, zno, (81, 8, [15], 0), zno, zno, (4, 9, [0], 0), (0, 11, [], -2), zno, (34, 14, [99, 2, 0], 0), zno, zno, (35, 0, [], 0), (4, 16, [0], 0), (21, 19, [9, 10], 0), zno, zno, (2, 20, [1], 0), (26, 21, [], 0), (0, 22, [], 2), (70, 25, [32], 0), zno, zno, (4, 26, [0], 0), (0, 28, [], -3), zno, (34, 31, [99, 2, 0], 0), zno, zno, (35, 0, [], 0), (4, 33, [0], 0), (2, 34, [1], 0), (0, 35, [], 0), (34, 38, [132, 3, 0], 0), zno, zno, (20, 39, [], 0), (4, 40, [0], 0), (0, 41, [], 2), (34, 44, [135, 2, 0], 0), zno, zno, (35, 0, [], 0)]
/-- TieOfficeModel.merged(I)I -/
def zc137 : List (Nat × Nat × List Nat × Int) := [(4, 1, [0], 0), (21, 4, [9, 4], 0), zno, zno, (2, 5, [1], 0), (26, 6, [], 0), (0, 7, [], 1), (71, 10, [15], 0), zno, zno, (0, 12, [], 16), zno, (17, 15, [16], 0), zno, zno, (2, 16, [1], 0), (35, 0, [], 0)]
/-- TieOfficeModel.rings(I)V -/
def zc138 : List (Nat × Nat × List Nat × Int) := [(4, 1, [0], 0), (0, 2, [], 0), (22, 5, [9, 34], 0), zno, zno, (0, 6, [], 0), (5, 7, [2], 0), (2, 8, [2], 0), (0, 10, [], 16), zno, (74, 13, [33], 0), zno, zno, (4, 14, [0], 0), (21, 17, [9, 37], 0), zno, zno, (2, 18, [2], 0), (0, 19, [], -1), (27, 20, [], 0), (4, 21, [0], 0), (21, 24, [9, 38], 0), zno, zno, (2, 25, [2], 0), (0, 26, [], -1), (27, 27, [], 0), (8, 30, [2], 1), zno, zno, (17, 33, [7], 0), zno, zno, (4, 34, [0], 0), (4, 35, [0], 0), (21, 38, [9, 6], 0), zno, zno, (2, 39, [1], 0), (26, 40, [], 0), (34, 43, [137, 2, 0], 0), zno, zno, (5, 44, [2], 0), (4, 45, [0], 0), (4, 46, [0], 0), (21, 49, [9, 7], 0), zno, zno, (2, 50, [1], 0), (26, 51, [], 0), (34, 54, [137, 2, 0], 0), zno, zno, (5, 55, [3], 0), (0, 56, [], 1), (5, 58, [4], 0), zno, (4, 59, [0], 0), (21, 62, [9, 36], 0), zno, zno, (0, 63, [], 0), (2, 64, [3], 0), (27, 65, [], 0), (4, 66, [0], 0), (21, 69, [9, 38], 0), zno, zno, (2, 70, [3], 0), (2, 71, [3], 0), (27, 72, [], 0), (0, 73, [], 0), (5, 75, [5], 0), zno, (2, 77, [5], 0), zno, (2, 79, [4], 0), zno, (73, 82, [236], 0), zno, zno, (0, 83, [], 0), (5, 85, [6], 0), zno, (2, 87, [6], 0), zno, (4, 88, [0], 0), (21, 91, [9, 3], 0), zno, zno, (73, 94, [230], 0), zno, zno, (4, 95, [0], 0), (4, 96, [0], 0), (21, 99, [9, 6], 0), zno, zno, (2, 101, [6], 0), zno, (26, 102, [], 0), (34, 105, [137, 2, 0], 0), zno, zno, (5, 107, [7], 0), zno, (4, 108, [0], 0), (4, 109, [0], 0), (21, 112, [9, 7], 0), zno, zno, (2, 114, [6], 0), zno, (26, 115, [], 0), (34, 118, [137, 2, 0], 0), zno, zno, (5, 120, [8], 0), zno, (4, 121, [0], 0), (21, 124, [9, 10], 0), zno, zno, (2, 126, [6], 0), zno, (26, 127, [], 0), (0, 128, [], 1), (70, 131, [135], 0), zno, zno, (0, 132, [], -1), (17, 135, [170], 0), zno, zno, (2, 137, [7], 0), zno, (4, 138, [0], 0), (21, 141, [9, 36], 0), zno, zno, (2, 143, [5], 0), zno, (26, 144, [], 0), (71, 147, [152], 0), zno, zno, (2, 149, [8], 0), zno, (17, 152, [170], 0), zno, zno, (2, 154, [8], 0), zno, (4, 155, [0], 0), (21, 158, [9, 36], 0), zno, zno, (2, 160, [5], 0), zno, (26, 161, [], 0), (71, 164, [169], 0), zno, zno, (2, 166, [7], 0), zno, (17, 169, [170], 0), zno, zno, (0, 170, [], -1), (5, 172, [9], 0), zno, (2, 174, [9], 0), zno, (0, 175, [], -1), (70, 178, [224], 0), zno, zno, (4, 179, [0], 0), (21, 182, [9, 38], 0), zno, zno, (2, 184, [9], 0), zno, (26, 185, [], 0), (0, 186, [], -1), (71, 189, [224], 0), zno, zno, (4, 190, [0], 0), (21, 193, [9, 38], 0), zno, zno, (2, 195, [9], 0), zno, (4, 196, [0], 0), (21, 199, [9, 36], 0), zno, zno, (2, 201, [5], 0), zno, (26, 202, [], 0), (27, 203, [], 0), (4, 204, [0], 0), (21, 207, [9, 37], 0), zno, zno, (2, 209, [9], 0), zno, (2, 211, [6], 0), zno, (27, 212, [], 0), (4, 213, [0], 0), (21, 216, [9, 36], 0), zno, zno, (2, 218, [4], 0), zno, (2, 220, [9], 0), zno, (27, 221, [], 0), (8, 224, [4], 1), zno, zno, (8, 227, [6], 1), zno, zno, (17, 230, [85], 0), zno, zno, (8, 233, [5], 1), zno, zno, (17, 236, [75], 0), zno, zno, (2, 237, [2], 0), (5, 239, [5], 0), zno, (4, 240, [0], 0), (21, 243, [9, 38], 0), zno, zno, (2, 244, [2], 0), (26, 245, [], 0), (0, 246, [], -1), (70, 249, [293], 0), zno, zno, (2, 251, [5], 0), zno, (2, 252, [3], 0), (70, 255, [293], 0), zno, zno, (4, 256, [0], 0), (21, 259, [9, 35], 0), zno, zno, (4, 260, [0], 0), (21, 263, [9, 34], 0), zno, zno, (4, 264, [0], 0), (21, 267, [9, 37], 0), zno, zno, (2, 269, [5], 0), zno, (26, 270, [], 0), (27, 271, [], 0), (4, 272, [0], 0), (18, 273, [], 0), (21, 276, [9, 34], 0), zno, zno, (0, 277, [], 1), (50, 278, [], 0), (22, 281, [9, 34], 0), zno, zno, (4, 282, [0], 0), (21, 285, [9, 38], 0), zno, zno, (2, 287, [5], 0), zno, (26, 288, [], 0), (5, 290, [5], 0), zno, (17, 293, [239], 0), zno, zno, (38, 0, [], 0)]
/-- TieOfficeModel.isOfRing(I)Z -/
def zc139 : List (Nat × Nat × List Nat × Int) := [(0, 1, [], 0), (5, 2, [2], 0), (0, 3, [], 0), (5, 4, [3], 0), (2, 5, [3], 0), (4, 6, [0], 0), (21, 9, [9, 34], 0), zno, zno, (73, 12, [38], 0), zno, zno, (2, 13, [2], 0), (81, 16, [26], 0), zno, zno, (4, 17, [0], 0), (21, 20, [9, 35], 0), zno, zno, (2, 21, [3], 0), (26, 22, [], 0), (2, 23, [1], 0), (71, 26, [30], 0), zno, zno, (0, 27, [], 1), (17, 30, [31], 0), zno, zno, (0, 31, [], 0), (5, 32, [2], 0), (8, 35, [3], 1), zno, zno, (17, 38, [4], 0), zno, zno, (2, 39, [2], 0), (36, 0, [], 0)]
/-- TieOfficeModel.ring(II)I -/
def zc140 : List (Nat × Nat × List Nat × Int) := [(4, 1, [0], 0), (2, 2, [1], 0), (34, 5, [123, 2, 0], 0), zno, zno, (80, 8, [12], 0), zno, zno, (2, 9, [2], 0), (83, 12, [19], 0), zno, zno, (4, 13, [0], 0), (0, 15, [], -2), zno, (34, 18, [99, 2, 0], 0), zno, zno, (35, 0, [], 0), (4, 20, [0], 0), (2, 21, [1], 0), (34, 24, [125, 2, 0], 0), zno, zno, (81, 27, [34], 0), zno, zno, (4, 28, [0], 0), (0, 30, [], -3), zno, (34, 33, [99, 2, 0], 0), zno, zno, (35, 0, [], 0), (4, 35, [0], 0), (2, 36, [1], 0), (34, 39, [138, 2, 0], 0), zno, zno, (2, 40, [2], 0), (4, 41, [0], 0), (21, 44, [9, 34], 0), zno, zno, (73, 47, [56], 0), zno, zno, (4, 48, [0], 0), (21, 51, [9, 35], 0), zno, zno, (2, 52, [2], 0), (26, 53, [], 0), (17, 56, [57], 0), zno, zno, (0, 57, [], -1), (35, 0, [], 0)]
/-- TieOfficeModel.tries(II)V -/
def zc141 : List (Nat × Nat × List Nat × Int) := [(4, 1, [0], 0), (21, 4, [9, 10], 0), zno, zno, (2, 5, [1], 0), (0, 6, [], 1), (27, 7, [], 0), (4, 8, [0], 0), (21, 11, [9, 10], 0), zno, zno, (2, 12, [2], 0), (0, 13, [], 0), (27, 14, [], 0), (4, 15, [0], 0), (34, 18, [118, 1, 0], 0), zno, zno, (4, 19, [0], 0), (4, 20, [0], 0), (34, 23, [120, 1, 0], 0), zno, zno, (24, 26, [9, 54], 0), zno, zno, (4, 27, [0], 0), (4, 28, [0], 0), (34, 31, [121, 1, 0], 0), zno, zno, (22, 34, [9, 55], 0), zno, zno, (4, 35, [0], 0), (21, 38, [9, 10], 0), zno, zno, (2, 39, [1], 0), (0, 40, [], 0), (27, 41, [], 0), (4, 42, [0], 0), (21, 45, [9, 10], 0), zno, zno, (2, 46, [2], 0), (0, 47, [], 1), (27, 48, [], 0), (38, 0, [], 0)]
/-- TieOfficeModel.gain(II)J -/
def zc142 : List (Nat × Nat × List Nat × Int) := [(4, 1, [0], 0), (2, 2, [1], 0), (34, 5, [123, 2, 0], 0), zno, zno, (80, 8, [16], 0), zno, zno, (4, 9, [0], 0), (2, 10, [2], 0), (34, 13, [123, 2, 0], 0), zno, zno, (81, 16, [24], 0), zno, zno, (4, 17, [0], 0), (0, 19, [], -2), zno, (34, 22, [99, 2, 0], 0), zno, zno, (12, 23, [], 0), (37, 0, [], 0), (4, 25, [0], 0), (2, 26, [1], 0), (34, 29, [125, 2, 0], 0), zno, zno, (5, 30, [3], 0), (2, 31, [3], 0), (80, 34, [39], 0), zno, zno, (4, 35, [0], 0), (2, 36, [1], 0), (34, 39, [138, 2, 0], 0), zno, zno, (2, 40, [3], 0), (80, 43, [51], 0), zno, zno, (4, 44, [0], 0), (2, 45, [2], 0), (34, 48, [139, 2, 0], 0), zno, zno, (81, 51, [59], 0), zno, zno, (4, 52, [0], 0), (0, 54, [], -3), zno, (34, 57, [99, 2, 0], 0), zno, zno, (12, 58, [], 0), (37, 0, [], 0), (4, 60, [0], 0), (34, 63, [120, 1, 0], 0), zno, zno, (6, 65, [4], 0), zno, (4, 66, [0], 0), (2, 67, [1], 0), (2, 68, [2], 0), (34, 71, [141, 3, 0], 0), zno, zno, (4, 72, [0], 0), (34, 75, [118, 1, 0], 0), zno, zno, (3, 77, [4], 0), zno, (4, 78, [0], 0), (21, 81, [9, 54], 0), zno, zno, (61, 82, [], 0), (37, 0, [], 0)]
/-- TieOfficeModel.looks()V -/
def zc143 : List (Nat × Nat × List Nat × Int) := [(4, 1, [0], 0), (0, 2, [], -1), (22, 5, [9, 45], 0), zno, zno, (4, 6, [0], 0), (0, 7, [], -1), (22, 10, [9, 46], 0), zno, zno, (4, 11, [0], 0), (1, 12, [], 0), (24, 15, [9, 47], 0), zno, zno, (4, 16, [0], 0), (0, 17, [], 0), (22, 20, [9, 48], 0), zno, zno, (4, 21, [0], 0), (34, 24, [120, 1, 0], 0), zno, zno, (6, 25, [1], 0), (4, 26, [0], 0), (34, 29, [121, 1, 0], 0), zno, zno, (5, 30, [3], 0), (0, 31, [], 0), (5, 33, [4], 0), zno, (2, 35, [4], 0), zno, (4, 36, [0], 0), (21, 39, [9, 3], 0), zno, zno, (73, 42, [186], 0), zno, zno, (4, 43, [0], 0), (21, 46, [9, 10], 0), zno, zno, (2, 48, [4], 0), zno, (26, 49, [], 0), (81, 52, [180], 0), zno, zno, (4, 53, [0], 0), (2, 55, [4], 0), zno, (34, 58, [138, 2, 0], 0), zno, zno, (0, 59, [], 0), (5, 61, [5], 0), zno, (2, 63, [5], 0), zno, (4, 64, [0], 0), (21, 67, [9, 3], 0), zno, zno, (73, 70, [180], 0), zno, zno, (4, 71, [0], 0), (2, 73, [5], 0), zno, (34, 76, [139, 2, 0], 0), zno, zno, (80, 79, [174], 0), zno, zno, (4, 80, [0], 0), (2, 82, [4], 0), zno, (2, 84, [5], 0), zno, (34, 87, [141, 3, 0], 0), zno, zno, (4, 88, [0], 0), (21, 91, [9, 55], 0), zno, zno, (2, 92, [3], 0), (0, 93, [], -1), (55, 94, [], 0), (53, 95, [], 0), (81, 98, [111], 0), zno, zno, (4, 99, [0], 0), (21, 102, [9, 54], 0), zno, zno, (3, 103, [1], 0), (13, 104, [], 0), (83, 107, [111], 0), zno, zno, (0, 108, [], 1), (17, 111, [112], 0), zno, zno, (0, 112, [], 0), (5, 114, [6], 0), zno, (4, 115, [0], 0), (18, 116, [], 0), (21, 119, [9, 48], 0), zno, zno, (2, 121, [6], 0), zno, (80, 124, [128], 0), zno, zno, (0, 125, [], 1), (17, 128, [129], 0), zno, zno, (0, 129, [], 0), (50, 130, [], 0), (22, 133, [9, 48], 0), zno, zno, (2, 135, [6], 0), zno, (80, 138, [174], 0), zno, zno, (3, 139, [1], 0), (4, 140, [0], 0), (21, 143, [9, 54], 0), zno, zno, (61, 144, [], 0), (4, 145, [0], 0), (21, 148, [9, 47], 0), zno, zno, (13, 149, [], 0), (85, 152, [174], 0), zno, zno, (4, 153, [0], 0), (3, 154, [1], 0), (4, 155, [0], 0), (21, 158, [9, 54], 0), zno, zno, (61, 159, [], 0), (24, 162, [9, 47], 0), zno, zno, (4, 163, [0], 0), (2, 165, [4], 0), zno, (22, 168, [9, 45], 0), zno, zno, (4, 169, [0], 0), (2, 171, [5], 0), zno, (22, 174, [9, 46], 0), zno, zno, (8, 177, [5], 1), zno, zno, (17, 180, [61], 0), zno, zno, (8, 183, [4], 1), zno, zno, (17, 186, [33], 0), zno, zno, (4, 187, [0], 0), (34, 190, [118, 1, 0], 0), zno, zno, (38, 0, [], 0)]
/-- TieOfficeModel.exchanges(II)I -/
def zc144 : List (Nat × Nat × List Nat × Int) := [(4, 1, [0], 0), (2, 2, [1], 0), (34, 5, [123, 2, 0], 0), zno, zno, (80, 8, [16], 0), zno, zno, (4, 9, [0], 0), (2, 10, [2], 0), (34, 13, [123, 2, 0], 0), zno, zno, (81, 16, [23], 0), zno, zno, (4, 17, [0], 0), (0, 19, [], -2), zno, (34, 22, [99, 2, 0], 0), zno, zno, (35, 0, [], 0), (4, 24, [0], 0), (2, 25, [1], 0), (34, 28, [125, 2, 0], 0), zno, zno, (5, 29, [3], 0), (2, 30, [3], 0), (80, 33, [38], 0), zno, zno, (4, 34, [0], 0), (2, 35, [1], 0), (34, 38, [138, 2, 0], 0), zno, zno, (2, 39, [3], 0), (80, 42, [50], 0), zno, zno, (4, 43, [0], 0), (2, 44, [2], 0), (34, 47, [139, 2, 0], 0), zno, zno, (81, 50, [57], 0), zno, zno, (4, 51, [0], 0), (0, 53, [], -3), zno, (34, 56, [99, 2, 0], 0), zno, zno, (35, 0, [], 0), (4, 58, [0], 0), (34, 61, [121, 1, 0], 0), zno, zno, (5, 63, [4], 0), zno, (4, 64, [0], 0), (2, 65, [1], 0), (2, 66, [2], 0), (34, 69, [141, 3, 0], 0), zno, zno, (4, 70, [0], 0), (34, 73, [118, 1, 0], 0), zno, zno, (4, 74, [0], 0), (21, 77, [9, 55], 0), zno, zno, (2, 79, [4], 0), zno, (0, 80, [], -1), (55, 81, [], 0), (53, 82, [], 0), (80, 85, [92], 0), zno, zno, (4, 86, [0], 0), (0, 88, [], -4), zno, (34, 91, [99, 2, 0], 0), zno, zno, (35, 0, [], 0), (4, 93, [0], 0), (34, 96, [115, 1, 0], 0), zno, zno, (4, 97, [0], 0), (21, 100, [9, 10], 0), zno, zno, (2, 101, [1], 0), (0, 102, [], 1), (27, 103, [], 0), (4, 104, [0], 0), (21, 107, [9, 10], 0), zno, zno, (2, 108, [2], 0), (0, 109, [], 0), (27, 110, [], 0), (4, 111, [0], 0), (34, 114, [118, 1, 0], 0), zno, zno, (4, 115, [0], 0), (34, 118, [143, 1, 0], 0), zno, zno, (4, 119, [0], 0), (21, 122, [9, 48], 0), zno, zno, (35, 0, [], 0)]
/-- TieOfficeModel.best(I)I -/
def zc145 : List (Nat × Nat × List Nat × Int) := [(2, 1, [1], 0), (0, 2, [], 0), (0, 3, [], 1), (34, 6, [98, 3, 1], 0), zno, zno, (81, 9, [16], 0), zno, zno, (4, 10, [0], 0), (0, 12, [], -2), zno, (34, 15, [99, 2, 0], 0), zno, zno, (35, 0, [], 0), (4, 17, [0], 0), (34, 20, [143, 1, 0], 0), zno, zno, (2, 21, [1], 0), (81, 24, [31], 0), zno, zno, (4, 25, [0], 0), (21, 28, [9, 45], 0), zno, zno, (17, 31, [35], 0), zno, zno, (4, 32, [0], 0), (21, 35, [9, 46], 0), zno, zno, (35, 0, [], 0)]
/-- TieOfficeModel.lessens()I -/
def zc146 : List (Nat × Nat × List Nat × Int) := [(4, 1, [0], 0), (34, 4, [143, 1, 0], 0), zno, zno, (4, 5, [0], 0), (21, 8, [9, 45], 0), zno, zno, (0, 9, [], -1), (71, 12, [19], 0), zno, zno, (4, 13, [0], 0), (0, 15, [], -3), zno, (34, 18, [99, 2, 0], 0), zno, zno, (35, 0, [], 0), (4, 20, [0], 0), (34, 23, [115, 1, 0], 0), zno, zno, (0, 24, [], 0), (5, 25, [1], 0), (4, 26, [0], 0), (21, 29, [9, 45], 0), zno, zno, (0, 30, [], -1), (70, 33, [67], 0), zno, zno, (4, 34, [0], 0), (21, 37, [9, 10], 0), zno, zno, (4, 38, [0], 0), (21, 41, [9, 45], 0), zno, zno, (0, 42, [], 1), (27, 43, [], 0), (4, 44, [0], 0), (21, 47, [9, 10], 0), zno, zno, (4, 48, [0], 0), (21, 51, [9, 46], 0), zno, zno, (0, 52, [], 0), (27, 53, [], 0), (4, 54, [0], 0), (34, 57, [118, 1, 0], 0), zno, zno, (8, 60, [1], 1), zno, zno, (4, 61, [0], 0), (34, 64, [143, 1, 0], 0), zno, zno, (17, 67, [25], 0), zno, zno, (2, 68, [1], 0), (35, 0, [], 0)]
/-- TieOfficeModel.shapeNow()I -/
def zc147 : List (Nat × Nat × List Nat × Int) := [(0, 1, [], 0), (5, 2, [1], 0), (0, 3, [], 0), (5, 4, [2], 0), (2, 5, [2], 0), (4, 6, [0], 0), (21, 9, [9, 3], 0), zno, zno, (73, 12, [38], 0), zno, zno, (2, 13, [1], 0), (4, 14, [0], 0), (21, 17, [9, 10], 0), zno, zno, (2, 18, [2], 0), (26, 19, [], 0), (0, 20, [], 1), (71, 23, [29], 0), zno, zno, (0, 24, [], 1), (2, 25, [2], 0), (56, 26, [], 0), (17, 29, [30], 0), zno, zno, (0, 30, [], 0), (54, 31, [], 0), (5, 32, [1], 0), (8, 35, [2], 1), zno, zno, (17, 38, [4], 0), zno, zno, (2, 39, [1], 0), (35, 0, [], 0)]
/-- TieOfficeModel.becomes(I)V -/
def zc148 : List (Nat × Nat × List Nat × Int) := [(0, 1, [], 0), (5, 2, [2], 0), (2, 3, [2], 0), (4, 4, [0], 0), (21, 7, [9, 3], 0), zno, zno, (73, 10, [50], 0), zno, zno, (4, 11, [0], 0), (21, 14, [9, 10], 0), zno, zno, (2, 15, [2], 0), (4, 16, [0], 0), (21, 19, [9, 10], 0), zno, zno, (2, 20, [2], 0), (26, 21, [], 0), (0, 22, [], 2), (71, 25, [29], 0), zno, zno, (0, 26, [], 2), (17, 29, [43], 0), zno, zno, (2, 30, [1], 0), (2, 31, [2], 0), (57, 32, [], 0), (0, 33, [], 1), (53, 34, [], 0), (0, 35, [], 1), (71, 38, [42], 0), zno, zno, (0, 39, [], 1), (17, 42, [43], 0), zno, zno, (0, 43, [], 0), (27, 44, [], 0), (8, 47, [2], 1), zno, zno, (17, 50, [2], 0), zno, zno, (4, 51, [0], 0), (34, 54, [118, 1, 0], 0), zno, zno, (38, 0, [], 0)]
/-- TieOfficeModel.meets(II)V -/
def zc149 : List (Nat × Nat × List Nat × Int) := [(4, 1, [0], 0), (21, 4, [9, 40], 0), zno, zno, (0, 7, [], 300), zno, zno, (74, 10, [14], 0), zno, zno, (0, 11, [], 1), (17, 14, [15], 0), zno, zno, (0, 15, [], 0), (5, 16, [3], 0), (0, 17, [], 0), (5, 19, [4], 0), zno, (2, 21, [4], 0), zno, (4, 22, [0], 0), (21, 25, [9, 40], 0), zno, zno, (73, 28, [55], 0), zno, zno, (2, 29, [3], 0), (80, 32, [47], 0), zno, zno, (4, 33, [0], 0), (21, 36, [9, 41], 0), zno, zno, (2, 38, [4], 0), zno, (26, 39, [], 0), (2, 40, [1], 0), (70, 43, [47], 0), zno, zno, (0, 44, [], 1), (17, 47, [48], 0), zno, zno, (0, 48, [], 0), (5, 49, [3], 0), (8, 52, [4], 1), zno, zno, (17, 55, [19], 0), zno, zno, (2, 56, [3], 0), (80, 59, [109], 0), zno, zno, (4, 60, [0], 0), (21, 63, [9, 40], 0), zno, zno, (0, 66, [], 300), zno, zno, (74, 69, [109], 0), zno, zno, (4, 70, [0], 0), (21, 73, [9, 40], 0), zno, zno, (0, 76, [], 300), zno, zno, (73, 79, [99], 0), zno, zno, (4, 80, [0], 0), (21, 83, [9, 41], 0), zno, zno, (4, 84, [0], 0), (21, 87, [9, 40], 0), zno, zno, (2, 88, [1], 0), (27, 89, [], 0), (4, 90, [0], 0), (21, 93, [9, 42], 0), zno, zno, (4, 94, [0], 0), (21, 97, [9, 40], 0), zno, zno, (2, 98, [2], 0), (27, 99, [], 0), (4, 100, [0], 0), (18, 101, [], 0), (21, 104, [9, 40], 0), zno, zno, (0, 105, [], 1), (50, 106, [], 0), (22, 109, [9, 40], 0), zno, zno, (38, 0, [], 0)]
/-- TieOfficeModel.goesOnFrom(I)V -/
def zc150 : List (Nat × Nat × List Nat × Int) := [(4, 1, [0], 0), (4, 2, [0], 0), (21, 5, [9, 41], 0), zno, zno, (2, 6, [1], 0), (26, 7, [], 0), (34, 10, [148, 2, 0], 0), zno, zno, (4, 11, [0], 0), (34, 14, [121, 1, 0], 0), zno, zno, (5, 15, [2], 0), (0, 16, [], 0), (5, 17, [3], 0), (2, 18, [3], 0), (4, 19, [0], 0), (21, 22, [9, 3], 0), zno, zno, (73, 25, [154], 0), zno, zno, (4, 26, [0], 0), (21, 29, [9, 10], 0), zno, zno, (2, 30, [3], 0), (26, 31, [], 0), (81, 34, [148], 0), zno, zno, (4, 35, [0], 0), (2, 36, [3], 0), (34, 39, [138, 2, 0], 0), zno, zno, (4, 40, [0], 0), (21, 43, [9, 34], 0), zno, zno, (5, 45, [4], 0), zno, (0, 46, [], 0), (5, 48, [5], 0), zno, (2, 50, [5], 0), zno, (2, 52, [4], 0), zno, (73, 55, [75], 0), zno, zno, (4, 56, [0], 0), (21, 59, [9, 43], 0), zno, zno, (2, 61, [5], 0), zno, (4, 62, [0], 0), (21, 65, [9, 35], 0), zno, zno, (2, 67, [5], 0), zno, (26, 68, [], 0), (27, 69, [], 0), (8, 72, [5], 1), zno, zno, (17, 75, [48], 0), zno, zno, (0, 76, [], 0), (5, 78, [5], 0), zno, (2, 80, [5], 0), zno, (2, 82, [4], 0), zno, (73, 85, [148], 0), zno, zno, (4, 86, [0], 0), (2, 87, [3], 0), (4, 88, [0], 0), (21, 91, [9, 43], 0), zno, zno, (2, 93, [5], 0), zno, (26, 94, [], 0), (34, 97, [141, 3, 0], 0), zno, zno, (4, 98, [0], 0), (21, 101, [9, 55], 0), zno, zno, (2, 102, [2], 0), (0, 103, [], -1), (55, 104, [], 0), (53, 105, [], 0), (81, 108, [142], 0), zno, zno, (4, 109, [0], 0), (4, 110, [0], 0), (21, 113, [9, 41], 0), zno, zno, (2, 114, [1], 0), (26, 115, [], 0), (0, 116, [], 1), (2, 117, [3], 0), (56, 118, [], 0), (54, 119, [], 0), (0, 120, [], 1), (4, 121, [0], 0), (21, 124, [9, 43], 0), zno, zno, (2, 126, [5], 0), zno, (26, 127, [], 0), (56, 128, [], 0), (0, 129, [], -1), (55, 130, [], 0), (53, 131, [], 0), (4, 132, [0], 0), (21, 135, [9, 42], 0), zno, zno, (2, 136, [1], 0), (26, 137, [], 0), (0, 138, [], 1), (50, 139, [], 0), (34, 142, [149, 3, 0], 0), zno, zno, (8, 145, [5], 1), zno, zno, (17, 148, [78], 0), zno, zno, (8, 151, [3], 1), zno, zno, (17, 154, [17], 0), zno, zno, (38, 0, [], 0)]
/-- TieOfficeModel.reach(II)J -/
def zc151 : List (Nat × Nat × List Nat × Int) := [(2, 1, [1], 0), (0, 2, [], 0), (0, 4, [], 9), zno, (34, 7, [98, 3, 1], 0), zno, zno, (80, 10, [19], 0), zno, zno, (2, 11, [2], 0), (0, 12, [], 0), (0, 13, [], 2), (34, 16, [98, 3, 1], 0), zno, zno, (81, 19, [27], 0), zno, zno, (4, 20, [0], 0), (0, 22, [], -2), zno, (34, 25, [99, 2, 0], 0), zno, zno, (12, 26, [], 0), (37, 0, [], 0), (4, 28, [0], 0), (34, 31, [147, 1, 0], 0), zno, zno, (5, 32, [3], 0), (4, 33, [0], 0), (0, 34, [], 0), (22, 37, [9, 40], 0), zno, zno, (4, 38, [0], 0), (2, 39, [3], 0), (0, 40, [], 0), (34, 43, [149, 3, 0], 0), zno, zno, (0, 44, [], 0), (5, 46, [4], 0), zno, (2, 48, [4], 0), zno, (4, 49, [0], 0), (21, 52, [9, 40], 0), zno, zno, (73, 55, [88], 0), zno, zno, (4, 56, [0], 0), (21, 59, [9, 40], 0), zno, zno, (0, 62, [], 300), zno, zno, (74, 65, [88], 0), zno, zno, (4, 66, [0], 0), (21, 69, [9, 42], 0), zno, zno, (2, 71, [4], 0), zno, (26, 72, [], 0), (2, 73, [1], 0), (73, 76, [82], 0), zno, zno, (4, 77, [0], 0), (2, 79, [4], 0), zno, (34, 82, [150, 2, 0], 0), zno, zno, (8, 85, [4], 1), zno, zno, (17, 88, [46], 0), zno, zno, (1, 91, [], -1), zno, zno, (6, 93, [4], 0), zno, (0, 94, [], 0), (5, 96, [6], 0), zno, (0, 97, [], 0), (5, 99, [7], 0), zno, (2, 101, [7], 0), zno, (4, 102, [0], 0), (21, 105, [9, 40], 0), zno, zno, (73, 108, [189], 0), zno, zno, (4, 109, [0], 0), (21, 112, [9, 40], 0), zno, zno, (0, 115, [], 300), zno, zno, (74, 118, [189], 0), zno, zno, (4, 119, [0], 0), (4, 120, [0], 0), (21, 123, [9, 41], 0), zno, zno, (2, 125, [7], 0), zno, (26, 126, [], 0), (34, 129, [148, 2, 0], 0), zno, zno, (4, 130, [0], 0), (34, 133, [120, 1, 0], 0), zno, zno, (6, 135, [8], 0), zno, (3, 137, [4], 0), zno, (1, 138, [], 0), (13, 139, [], 0), (82, 142, [170], 0), zno, zno, (3, 144, [8], 0), zno, (3, 146, [4], 0), zno, (13, 147, [], 0), (82, 150, [170], 0), zno, zno, (3, 152, [8], 0), zno, (3, 154, [4], 0), zno, (13, 155, [], 0), (81, 158, [183], 0), zno, zno, (4, 159, [0], 0), (21, 162, [9, 41], 0), zno, zno, (2, 164, [7], 0), zno, (26, 165, [], 0), (2, 167, [6], 0), zno, (73, 170, [183], 0), zno, zno, (3, 172, [8], 0), zno, (6, 174, [4], 0), zno, (4, 175, [0], 0), (21, 178, [9, 41], 0), zno, zno, (2, 180, [7], 0), zno, (26, 181, [], 0), (5, 183, [6], 0), zno, (8, 186, [7], 1), zno, zno, (17, 189, [99], 0), zno, zno, (4, 190, [0], 0), (2, 191, [3], 0), (34, 194, [148, 2, 0], 0), zno, zno, (4, 195, [0], 0), (21, 198, [9, 40], 0), zno, zno, (0, 201, [], 300), zno, zno, (75, 204, [212], 0), zno, zno, (4, 205, [0], 0), (0, 207, [], -5), zno, (34, 210, [99, 2, 0], 0), zno, zno, (12, 211, [], 0), (37, 0, [], 0), (2, 213, [2], 0), (81, 216, [224], 0), zno, zno, (4, 217, [0], 0), (21, 220, [9, 40], 0), zno, zno, (12, 221, [], 0), (17, 224, [237], 0), zno, zno, (2, 225, [2], 0), (0, 226, [], 1), (71, 229, [234], 0), zno, zno, (3, 231, [4], 0), zno, (17, 234, [237], 0), zno, zno, (2, 236, [6], 0), zno, (12, 237, [], 0), (37, 0, [], 0)]
/-- TieOfficeModel.findsCandidates()V -/
def zc152 : List (Nat × Nat × List Nat × Int) := [(4, 1, [0], 0), (0, 2, [], 0), (22, 5, [9, 53], 0), zno, zno, (0, 6, [], 0), (5, 7, [1], 0), (2, 8, [1], 0), (4, 9, [0], 0), (21, 12, [9, 3], 0), zno, zno, (73, 15, [80], 0), zno, zno, (4, 16, [0], 0), (21, 19, [9, 10], 0), zno, zno, (2, 20, [1], 0), (26, 21, [], 0), (81, 24, [74], 0), zno, zno, (4, 25, [0], 0), (21, 28, [9, 26], 0), zno, zno, (4, 29, [0], 0), (21, 32, [9, 6], 0), zno, zno, (2, 33, [1], 0), (26, 34, [], 0), (26, 35, [], 0), (0, 36, [], -1), (70, 39, [54], 0), zno, zno, (4, 40, [0], 0), (21, 43, [9, 26], 0), zno, zno, (4, 44, [0], 0), (21, 47, [9, 7], 0), zno, zno, (2, 48, [1], 0), (26, 49, [], 0), (26, 50, [], 0), (0, 51, [], -1), (71, 54, [74], 0), zno, zno, (4, 55, [0], 0), (21, 58, [9, 52], 0), zno, zno, (4, 59, [0], 0), (21, 62, [9, 53], 0), zno, zno, (2, 63, [1], 0), (27, 64, [], 0), (4, 65, [0], 0), (18, 66, [], 0), (21, 69, [9, 53], 0), zno, zno, (0, 70, [], 1), (50, 71, [], 0), (22, 74, [9, 53], 0), zno, zno, (8, 77, [1], 1), zno, zno, (17, 80, [7], 0), zno, zno, (38, 0, [], 0)]
/-- TieOfficeModel.seeks()V -/
def zc153 : List (Nat × Nat × List Nat × Int) := [(4, 1, [0], 0), (34, 4, [121, 1, 0], 0), zno, zno, (5, 5, [1], 0), (4, 6, [0], 0), (34, 9, [147, 1, 0], 0), zno, zno, (5, 10, [2], 0), (4, 11, [0], 0), (0, 12, [], 0), (22, 15, [9, 49], 0), zno, zno, (4, 16, [0], 0), (0, 17, [], 0), (22, 20, [9, 50], 0), zno, zno, (4, 21, [0], 0), (4, 22, [0], 0), (34, 25, [122, 1, 0], 0), zno, zno, (22, 28, [9, 51], 0), zno, zno, (0, 29, [], 1), (5, 30, [3], 0), (2, 31, [3], 0), (0, 32, [], 1), (4, 33, [0], 0), (21, 36, [9, 53], 0), zno, zno, (56, 37, [], 0), (73, 40, [248], 0), zno, zno, (0, 41, [], 0), (5, 43, [4], 0), zno, (0, 44, [], 0), (5, 46, [5], 0), zno, (0, 47, [], 0), (5, 49, [6], 0), zno, (2, 51, [6], 0), zno, (4, 52, [0], 0), (21, 55, [9, 53], 0), zno, zno, (73, 58, [103], 0), zno, zno, (2, 60, [4], 0), zno, (2, 61, [3], 0), (2, 63, [6], 0), zno, (57, 64, [], 0), (0, 65, [], 1), (53, 66, [], 0), (0, 67, [], 1), (71, 70, [82], 0), zno, zno, (0, 71, [], 1), (4, 72, [0], 0), (21, 75, [9, 52], 0), zno, zno, (2, 77, [6], 0), zno, (26, 78, [], 0), (56, 79, [], 0), (17, 82, [83], 0), zno, zno, (0, 83, [], 0), (54, 84, [], 0), (5, 86, [4], 0), zno, (2, 88, [5], 0), zno, (2, 89, [3], 0), (2, 91, [6], 0), zno, (57, 92, [], 0), (0, 93, [], 1), (53, 94, [], 0), (50, 95, [], 0), (5, 97, [5], 0), zno, (8, 100, [6], 1), zno, zno, (17, 103, [49], 0), zno, zno, (0, 104, [], 0), (5, 106, [6], 0), zno, (2, 108, [6], 0), zno, (4, 109, [0], 0), (21, 112, [9, 53], 0), zno, zno, (73, 115, [139], 0), zno, zno, (4, 116, [0], 0), (21, 119, [9, 10], 0), zno, zno, (4, 120, [0], 0), (21, 123, [9, 52], 0), zno, zno, (2, 125, [6], 0), zno, (26, 126, [], 0), (2, 127, [3], 0), (2, 129, [6], 0), zno, (57, 130, [], 0), (0, 131, [], 1), (53, 132, [], 0), (27, 133, [], 0), (8, 136, [6], 1), zno, zno, (17, 139, [106], 0), zno, zno, (4, 140, [0], 0), (34, 143, [130, 1, 0], 0), zno, zno, (80, 146, [242], 0), zno, zno, (4, 147, [0], 0), (34, 150, [118, 1, 0], 0), zno, zno, (4, 151, [0], 0), (34, 154, [122, 1, 0], 0), zno, zno, (5, 156, [6], 0), zno, (2, 158, [6], 0), zno, (4, 159, [0], 0), (21, 162, [9, 51], 0), zno, zno, (74, 165, [201], 0), zno, zno, (2, 167, [6], 0), zno, (4, 168, [0], 0), (21, 171, [9, 51], 0), zno, zno, (71, 174, [205], 0), zno, zno, (2, 176, [5], 0), zno, (4, 177, [0], 0), (21, 180, [9, 50], 0), zno, zno, (72, 183, [201], 0), zno, zno, (2, 185, [5], 0), zno, (4, 186, [0], 0), (21, 189, [9, 50], 0), zno, zno, (71, 192, [205], 0), zno, zno, (2, 194, [4], 0), zno, (4, 195, [0], 0), (21, 198, [9, 49], 0), zno, zno, (73, 201, [205], 0), zno, zno, (0, 202, [], 1), (17, 205, [206], 0), zno, zno, (0, 206, [], 0), (5, 208, [7], 0), zno, (2, 210, [7], 0), zno, (80, 213, [242], 0), zno, zno, (4, 214, [0], 0), (34, 217, [121, 1, 0], 0), zno, zno, (2, 218, [1], 0), (0, 219, [], -1), (55, 220, [], 0), (53, 221, [], 0), (81, 224, [242], 0), zno, zno, (4, 225, [0], 0), (2, 227, [4], 0), zno, (22, 230, [9, 49], 0), zno, zno, (4, 231, [0], 0), (2, 233, [5], 0), zno, (22, 236, [9, 50], 0), zno, zno, (4, 237, [0], 0), (2, 239, [6], 0), zno, (22, 242, [9, 51], 0), zno, zno, (8, 245, [3], 1), zno, zno, (17, 248, [30], 0), zno, zno, (4, 249, [0], 0), (2, 250, [2], 0), (34, 253, [148, 2, 0], 0), zno, zno, (38, 0, [], 0)]
/-- TieOfficeModel.orderOf(I)I -/
def zc154 : List (Nat × Nat × List Nat × Int) := [(4, 1, [0], 0), (34, 4, [147, 1, 0], 0), zno, zno, (5, 5, [2], 0), (4, 6, [0], 0), (21, 9, [9, 49], 0), zno, zno, (5, 10, [3], 0), (0, 11, [], -1), (5, 13, [4], 0), zno, (0, 14, [], 0), (5, 16, [5], 0), zno, (2, 18, [5], 0), zno, (2, 19, [1], 0), (74, 22, [172], 0), zno, zno, (2, 23, [3], 0), (80, 26, [172], 0), zno, zno, (0, 27, [], -1), (5, 29, [4], 0), zno, (0, 30, [], 0), (5, 32, [6], 0), zno, (2, 34, [6], 0), zno, (4, 35, [0], 0), (21, 38, [9, 3], 0), zno, zno, (73, 41, [115], 0), zno, zno, (2, 43, [4], 0), zno, (0, 44, [], -1), (71, 47, [115], 0), zno, zno, (2, 48, [3], 0), (2, 50, [6], 0), zno, (57, 51, [], 0), (0, 52, [], 1), (53, 53, [], 0), (0, 54, [], 1), (71, 57, [93], 0), zno, zno, (4, 58, [0], 0), (21, 61, [9, 26], 0), zno, zno, (4, 62, [0], 0), (21, 65, [9, 6], 0), zno, zno, (2, 67, [6], 0), zno, (26, 68, [], 0), (26, 69, [], 0), (0, 70, [], -1), (71, 73, [89], 0), zno, zno, (4, 74, [0], 0), (21, 77, [9, 26], 0), zno, zno, (4, 78, [0], 0), (21, 81, [9, 7], 0), zno, zno, (2, 83, [6], 0), zno, (26, 84, [], 0), (26, 85, [], 0), (0, 86, [], -1), (70, 89, [93], 0), zno, zno, (0, 90, [], 1), (17, 93, [94], 0), zno, zno, (0, 94, [], 0), (5, 96, [7], 0), zno, (2, 98, [7], 0), zno, (80, 101, [106], 0), zno, zno, (2, 103, [6], 0), zno, (17, 106, [107], 0), zno, zno, (0, 107, [], -1), (5, 109, [4], 0), zno, (8, 112, [6], 1), zno, zno, (17, 115, [32], 0), zno, zno, (2, 117, [4], 0), zno, (0, 118, [], -1), (71, 121, [125], 0), zno, zno, (0, 122, [], 0), (17, 125, [133], 0), zno, zno, (2, 126, [3], 0), (0, 127, [], 1), (2, 129, [4], 0), zno, (56, 130, [], 0), (0, 131, [], -1), (55, 132, [], 0), (53, 133, [], 0), (5, 134, [3], 0), (2, 136, [4], 0), zno, (0, 137, [], -1), (70, 140, [152], 0), zno, zno, (4, 141, [0], 0), (21, 144, [9, 10], 0), zno, zno, (2, 146, [4], 0), zno, (0, 147, [], 1), (27, 148, [], 0), (4, 149, [0], 0), (34, 152, [118, 1, 0], 0), zno, zno, (2, 154, [5], 0), zno, (2, 155, [1], 0), (71, 158, [163], 0), zno, zno, (2, 160, [4], 0), zno, (17, 163, [164], 0), zno, zno, (0, 164, [], -1), (5, 166, [4], 0), zno, (8, 169, [5], 1), zno, zno, (17, 172, [16], 0), zno, zno, (4, 173, [0], 0), (2, 174, [2], 0), (34, 177, [148, 2, 0], 0), zno, zno, (2, 179, [4], 0), zno, (35, 0, [], 0)]
/-- TieOfficeModel.cure(II)I -/
def zc155 : List (Nat × Nat × List Nat × Int) := [(2, 1, [1], 0), (0, 2, [], 0), (0, 3, [], 3), (34, 6, [98, 3, 1], 0), zno, zno, (80, 9, [13], 0), zno, zno, (2, 10, [2], 0), (83, 13, [20], 0), zno, zno, (4, 14, [0], 0), (0, 16, [], -2), zno, (34, 19, [99, 2, 0], 0), zno, zno, (35, 0, [], 0), (4, 21, [0], 0), (34, 24, [152, 1, 0], 0), zno, zno, (4, 25, [0], 0), (21, 28, [9, 53], 0), zno, zno, (0, 30, [], 12), zno, (75, 33, [40], 0), zno, zno, (4, 34, [0], 0), (0, 36, [], -5), zno, (34, 39, [99, 2, 0], 0), zno, zno, (35, 0, [], 0), (4, 41, [0], 0), (34, 44, [153, 1, 0], 0), zno, zno, (2, 45, [1], 0), (39, 0, [87, 72, 77, 82], 0), zno, zno, zno, zno, zno, zno, zno, zno, zno, zno, zno, zno, zno, zno, zno, zno, zno, zno, zno, zno, zno, zno, zno, zno, zno, zno, (4, 73, [0], 0), (21, 76, [9, 49], 0), zno, zno, (35, 0, [], 0), (4, 78, [0], 0), (21, 81, [9, 50], 0), zno, zno, (35, 0, [], 0), (4, 83, [0], 0), (21, 86, [9, 51], 0), zno, zno, (35, 0, [], 0), (4, 88, [0], 0), (2, 89, [2], 0), (34, 92, [154, 2, 0], 0), zno, zno, (35, 0, [], 0)]
/-- TieOfficeModel.cures()I -/
def zc156 : List (Nat × Nat × List Nat × Int) := [(4, 1, [0], 0), (34, 4, [152, 1, 0], 0), zno, zno, (4, 5, [0], 0), (21, 8, [9, 53], 0), zno, zno, (0, 10, [], 12), zno, (75, 13, [20], 0), zno, zno, (4, 14, [0], 0), (0, 16, [], -5), zno, (34, 19, [99, 2, 0], 0), zno, zno, (35, 0, [], 0), (4, 21, [0], 0), (34, 24, [153, 1, 0], 0), zno, zno, (4, 25, [0], 0), (21, 28, [9, 49], 0), zno, zno, (81, 31, [38], 0), zno, zno, (4, 32, [0], 0), (0, 34, [], -3), zno, (34, 37, [99, 2, 0], 0), zno, zno, (35, 0, [], 0), (4, 39, [0], 0), (34, 42, [115, 1, 0], 0), zno, zno, (4, 43, [0], 0), (4, 44, [0], 0), (34, 47, [147, 1, 0], 0), zno, zno, (4, 48, [0], 0), (21, 51, [9, 49], 0), zno, zno, (54, 52, [], 0), (34, 55, [148, 2, 0], 0), zno, zno, (4, 56, [0], 0), (21, 59, [9, 50], 0), zno, zno, (35, 0, [], 0)]
/-- TieOfficeModel.mostFeeder()I -/
def zc157 : List (Nat × Nat × List Nat × Int) := [(0, 1, [], -1), (5, 2, [1], 0), (0, 3, [], 0), (5, 4, [2], 0), (2, 5, [2], 0), (0, 7, [], 16), zno, (73, 10, [52], 0), zno, zno, (4, 11, [0], 0), (21, 14, [9, 4], 0), zno, zno, (2, 15, [2], 0), (26, 16, [], 0), (0, 17, [], 1), (71, 20, [44], 0), zno, zno, (2, 21, [1], 0), (0, 22, [], -1), (70, 25, [40], 0), zno, zno, (4, 26, [0], 0), (21, 29, [9, 29], 0), zno, zno, (2, 30, [2], 0), (26, 31, [], 0), (4, 32, [0], 0), (21, 35, [9, 29], 0), zno, zno, (2, 36, [1], 0), (26, 37, [], 0), (75, 40, [44], 0), zno, zno, (2, 41, [2], 0), (17, 44, [45], 0), zno, zno, (2, 45, [1], 0), (5, 46, [1], 0), (8, 49, [2], 1), zno, zno, (17, 52, [4], 0), zno, zno, (2, 53, [1], 0), (35, 0, [], 0)]
/-- TieOfficeModel.darkOf(I)I -/
def zc158 : List (Nat × Nat × List Nat × Int) := [(0, 1, [], 0), (5, 2, [2], 0), (0, 3, [], 0), (5, 4, [3], 0), (2, 5, [3], 0), (0, 7, [], 16), zno, (73, 10, [70], 0), zno, zno, (4, 11, [0], 0), (21, 14, [9, 4], 0), zno, zno, (2, 15, [3], 0), (26, 16, [], 0), (0, 17, [], 2), (71, 20, [34], 0), zno, zno, (4, 21, [0], 0), (21, 24, [9, 26], 0), zno, zno, (2, 25, [3], 0), (26, 26, [], 0), (0, 27, [], -1), (71, 30, [34], 0), zno, zno, (0, 31, [], 1), (17, 34, [35], 0), zno, zno, (0, 35, [], 0), (5, 37, [4], 0), zno, (2, 38, [2], 0), (2, 40, [4], 0), zno, (80, 43, [61], 0), zno, zno, (2, 44, [1], 0), (0, 45, [], 2), (71, 48, [57], 0), zno, zno, (4, 49, [0], 0), (21, 52, [9, 5], 0), zno, zno, (2, 53, [3], 0), (26, 54, [], 0), (17, 57, [62], 0), zno, zno, (0, 58, [], 1), (17, 61, [62], 0), zno, zno, (0, 62, [], 0), (50, 63, [], 0), (5, 64, [2], 0), (8, 67, [3], 1), zno, zno, (17, 70, [4], 0), zno, zno, (2, 71, [2], 0), (35, 0, [], 0)]
/-- TieOfficeModel.allOf(I)J -/
def zc159 : List (Nat × Nat × List Nat × Int) := [(2, 1, [1], 0), (39, 0, [120, 44, 49, 55, 62, 69, 55, 76], 0), zno, zno, zno, zno, zno, zno, zno, zno, zno, zno, zno, zno, zno, zno, zno, zno, zno, zno, zno, zno, zno, zno, zno, zno, zno, zno, zno, zno, zno, zno, zno, zno, zno, zno, zno, zno, zno, zno, zno, zno, zno, zno, (4, 45, [0], 0), (34, 48, [120, 1, 0], 0), zno, zno, (37, 0, [], 0), (4, 50, [0], 0), (34, 53, [122, 1, 0], 0), zno, zno, (12, 54, [], 0), (37, 0, [], 0), (4, 56, [0], 0), (2, 57, [1], 0), (34, 60, [158, 2, 0], 0), zno, zno, (12, 61, [], 0), (37, 0, [], 0), (4, 63, [0], 0), (0, 64, [], 0), (34, 67, [135, 2, 0], 0), zno, zno, (12, 68, [], 0), (37, 0, [], 0), (4, 70, [0], 0), (0, 71, [], 2), (34, 74, [135, 2, 0], 0), zno, zno, (12, 75, [], 0), (37, 0, [], 0), (0, 77, [], 0), (5, 78, [2], 0), (0, 79, [], 0), (5, 80, [3], 0), (2, 81, [3], 0), (4, 82, [0], 0), (21, 85, [9, 3], 0), zno, zno, (73, 88, [117], 0), zno, zno, (2, 89, [2], 0), (4, 90, [0], 0), (21, 93, [9, 32], 0), zno, zno, (2, 94, [3], 0), (26, 95, [], 0), (4, 96, [0], 0), (21, 99, [9, 9], 0), zno, zno, (2, 100, [3], 0), (26, 101, [], 0), (75, 104, [108], 0), zno, zno, (0, 105, [], 1), (17, 108, [109], 0), zno, zno, (0, 109, [], 0), (50, 110, [], 0), (5, 111, [2], 0), (8, 114, [3], 1), zno, zno, (17, 117, [80], 0), zno, zno, (2, 118, [2], 0), (12, 119, [], 0), (37, 0, [], 0), (4, 121, [0], 0), (34, 124, [157, 1, 0], 0), zno, zno, (0, 125, [], -1), (71, 128, [132], 0), zno, zno, (1, 129, [], 0), (17, 132, [140], 0), zno, zno, (4, 133, [0], 0), (4, 134, [0], 0), (34, 137, [157, 1, 0], 0), zno, zno, (34, 140, [119, 2, 0], 0), zno, zno, (37, 0, [], 0)]
/-- TieOfficeModel.all(I)J -/
def zc160 : List (Nat × Nat × List Nat × Int) := [(2, 1, [1], 0), (0, 2, [], 0), (0, 4, [], 7), zno, (34, 7, [98, 3, 1], 0), zno, zno, (80, 10, [18], 0), zno, zno, (4, 11, [0], 0), (2, 12, [1], 0), (34, 15, [159, 2, 0], 0), zno, zno, (17, 18, [25], 0), zno, zno, (4, 19, [0], 0), (0, 21, [], -2), zno, (34, 24, [99, 2, 0], 0), zno, zno, (12, 25, [], 0), (37, 0, [], 0)]
/-- TieOfficeModel.toldOf(I)I -/
def zc161 : List (Nat × Nat × List Nat × Int) := [(2, 1, [1], 0), (0, 2, [], 4), (73, 5, [12], 0), zno, zno, (4, 6, [0], 0), (21, 9, [9, 0], 0), zno, zno, (2, 10, [1], 0), (26, 11, [], 0), (35, 0, [], 0), (0, 13, [], 0), (5, 14, [2], 0), (0, 15, [], 0), (5, 16, [3], 0), (2, 17, [3], 0), (0, 19, [], 16), zno, (73, 22, [45], 0), zno, zno, (2, 23, [2], 0), (4, 24, [0], 0), (21, 27, [9, 4], 0), zno, zno, (2, 28, [3], 0), (26, 29, [], 0), (80, 32, [36], 0), zno, zno, (0, 33, [], 1), (17, 36, [37], 0), zno, zno, (0, 37, [], 0), (50, 38, [], 0), (5, 39, [2], 0), (8, 42, [3], 1), zno, zno, (17, 45, [16], 0), zno, zno, (2, 46, [1], 0), (0, 47, [], 4), (71, 50, [57], 0), zno, zno, (4, 51, [0], 0), (21, 54, [9, 2], 0), zno, zno, (17, 57, [83], 0), zno, zno, (2, 58, [1], 0), (0, 59, [], 5), (71, 62, [66], 0), zno, zno, (2, 63, [2], 0), (17, 66, [83], 0), zno, zno, (2, 67, [1], 0), (0, 69, [], 6), zno, (71, 72, [79], 0), zno, zno, (4, 73, [0], 0), (21, 76, [9, 3], 0), zno, zno, (17, 79, [83], 0), zno, zno, (4, 80, [0], 0), (21, 83, [9, 11], 0), zno, zno, (35, 0, [], 0)]
/-- TieOfficeModel.told(I)I -/
def zc162 : List (Nat × Nat × List Nat × Int) := [(2, 1, [1], 0), (0, 2, [], 0), (0, 4, [], 7), zno, (34, 7, [98, 3, 1], 0), zno, zno, (80, 10, [18], 0), zno, zno, (4, 11, [0], 0), (2, 12, [1], 0), (34, 15, [161, 2, 0], 0), zno, zno, (17, 18, [24], 0), zno, zno, (4, 19, [0], 0), (0, 21, [], -2), zno, (34, 24, [99, 2, 0], 0), zno, zno, (35, 0, [], 0)]
/-- TieOfficeModel.digest()J -/
def zc163 : List (Nat × Nat × List Nat × Int) := [(1, 3, [], 2267), zno, zno, (6, 4, [1], 0), (0, 5, [], 0), (5, 6, [3], 0), (2, 7, [3], 0), (0, 9, [], 8), zno, (73, 12, [31], 0), zno, zno, (1, 15, [], 31), zno, zno, (3, 16, [1], 0), (62, 17, [], 0), (4, 18, [0], 0), (2, 19, [3], 0), (34, 22, [161, 2, 0], 0), zno, zno, (12, 23, [], 0), (60, 24, [], 0), (6, 25, [1], 0), (8, 28, [3], 1), zno, zno, (17, 31, [6], 0), zno, zno, (0, 32, [], 0), (5, 33, [3], 0), (2, 34, [3], 0), (0, 36, [], 16), zno, (73, 39, [93], 0), zno, zno, (4, 40, [0], 0), (21, 43, [9, 4], 0), zno, zno, (2, 44, [3], 0), (26, 45, [], 0), (80, 48, [87], 0), zno, zno, (1, 51, [], 31), zno, zno, (3, 52, [1], 0), (62, 53, [], 0), (2, 54, [3], 0), (12, 55, [], 0), (60, 56, [], 0), (6, 57, [1], 0), (0, 58, [], 0), (5, 60, [4], 0), zno, (2, 62, [4], 0), zno, (0, 63, [], 5), (73, 66, [87], 0), zno, zno, (1, 69, [], 31), zno, zno, (3, 70, [1], 0), (62, 71, [], 0), (4, 72, [0], 0), (2, 73, [3], 0), (2, 75, [4], 0), zno, (34, 78, [127, 3, 0], 0), zno, zno, (12, 79, [], 0), (60, 80, [], 0), (6, 81, [1], 0), (8, 84, [4], 1), zno, zno, (17, 87, [60], 0), zno, zno, (8, 90, [3], 1), zno, zno, (17, 93, [33], 0), zno, zno, (0, 94, [], 0), (5, 95, [3], 0), (2, 96, [3], 0), (4, 97, [0], 0), (21, 100, [9, 3], 0), zno, zno, (73, 103, [140], 0), zno, zno, (0, 104, [], 0), (5, 106, [4], 0), zno, (2, 108, [4], 0), zno, (0, 110, [], 8), zno, (73, 113, [134], 0), zno, zno, (1, 116, [], 31), zno, zno, (3, 117, [1], 0), (62, 118, [], 0), (4, 119, [0], 0), (2, 120, [3], 0), (2, 122, [4], 0), zno, (34, 125, [126, 3, 0], 0), zno, zno, (12, 126, [], 0), (60, 127, [], 0), (6, 128, [1], 0), (8, 131, [4], 1), zno, zno, (17, 134, [106], 0), zno, zno, (8, 137, [3], 1), zno, zno, (17, 140, [95], 0), zno, zno, (0, 141, [], 0), (5, 142, [3], 0), (2, 143, [3], 0), (0, 145, [], 8), zno, (73, 148, [166], 0), zno, zno, (1, 151, [], 31), zno, zno, (3, 152, [1], 0), (62, 153, [], 0), (4, 154, [0], 0), (2, 155, [3], 0), (34, 158, [159, 2, 0], 0), zno, zno, (60, 159, [], 0), (6, 160, [1], 0), (8, 163, [3], 1), zno, zno, (17, 166, [142], 0), zno, zno, (3, 167, [1], 0), (37, 0, [], 0)]
/-- java/lang/Integer.bitCount(I)I -/
def zc164 : List (Nat × Nat × List Nat × Int) := [(2, 1, [0], 0), (2, 2, [0], 0), (0, 3, [], 1), (58, 4, [], 0), (0, 7, [], 1431655765), zno, zno, (53, 8, [], 0), (51, 9, [], 0), (5, 10, [0], 0), (2, 11, [0], 0), (0, 14, [], 858993459), zno, zno, (53, 15, [], 0), (2, 16, [0], 0), (0, 17, [], 2), (58, 18, [], 0), (0, 21, [], 858993459), zno, zno, (53, 22, [], 0), (50, 23, [], 0), (5, 24, [0], 0), (2, 25, [0], 0), (2, 26, [0], 0), (0, 27, [], 4), (58, 28, [], 0), (50, 29, [], 0), (0, 32, [], 252645135), zno, zno, (53, 33, [], 0), (5, 34, [0], 0), (2, 35, [0], 0), (2, 36, [0], 0), (0, 38, [], 8), zno, (58, 39, [], 0), (50, 40, [], 0), (5, 41, [0], 0), (2, 42, [0], 0), (2, 43, [0], 0), (0, 45, [], 16), zno, (58, 46, [], 0), (50, 47, [], 0), (5, 48, [0], 0), (2, 49, [0], 0), (0, 51, [], 63), zno, (53, 52, [], 0), (35, 0, [], 0)]
/-- java/util/Arrays.fill([II)V -/
def zc165 : List (Nat × Nat × List Nat × Int) := [(0, 1, [], 0), (5, 2, [2], 0), (4, 3, [0], 0), (30, 4, [], 0), (5, 5, [3], 0), (2, 6, [2], 0), (2, 7, [3], 0), (73, 10, [20], 0), zno, zno, (4, 11, [0], 0), (2, 12, [2], 0), (2, 13, [1], 0), (27, 14, [], 0), (8, 17, [2], 1), zno, zno, (17, 20, [5], 0), zno, zno, (38, 0, [], 0)]
def zcs : List (List zI) := [zc0, zc1, zc2, zc3, zc4, zc5, zc6, zc7, zc8, zc9, zc10, zc11, zc12, zc13, zc14, zc15, zc16, zc17, zc18, zc19, zc20, zc21, zc22, zc23, zc24, zc25, zc26, zc27, zc28, zc29, zc30, zc31, zc32, zc33, zc34, zc35, zc36, zc37, zc38, zc39, zc40, zc41, zc42, zc43, zc44, zc45, zc46, zc47, zc48, zc49, zc50, zc51, zc52, zc53, zc54, zc55, zc56, zc57, zc58, zc59, zc60, zc61, zc62, zc63, zc64, zc65, zc66, zc67, zc68, zc69, zc70, zc71, zc72, zc73, zc74, zc75, zc76, zc77, zc78, zc79, zc80, zc81, zc82, zc83, zc84, zc85, zc86, zc87, zc88, zc89, zc90, zc91, zc92, zc93, zc94, zc95, zc96, zc97, zc98, zc99, zc100, zc101, zc102, zc103, zc104, zc105, zc106, zc107, zc108, zc109, zc110, zc111, zc112, zc113, zc114, zc115, zc116, zc117, zc118, zc119, zc120, zc121, zc122, zc123, zc124, zc125, zc126, zc127, zc128, zc129, zc130, zc131, zc132, zc133, zc134, zc135, zc136, zc137, zc138, zc139, zc140, zc141, zc142, zc143, zc144, zc145, zc146, zc147, zc148, zc149, zc150, zc151, zc152, zc153, zc154, zc155, zc156, zc157, zc158, zc159, zc160, zc161, zc162, zc163, zc164, zc165]
def zlk : List zI → Nat → zI
  | [], _ => zno
  | i :: _, 0 => i
  | _ :: l, k + 1 => zlk l k
def zcl0 : List (List zI) → Nat → List zI
  | [], _ => []
  | i :: _, 0 => i
  | _ :: l, k + 1 => zcl0 l k
def zc (k pc : Nat) : zI := zlk (zcl0 zcs k) pc
end
section
/-! A CLEAN MACHINE: values are (kind, integer), kinds 0 int, 1 long, 2 reference (0 is null), 3 nothing; the heap is a function of cell and place. zG says that a frame comes to its return with Q; it is the least predicate that keeps the rules of zwI. -/
abbrev zV : Type := Nat × Int
abbrev zM : Type := Int → Int → Int
abbrev zQ : Type := Int → Int → zM → Prop
abbrev zJ : Type := Nat → List zV → List zV → Int → zM → Prop
def zw (x : Int) : Int := (x + 2147483648) % 4294967296 - 2147483648
def zW (x : Int) : Int := (x + 9223372036854775808) % 18446744073709551616 - 9223372036854775808
def zset (M : zM) (a i v : Int) : zM := fun b j => if b = a ∧ j = i then v else M b j
def zcopy (M : zM) (q sp d dp n : Int) : zM := fun b j => if b = d ∧ dp ≤ j ∧ j < dp + n then M q (sp + (j - dp)) else M b j
def zand (x y : Int) : Int := (Int32.ofInt x &&& Int32.ofInt y).toInt
def zor (x y : Int) : Int := (Int32.ofInt x ||| Int32.ofInt y).toInt
def zxor (x y : Int) : Int := (Int32.ofInt x ^^^ Int32.ofInt y).toInt
def zshl (x y : Int) : Int := (Int32.ofInt x <<< (Int32.ofInt y &&& 31)).toInt
def zshr (x y : Int) : Int := (Int32.ofInt x >>> (Int32.ofInt y &&& 31)).toInt
def zushr (x y : Int) : Int := ((Int32.ofInt x).toUInt32 >>> ((Int32.ofInt y).toUInt32 &&& Int32.toUInt32 31)).toInt32.toInt
def zlcmp (x y : Int) : Int := if x < y then -1 else if x = y then 0 else 1
def znth : List zV → Nat → Option zV
  | [], _ => none
  | v :: _, 0 => some v
  | _ :: l, k + 1 => znth l k
/-- a value of one place is stored: a long ahead of it is lost -/
def zst1 : List zV → Nat → zV → List zV
  | [], _, _ => []
  | _ :: l, 0, v => v :: l
  | w :: l, 1, v => (if w.1 = 1 then (3, 0) else w) :: zst1 l 0 v
  | w :: l, k + 2, v => w :: zst1 l (k + 1) v
def zst2 : List zV → Nat → zV → List zV
  | [], _, _ => []
  | [_], 0, v => [v]
  | _ :: _ :: l, 0, v => v :: (3, 0) :: l
  | w :: l, 1, v => (if w.1 = 1 then (3, 0) else w) :: zst2 l 0 v
  | w :: l, k + 2, v => w :: zst2 l (k + 1) v
def zo (i : zI) (j : Nat) : Nat := i.2.2.1.getD j 0
def zcats (st : List zV) : Nat := match st with
  | [] => 0
  | v :: r => (if v.1 = 1 then 2 else 1) + zcats r
/-- instructions that go on to the next one: what they ask, and the state behind them -/
def zstep (k : Nat) (n0 : Int) (i : zI) (L st : List zV) (n : Int) (M : zM) : Option (Prop × List zV × List zV × Int × zM) :=
  match i.1 with
  | 0 => some (True, L, (0, i.2.2.2) :: st, n, M)
  | 1 => some (True, L, (1, i.2.2.2) :: st, n, M)
  | 2 => match znth L (zo i 0) with | some (0, x) => some (True, L, (0, x) :: st, n, M) | _ => none
  | 3 => match znth L (zo i 0) with | some (1, x) => some (True, L, (1, x) :: st, n, M) | _ => none
  | 4 => match znth L (zo i 0) with | some (2, x) => some (0 < x, L, (2, x) :: st, n, M) | _ => none
  | 5 => match znth L (zo i 0), st with | some _, (0, x) :: r => some (True, zst1 L (zo i 0) (0, x), r, n, M) | _, _ => none
  | 6 => match znth L (zo i 0 + 1), st with | some _, (1, x) :: r => some (True, zst2 L (zo i 0) (1, x), r, n, M) | _, _ => none
  | 7 => match znth L (zo i 0), st with | some _, (2, x) :: r => some (0 < x, zst1 L (zo i 0) (2, x), r, n, M) | _, _ => none
  | 8 => match znth L (zo i 0) with | some (0, x) => some (True, zst1 L (zo i 0) (0, zw (x + i.2.2.2)), st, n, M) | _ => none
  | 50 => match st with | (0, y) :: (0, x) :: r => some (True, L, (0, zw (x + y)) :: r, n, M) | _ => none
  | 51 => match st with | (0, y) :: (0, x) :: r => some (True, L, (0, zw (x - y)) :: r, n, M) | _ => none
  | 52 => match st with | (0, y) :: (0, x) :: r => some (True, L, (0, zw (x * y)) :: r, n, M) | _ => none
  | 53 => match st with | (0, y) :: (0, x) :: r => some (True, L, (0, zand x y) :: r, n, M) | _ => none
  | 54 => match st with | (0, y) :: (0, x) :: r => some (True, L, (0, zor x y) :: r, n, M) | _ => none
  | 55 => match st with | (0, y) :: (0, x) :: r => some (True, L, (0, zxor x y) :: r, n, M) | _ => none
  | 56 => match st with | (0, y) :: (0, x) :: r => some (True, L, (0, zshl x y) :: r, n, M) | _ => none
  | 57 => match st with | (0, y) :: (0, x) :: r => some (True, L, (0, zshr x y) :: r, n, M) | _ => none
  | 58 => match st with | (0, y) :: (0, x) :: r => some (True, L, (0, zushr x y) :: r, n, M) | _ => none
  | 60 => match st with | (1, y) :: (1, x) :: r => some (True, L, (1, zW (x + y)) :: r, n, M) | _ => none
  | 61 => match st with | (1, y) :: (1, x) :: r => some (True, L, (1, zW (x - y)) :: r, n, M) | _ => none
  | 62 => match st with | (1, y) :: (1, x) :: r => some (True, L, (1, zW (x * y)) :: r, n, M) | _ => none
  | 11 => match st with | (0, x) :: r => some (True, L, (0, zw (-x)) :: r, n, M) | _ => none
  | 12 => match st with | (0, x) :: r => some (True, L, (1, x) :: r, n, M) | _ => none
  | 13 => match st with | (1, y) :: (1, x) :: r => some (True, L, (0, zlcmp x y) :: r, n, M) | _ => none
  | 18 => match st with | (0, x) :: r => some (True, L, (0, x) :: (0, x) :: r, n, M) | (2, x) :: r => some (True, L, (2, x) :: (2, x) :: r, n, M) | _ => none
  | 19 => match st with | (0, x) :: (2, a) :: r => some (True, L, (0, x) :: (2, a) :: (0, x) :: (2, a) :: r, n, M) | _ => none
  | 20 => match st with | (0, _) :: r => some (True, L, r, n, M) | _ => none
  | 21 => match st with | (2, a) :: r => some (zKT a = (2, zo i 0), L, (zft (zo i 0) (zo i 1), M a (zo i 1)) :: r, n, M) | _ => none
  | 22 => match st with | (0, x) :: (2, a) :: r => some (zKT a = (2, zo i 0), L, r, n, zset M a (zo i 1) x) | _ => none
  | 23 => match st with | (0, x) :: (2, a) :: r => some (zKT a = (2, zo i 0) ∧ (x = 0 ∨ x = 1), L, r, n, zset M a (zo i 1) x) | _ => none
  | 24 => match st with | (1, x) :: (2, a) :: r => some (zKT a = (2, zo i 0), L, r, n, zset M a (zo i 1) x) | _ => none
  | 25 => match st with | (2, x) :: (2, a) :: r => some (zKT a = (2, zo i 0) ∧ 0 < x, L, r, n, zset M a (zo i 1) x) | _ => none
  | 26 => match st with | (0, j) :: (2, a) :: r => some ((zKT a).1 = 0 ∧ 0 ≤ j ∧ j < (zKT a).2, L, (0, M a j) :: r, n, M) | _ => none
  | 27 => match st with | (0, x) :: (0, j) :: (2, a) :: r => some ((zKT a).1 = 0 ∧ 0 ≤ j ∧ j < (zKT a).2, L, r, n, zset M a j x) | _ => none
  | 28 => match st with | (0, j) :: (2, a) :: r => some ((zKT a).1 = 1 ∧ 0 ≤ j ∧ j < (zKT a).2, L, (2, M a j) :: r, n, M) | _ => none
  | 29 => match st with | (2, x) :: (0, j) :: (2, a) :: r => some ((zKT a).1 = 1 ∧ 0 ≤ j ∧ j < (zKT a).2 ∧ zKT x = (2, 1), L, r, n, zset M a j x) | _ => none
  | 30 => match st with | (2, a) :: r => some ((zKT a).1 = 0, L, (0, (zKT a).2) :: r, n, M) | _ => none
  | 31 => some (zKT (n + 1) = (2, zo i 0) ∧ n + 1 ≤ n0 + zmc k ∧ zsl (n + 1) ≤ zsl n0 + zms k, L, (2, n + 1) :: st, n + 1, M)
  | 32 => match st with | (0, x) :: r => some (zKT (n + 1) = (0, x.toNat) ∧ 0 ≤ x ∧ n + 1 ≤ n0 + zmc k ∧ zsl (n + 1) ≤ zsl n0 + zms k, L, (2, n + 1) :: r, n + 1, M) | _ => none
  | 33 => match st with | (0, x) :: r => some (zKT (n + 1) = (1, x.toNat) ∧ 0 ≤ x ∧ n + 1 ≤ n0 + zmc k ∧ zsl (n + 1) ≤ zsl n0 + zms k, L, (2, n + 1) :: r, n + 1, M) | _ => none
  | 40 => match st with | (0, m) :: (0, dp) :: (2, d) :: (0, sp) :: (2, q) :: r => some ((zKT q).1 = 0 ∧ (zKT d).1 = 0 ∧ 0 ≤ sp ∧ 0 ≤ dp ∧ 0 ≤ m ∧ sp + m ≤ (zKT q).2 ∧ dp + m ≤ (zKT d).2 ∧ zcats r ≤ 8 ∧ 1 ≤ zfr k ∧ 26 ≤ zlo k, L, r, n, zcopy M q sp d dp m) | _ => none
  | 41 => match st with | (2, a) :: r => some (0 < a ∧ zcats r ≤ 8 ∧ 1 ≤ zfr k ∧ 20 ≤ zlo k, L, r, n, M) | _ => none
  | 42 => match st with | (0, x) :: r => some (zcats r ≤ 8 ∧ 1 ≤ zfr k ∧ 21 ≤ zlo k, L, (0, if 0 ≤ x then x else zw (0 - x)) :: r, n, M) | _ => none
  | _ => none
/-- a table of targets -/
def zsw (K : Nat → Prop) (x : Int) : Int → List Nat → Nat → Prop
  | _, [], d => K d
  | lo, t :: ts, d => (x = lo → K t) ∧ (¬ x = lo → zsw K x (lo + 1) ts d)
def zpp : Nat → List zV → List zV → Option (List zV × List zV)
  | 0, acc, st => some (acc, st)
  | m + 1, acc, v :: st => zpp m (v :: acc) st
  | _ + 1, _, [] => none
def zspr : List zV → List zV
  | [] => []
  | v :: l => if v.1 = 1 then v :: (3, 0) :: zspr l else v :: zspr l
def zpad : Nat → List zV → List zV
  | 0, l => l
  | m + 1, [] => (3, 0) :: zpad m []
  | m + 1, v :: l => v :: zpad m l
def zpush (t : Nat) (x : Int) (r : List zV) : List zV := match t with
  | 0 => (0, x) :: r
  | 1 => (1, x) :: r
  | 2 => r
  | _ => (0, x) :: r
def zal (k : Nat) (n n' : Int) : Prop := match zmc k with
  | 0 => n' = n
  | c + 1 => n' = n + (c + 1 : Nat) ∧ zsl n' = zsl n + zms k
def zfitc (k : Nat) (n0 : Int) (k' : Nat) (n : Int) : Prop := match zmc k' with
  | 0 => True
  | c + 1 => n + (c + 1 : Nat) ≤ n0 + zmc k ∧ zsl n + zms k' ≤ zsl n0 + zms k
def zrecv (kind k' : Nat) (As : List zV) : Prop := match kind, As with
  | 0, (2, a) :: _ => zKT a = (2, zoc k')
  | 1, _ => True
  | 2, (2, a) :: _ => 0 < a
  | 3, (2, a) :: _ => 0 < a
  | 4, _ => True
  | _, _ => False
abbrev zCt : Type := Nat → zQ → List zV → Int → zM → Prop
def zcall (k : Nat) (n0 : Int) (K : zJ) (C : zCt) (nx k' na kind : Nat) (L st : List zV) (n : Int) (M : zM) : Prop :=
  match zpp na [] st with
  | some (As, r) => (zrecv kind k' As ∧ zcats r ≤ 8 ∧ (zspr As).length ≤ zml k' ∧ zfr k' + 1 ≤ zfr k ∧ 8 + (zml k' + 11) + zlo k' ≤ zlo k ∧ zfitc k n0 k' n) ∧ C k' (fun x n' M' => zal k' n n' ∧ K nx L (zpush (zrt k') x r) n' M') As n M
  | none => False
def zwI (k : Nat) (n0 : Int) (K : zJ) (C : zCt) (Q : zQ) (i : zI) (L st : List zV) (n : Int) (M : zM) : Prop :=
  match i.1 with
  | 16 => match st with | (2, x) :: r => (x ≤ 0 → K (zo i 0) L r n M) ∧ (¬ x ≤ 0 → K i.2.1 L r n M) | _ => False
  | 17 => K (zo i 0) L st n M
  | 34 => zcall k n0 K C i.2.1 (zo i 0) (zo i 1) (zo i 2) L st n M
  | 35 => match st with | [(0, x)] => Q x n M | _ => False
  | 36 => match st with | [(0, x)] => (x = 0 ∨ x = 1) ∧ Q x n M | _ => False
  | 37 => match st with | [(1, x)] => Q x n M | _ => False
  | 38 => match st with | [] => Q 0 n M | _ => False
  | 39 => match st with | (0, x) :: r => zsw (fun t => K t L r n M) x i.2.2.2 (i.2.2.1.tail) (zo i 0) | _ => False
  | 70 => match st with | (0, y) :: (0, x) :: r => (x = y → K (zo i 0) L r n M) ∧ (¬ x = y → K i.2.1 L r n M) | _ => False
  | 71 => match st with | (0, y) :: (0, x) :: r => (¬ x = y → K (zo i 0) L r n M) ∧ (x = y → K i.2.1 L r n M) | _ => False
  | 72 => match st with | (0, y) :: (0, x) :: r => (x < y → K (zo i 0) L r n M) ∧ (¬ x < y → K i.2.1 L r n M) | _ => False
  | 73 => match st with | (0, y) :: (0, x) :: r => (¬ x < y → K (zo i 0) L r n M) ∧ (x < y → K i.2.1 L r n M) | _ => False
  | 74 => match st with | (0, y) :: (0, x) :: r => (y < x → K (zo i 0) L r n M) ∧ (¬ y < x → K i.2.1 L r n M) | _ => False
  | 75 => match st with | (0, y) :: (0, x) :: r => (¬ y < x → K (zo i 0) L r n M) ∧ (y < x → K i.2.1 L r n M) | _ => False
  | 80 => match st with | (0, x) :: r => (x = 0 → K (zo i 0) L r n M) ∧ (¬ x = 0 → K i.2.1 L r n M) | _ => False
  | 81 => match st with | (0, x) :: r => (¬ x = 0 → K (zo i 0) L r n M) ∧ (x = 0 → K i.2.1 L r n M) | _ => False
  | 82 => match st with | (0, x) :: r => (x < 0 → K (zo i 0) L r n M) ∧ (¬ x < 0 → K i.2.1 L r n M) | _ => False
  | 83 => match st with | (0, x) :: r => (¬ x < 0 → K (zo i 0) L r n M) ∧ (x < 0 → K i.2.1 L r n M) | _ => False
  | 84 => match st with | (0, x) :: r => (0 < x → K (zo i 0) L r n M) ∧ (¬ 0 < x → K i.2.1 L r n M) | _ => False
  | 85 => match st with | (0, x) :: r => (¬ 0 < x → K (zo i 0) L r n M) ∧ (0 < x → K i.2.1 L r n M) | _ => False
  | _ => match zstep k n0 i L st n M with
    | some (g, L', st', n', M') => g ∧ K i.2.1 L' st' n' M'
    | none => False
theorem zsw_mono {K K' : Nat → Prop} (h : ∀ t, K t → K' t) (x : Int) : ∀ (ts : List Nat) (lo : Int) (d : Nat), zsw K x lo ts d → zsw K' x lo ts d
  | [], _, d => h d
  | t :: ts, lo, d => fun q => ⟨fun e => h t (q.1 e), fun e => zsw_mono h x ts (lo + 1) d (q.2 e)⟩
set_option maxHeartbeats 4000000 in
theorem zwI_mono {k : Nat} {n0 : Int} {K K' : zJ} {C C' : zCt} {Q Q' : zQ} (hK : ∀ pc L st n M, K pc L st n M → K' pc L st n M) (hC : ∀ k' Q1 Q2 As n M, (∀ r n' M', Q1 r n' M' → Q2 r n' M') → C k' Q1 As n M → C' k' Q2 As n M) (hQ : ∀ r n M, Q r n M → Q' r n M) {i : zI} {L st : List zV} {n : Int} {M : zM} : zwI k n0 K C Q i L st n M → zwI k n0 K' C' Q' i L st n M := by
  unfold zwI
  split
  · split <;> first | exact id | exact fun q => ⟨fun e => hK _ _ _ _ _ (q.1 e), fun e => hK _ _ _ _ _ (q.2 e)⟩
  · exact hK _ _ _ _ _
  · unfold zcall
    split
    · exact fun q => ⟨q.1, hC _ _ _ _ _ _ (fun r n' M' h => ⟨h.1, hK _ _ _ _ _ h.2⟩) q.2⟩
    · exact id
  · split <;> first | exact id | exact hQ _ _ _
  · split <;> first | exact id | exact fun q => ⟨q.1, hQ _ _ _ q.2⟩
  · split <;> first | exact id | exact hQ _ _ _
  · split <;> first | exact id | exact hQ _ _ _
  · split <;> first | exact id | exact zsw_mono (fun t => hK _ _ _ _ _) _ _ _ _
  · split <;> first | exact id | exact fun q => ⟨fun e => hK _ _ _ _ _ (q.1 e), fun e => hK _ _ _ _ _ (q.2 e)⟩
  · split <;> first | exact id | exact fun q => ⟨fun e => hK _ _ _ _ _ (q.1 e), fun e => hK _ _ _ _ _ (q.2 e)⟩
  · split <;> first | exact id | exact fun q => ⟨fun e => hK _ _ _ _ _ (q.1 e), fun e => hK _ _ _ _ _ (q.2 e)⟩
  · split <;> first | exact id | exact fun q => ⟨fun e => hK _ _ _ _ _ (q.1 e), fun e => hK _ _ _ _ _ (q.2 e)⟩
  · split <;> first | exact id | exact fun q => ⟨fun e => hK _ _ _ _ _ (q.1 e), fun e => hK _ _ _ _ _ (q.2 e)⟩
  · split <;> first | exact id | exact fun q => ⟨fun e => hK _ _ _ _ _ (q.1 e), fun e => hK _ _ _ _ _ (q.2 e)⟩
  · split <;> first | exact id | exact fun q => ⟨fun e => hK _ _ _ _ _ (q.1 e), fun e => hK _ _ _ _ _ (q.2 e)⟩
  · split <;> first | exact id | exact fun q => ⟨fun e => hK _ _ _ _ _ (q.1 e), fun e => hK _ _ _ _ _ (q.2 e)⟩
  · split <;> first | exact id | exact fun q => ⟨fun e => hK _ _ _ _ _ (q.1 e), fun e => hK _ _ _ _ _ (q.2 e)⟩
  · split <;> first | exact id | exact fun q => ⟨fun e => hK _ _ _ _ _ (q.1 e), fun e => hK _ _ _ _ _ (q.2 e)⟩
  · split <;> first | exact id | exact fun q => ⟨fun e => hK _ _ _ _ _ (q.1 e), fun e => hK _ _ _ _ _ (q.2 e)⟩
  · split <;> first | exact id | exact fun q => ⟨fun e => hK _ _ _ _ _ (q.1 e), fun e => hK _ _ _ _ _ (q.2 e)⟩
  · split <;> first | exact id | exact fun q => ⟨q.1, hK _ _ _ _ _ q.2⟩
abbrev zPt : Type := Nat → Int → zQ → zJ
def zent (P : zPt) : zCt := fun k' Q' As n M => P k' n Q' 0 (zpad (zml k') (zspr As)) [] n M
def zmo (P : zPt) : Prop := ∀ k n0 Q Q' pc L st n M, (∀ r n' M', Q r n' M' → Q' r n' M') → P k n0 Q pc L st n M → P k n0 Q' pc L st n M
def zcl (P : zPt) : Prop := ∀ k n0 Q pc L st n M, zwI k n0 (P k n0 Q) (zent P) Q (zc k pc) L st n M → P k n0 Q pc L st n M
/-- less is known of the locals -/
def zle : List zV → List zV → Prop
  | [], [] => True
  | v :: l, w :: m => (v = w ∨ v = (3, 0)) ∧ zle l m
  | _, _ => False
def zfo (P : zPt) : Prop := ∀ k n0 Q pc L L' st n M, zle L L' → P k n0 Q pc L st n M → P k n0 Q pc L' st n M
/-- the frame comes to its return with Q -/
def zG (k : Nat) (n0 : Int) (Q : zQ) (pc : Nat) (L st : List zV) (n : Int) (M : zM) : Prop := ∀ P : zPt, zmo P → zcl P → zfo P → P k n0 Q pc L st n M
theorem zG_of {k : Nat} {n0 : Int} {Q : zQ} {pc : Nat} {L st : List zV} {n : Int} {M : zM} (h : zwI k n0 (zG k n0 Q) (zent zG) Q (zc k pc) L st n M) : zG k n0 Q pc L st n M := by
  intro P hm hc hf
  refine hc _ _ _ _ _ _ _ _ (zwI_mono (fun pc L st n M q => q P hm hc hf) (fun k' Q1 Q2 As n M hq q => hm _ _ _ _ _ _ _ _ _ hq (q P hm hc hf)) (fun _ _ _ q => q) h)
theorem zG_mono {k : Nat} {n0 : Int} {Q Q' : zQ} {pc : Nat} {L st : List zV} {n : Int} {M : zM} (hQ : ∀ r n' M', Q r n' M' → Q' r n' M') (h : zG k n0 Q pc L st n M) : zG k n0 Q' pc L st n M :=
  fun P hm hc hf => hm _ _ _ _ _ _ _ _ _ hQ (h P hm hc hf)
theorem zG_fo {k : Nat} {n0 : Int} {Q : zQ} {pc : Nat} {L L' st : List zV} {n : Int} {M : zM} (hl : zle L L') (h : zG k n0 Q pc L st n M) : zG k n0 Q pc L' st n M :=
  fun P hm hc hf => hf _ _ _ _ _ _ _ _ _ hl (h P hm hc hf)
/-- a call of method k with the values As -/
def zC (k : Nat) (Q : zQ) (As : List zV) (n : Int) (M : zM) : Prop := zG k n Q 0 (zpad (zml k) (zspr As)) [] n M
theorem zC_mono {k : Nat} {Q Q' : zQ} {As : List zV} {n : Int} {M : zM} (h : zC k Q As n M) (hQ : ∀ r n' M', Q r n' M' → Q' r n' M') : zC k Q' As n M := zG_mono hQ h
/-- many instructions at once, till a place of 'stop' -/
def zR (k : Nat) (n0 : Int) (Q : zQ) (stop : List Nat) : Nat → zJ
  | 0, pc, L, st, n, M => zG k n0 Q pc L st n M
  | f + 1, pc, L, st, n, M => if stop.contains pc then zG k n0 Q pc L st n M else zwI k n0 (zR k n0 Q stop f) zC Q (zc k pc) L st n M
theorem zR_G {k : Nat} {n0 : Int} {Q : zQ} {stop : List Nat} : ∀ (f pc : Nat) (L st : List zV) (n : Int) (M : zM), zR k n0 Q stop f pc L st n M → zG k n0 Q pc L st n M
  | 0, _, _, _, _, _, h => h
  | f + 1, pc, L, st, n, M, h => by
    unfold zR at h
    split at h
    · exact h
    · exact zG_of (zwI_mono (K' := zG k n0 Q) (C' := zent zG) (Q' := Q) (fun pc L st n M q => zR_G f pc L st n M q) (fun k' Q1 Q2 As n M hq q => zG_mono hq q) (fun _ _ _ q => q) h)
/-- from a place, the place itself isn't a stop -/
theorem zR_go {k : Nat} {n0 : Int} {Q : zQ} (stop : List Nat) (f : Nat) {pc : Nat} {L st : List zV} {n : Int} {M : zM} (h : zwI k n0 (zR k n0 Q stop f) zC Q (zc k pc) L st n M) : zG k n0 Q pc L st n M :=
  zG_of (zwI_mono (K' := zG k n0 Q) (C' := zent zG) (Q' := Q) (fun pc L st n M q => zR_G f pc L st n M q) (fun k' Q1 Q2 As n M hq q => zG_mono hq q) (fun _ _ _ q => q) h)
end
section
/-- links of the classes' own pools: (class, place, class of the field, the field) -/
def zFL : List (Nat × Nat × Nat × Nat) := [(0, 9, 0, 0), (0, 15, 0, 1), (0, 19, 0, 2), (0, 22, 0, 3), (0, 25, 0, 4), (0, 28, 0, 5), (0, 32, 0, 6), (0, 36, 0, 7), (0, 39, 0, 8), (0, 42, 0, 9), (0, 45, 0, 10), (0, 48, 0, 11), (0, 51, 0, 12), (0, 54, 0, 13), (0, 57, 0, 14), (0, 74, 1, 0), (0, 87, 1, 2), (0, 97, 1, 10), (0, 100, 1, 11), (0, 113, 1, 5), (0, 122, 1, 9), (0, 125, 1, 8), (1, 9, 1, 0), (1, 15, 1, 1), (1, 18, 1, 2), (1, 21, 1, 3), (1, 24, 1, 4), (1, 27, 1, 5), (1, 31, 1, 6), (1, 34, 1, 7), (1, 37, 1, 8), (1, 40, 1, 9), (1, 43, 1, 10), (1, 46, 1, 11), (2, 11, 2, 0), (2, 17, 2, 1), (3, 12, 3, 0), (3, 18, 3, 1), (3, 22, 3, 2), (3, 26, 3, 4), (3, 29, 3, 5), (3, 32, 3, 6), (3, 38, 3, 3), (3, 73, 1, 0), (3, 76, 1, 5), (3, 79, 1, 1), (3, 87, 1, 2), (3, 94, 1, 6), (3, 97, 1, 7), (3, 100, 1, 8), (3, 103, 1, 9), (3, 110, 1, 3), (4, 9, 4, 0), (4, 15, 4, 1), (4, 18, 4, 2), (4, 21, 4, 3), (4, 25, 4, 4), (4, 28, 4, 5), (4, 34, 4, 6), (4, 38, 4, 7), (4, 42, 4, 8), (4, 55, 0, 4), (4, 68, 1, 3), (4, 81, 1, 2), (4, 84, 1, 6), (4, 90, 1, 7), (4, 101, 0, 1), (5, 9, 5, 0), (5, 15, 5, 1), (5, 19, 5, 2), (5, 22, 5, 3), (5, 25, 5, 4), (5, 28, 1, 6), (5, 33, 1, 7), (5, 46, 0, 8), (5, 49, 0, 7), (5, 60, 1, 8), (5, 69, 1, 9), (5, 72, 0, 10), (6, 9, 6, 0), (6, 15, 6, 1), (6, 19, 6, 2), (6, 23, 6, 3), (6, 26, 6, 4), (6, 30, 6, 5), (6, 36, 6, 6), (6, 43, 6, 7), (6, 47, 6, 8), (6, 56, 1, 3), (6, 65, 0, 5), (6, 75, 1, 2), (6, 89, 5, 0), (6, 92, 0, 0), (6, 93, 5, 1), (7, 9, 7, 0), (7, 15, 7, 1), (7, 18, 7, 2), (7, 21, 7, 3), (7, 28, 7, 4), (7, 32, 1, 2), (7, 37, 0, 0), (7, 54, 5, 0), (7, 65, 5, 1), (8, 7, 8, 0), (8, 13, 8, 1), (8, 19, 8, 3), (8, 26, 8, 4), (8, 30, 8, 5), (8, 36, 8, 6), (8, 43, 8, 7), (8, 50, 8, 8), (8, 57, 8, 9), (8, 64, 8, 10), (8, 71, 8, 11), (8, 75, 8, 2), (8, 94, 3, 0), (8, 100, 3, 1), (8, 107, 1, 6), (8, 110, 1, 7), (8, 113, 1, 8), (8, 116, 1, 9), (8, 122, 0, 10), (8, 125, 0, 11), (8, 128, 0, 3), (8, 140, 1, 5), (8, 143, 0, 6), (8, 146, 0, 7), (8, 149, 0, 8), (8, 152, 0, 9), (8, 159, 1, 3), (8, 174, 0, 1), (8, 178, 0, 4), (8, 181, 1, 4), (8, 193, 5, 0), (8, 196, 5, 1), (8, 218, 7, 0), (8, 221, 7, 1), (8, 224, 7, 2), (8, 231, 6, 1), (8, 234, 6, 0), (8, 237, 6, 2), (8, 241, 6, 3), (8, 247, 4, 0), (8, 250, 4, 1), (8, 253, 4, 2), (8, 258, 0, 5), (8, 261, 1, 0), (8, 264, 0, 2), (8, 280, 2, 1), (8, 284, 1, 2), (9, 7, 9, 0), (9, 13, 9, 1), (9, 16, 9, 4), (9, 19, 9, 5), (9, 22, 9, 6), (9, 25, 9, 7), (9, 28, 9, 8), (9, 31, 9, 9), (9, 34, 9, 10), (9, 37, 9, 12), (9, 40, 9, 18), (9, 43, 9, 19), (9, 46, 9, 20), (9, 49, 9, 21), (9, 52, 9, 22), (9, 55, 9, 23), (9, 58, 9, 24), (9, 61, 9, 25), (9, 64, 9, 26), (9, 67, 9, 27), (9, 70, 9, 28), (9, 73, 9, 29), (9, 76, 9, 30), (9, 79, 9, 32), (9, 82, 9, 33), (9, 85, 9, 35), (9, 88, 9, 36), (9, 91, 9, 37), (9, 94, 9, 38), (9, 97, 9, 39), (9, 100, 9, 41), (9, 103, 9, 42), (9, 106, 9, 43), (9, 109, 9, 44), (9, 112, 9, 52), (9, 126, 9, 2), (9, 133, 9, 14), (9, 136, 9, 13), (9, 150, 9, 16), (9, 153, 9, 15), (9, 166, 9, 17), (9, 185, 9, 3), (9, 188, 9, 11), (9, 195, 9, 31), (9, 231, 9, 34), (9, 244, 9, 54), (9, 248, 9, 55), (9, 258, 9, 45), (9, 261, 9, 46), (9, 264, 9, 47), (9, 267, 9, 48), (9, 273, 9, 40), (9, 290, 9, 53), (9, 293, 9, 49), (9, 296, 9, 50), (9, 299, 9, 51)]
/-- (class, place, the method, how many values it takes, 0 virtual 1 static 2 init 3 init of a nest mate 4 static of a nest mate) -/
def zML : List (Nat × Nat × Nat × Nat × Nat) := [(8, 18, 13, 1, 3), (8, 25, 0, 1, 3), (8, 35, 25, 1, 2), (8, 42, 29, 1, 3), (8, 49, 49, 1, 3), (8, 56, 63, 1, 3), (8, 63, 56, 1, 3), (8, 70, 39, 1, 3), (8, 79, 92, 1, 0), (8, 82, 91, 2, 0), (8, 86, 30, 3, 0), (8, 90, 26, 2, 0), (8, 97, 15, 2, 0), (8, 103, 18, 2, 0), (8, 119, 93, 2, 0), (8, 131, 17, 2, 0), (8, 134, 2, 2, 0), (8, 137, 19, 2, 0), (8, 155, 23, 3, 0), (8, 162, 1, 3, 0), (8, 166, 3, 2, 0), (8, 170, 21, 3, 0), (8, 184, 164, 1, 1), (8, 189, 50, 4, 0), (8, 199, 94, 3, 0), (8, 202, 52, 3, 0), (8, 206, 53, 3, 0), (8, 210, 95, 3, 0), (8, 214, 64, 3, 0), (8, 228, 58, 3, 0), (8, 244, 41, 3, 0), (8, 254, 42, 3, 0), (8, 267, 24, 2, 0), (8, 270, 20, 2, 0), (8, 273, 5, 2, 0), (8, 277, 6, 3, 0), (8, 281, 27, 2, 0), (8, 290, 89, 2, 0), (8, 293, 72, 3, 0), (8, 296, 71, 3, 0), (8, 299, 87, 2, 0), (8, 303, 57, 1, 0), (8, 306, 40, 1, 0), (8, 307, 51, 2, 0), (8, 310, 96, 3, 1), (0, 60, 19, 2, 0), (0, 66, 9, 5, 0), (0, 70, 7, 3, 0), (0, 77, 10, 3, 0), (0, 80, 11, 2, 0), (0, 84, 2, 2, 0), (0, 90, 12, 3, 0), (0, 94, 8, 3, 0), (0, 103, 22, 3, 0), (0, 107, 165, 2, 1), (1, 49, 165, 2, 1), (1, 61, 20, 2, 0), (2, 21, 13, 1, 3), (2, 22, 28, 1, 0), (2, 25, 15, 2, 0), (3, 11, 13, 1, 3), (3, 35, 14, 1, 0), (3, 41, 31, 1, 0), (3, 45, 16, 1, 0), (3, 48, 38, 1, 0), (3, 52, 34, 2, 0), (3, 56, 32, 2, 0), (3, 60, 17, 2, 0), (3, 63, 33, 2, 0), (3, 66, 36, 2, 0), (3, 70, 37, 2, 0), (3, 82, 164, 1, 1), (3, 90, 23, 3, 0), (3, 106, 35, 3, 0), (4, 33, 0, 1, 3), (4, 45, 44, 3, 0), (4, 49, 165, 2, 1), (4, 56, 47, 2, 0), (4, 60, 48, 2, 0), (4, 64, 45, 4, 0), (4, 73, 1, 3, 0), (4, 77, 43, 3, 0), (4, 87, 2, 2, 0), (4, 93, 21, 3, 0), (4, 97, 46, 2, 0), (4, 104, 3, 2, 0), (4, 108, 164, 1, 1), (5, 36, 4, 3, 0), (5, 42, 54, 3, 1), (5, 52, 55, 4, 0), (5, 56, 22, 3, 0), (6, 35, 0, 1, 3), (6, 42, 49, 1, 3), (6, 50, 165, 2, 1), (6, 61, 1, 3, 0), (6, 68, 61, 3, 0), (6, 72, 59, 3, 0), (6, 78, 21, 3, 0), (6, 82, 50, 4, 0), (6, 86, 60, 3, 0), (6, 95, 96, 3, 4), (6, 99, 62, 2, 0), (6, 103, 53, 3, 0), (6, 107, 52, 3, 0), (7, 27, 49, 1, 3), (7, 42, 21, 3, 0), (7, 46, 50, 4, 0), (7, 50, 65, 3, 0), (7, 57, 52, 3, 0), (7, 61, 53, 3, 0), (7, 68, 66, 4, 0), (9, 115, 118, 1, 0), (9, 118, 98, 3, 1), (9, 122, 99, 2, 0), (9, 130, 102, 2, 0), (9, 139, 103, 2, 0), (9, 143, 104, 2, 0), (9, 147, 105, 2, 0), (9, 156, 107, 2, 0), (9, 159, 108, 3, 0), (9, 163, 110, 2, 0), (9, 169, 109, 1, 0), (9, 172, 106, 1, 0), (9, 175, 111, 1, 0), (9, 179, 112, 1, 0), (9, 182, 115, 1, 0), (9, 191, 114, 2, 0), (9, 198, 117, 3, 0), (9, 202, 119, 2, 0), (9, 206, 123, 2, 0), (9, 209, 124, 2, 0), (9, 212, 121, 1, 0), (9, 215, 125, 2, 0), (9, 218, 122, 1, 0), (9, 221, 130, 1, 0), (9, 225, 132, 3, 0), (9, 228, 135, 2, 0), (9, 234, 137, 2, 0), (9, 237, 138, 2, 0), (9, 240, 120, 1, 0), (9, 251, 139, 2, 0), (9, 254, 141, 3, 0), (9, 270, 143, 1, 0), (9, 276, 148, 2, 0), (9, 279, 149, 3, 0), (9, 282, 147, 1, 0), (9, 285, 150, 2, 0), (9, 302, 152, 1, 0), (9, 305, 153, 1, 0), (9, 308, 154, 2, 0), (9, 311, 158, 2, 0), (9, 314, 157, 1, 0), (9, 317, 159, 2, 0), (9, 320, 161, 2, 0), (9, 327, 127, 3, 0), (9, 329, 126, 3, 0)]
def zOI : List (Nat × Nat) := [(0, 3), (1, 3), (2, 3), (3, 3), (4, 3), (5, 3), (6, 3), (7, 3), (8, 1), (9, 1)]
def zAC : List (Nat × Nat) := [(0, 116), (1, 55)]
def zAB : List (Nat × Nat) := [(5, 63)]
def zCK : List (Nat × Nat × Nat) := [(2, 9, 1), (3, 9, 1), (4, 31, 0), (6, 33, 0), (6, 40, 5), (7, 25, 5), (8, 16, 1), (8, 23, 0), (8, 33, 2), (8, 40, 3), (8, 47, 5), (8, 54, 7), (8, 61, 6), (8, 68, 4)]
def zCI : List (Nat × Nat × Int) := [(6, 111, -1640531535), (8, 227, 1000000), (10, 265, 1431655765), (10, 266, 858993459), (10, 267, 252645135)]
def zCJ : List (Nat × Nat × Int) := [(8, 286, 2267), (8, 288, 31), (9, 288, -1), (9, 323, 2267), (9, 325, 31)]
/-- which fields are final, which are boolean -/
def zfin (c j : Nat) : Bool := ([[false, false, false, false, false, false, true, true, true, true, true, true, true, false, false], [false, false, false, false, false, true, true, true, true, true, true, true], [true, false], [true, false, true, false, false, false, false], [false, false, false, true, false, true, true, false, false], [false, true, true, true, false], [false, false, false, false, true, true, true, true, false], [false, false, false, false, true], [true, true, false, true, true, true, true, true, true, true, true, true], [true, true, false, false, true, true, true, true, true, true, true, false, true, false, false, false, false, false, true, true, true, true, true, true, true, true, true, true, true, true, true, false, true, true, false, true, true, true, true, true, false, true, true, true, true, false, false, false, false, false, false, false, true, false, false, false]] : List (List Bool)).getD c [] |>.getD j false
def zboo (c j : Nat) : Bool := ([[false, true, false, false, false, false, false, false, false, false, false, false, false, false, false], [false, false, false, false, false, false, false, false, false, false, false, false], [false, false], [false, false, false, false, false, false, false], [false, false, false, false, false, false, false, true, true], [false, false, false, false, false], [false, true, false, false, false, false, false, false, false], [false, false, false, false, false], [false, false, false, false, false, false, false, false, false, false, false, false], [false, false, false, false, false, false, false, false, false, false, false, false, false, false, false, false, false, false, false, false, false, false, false, false, false, false, false, false, false, false, false, false, false, false, false, false, false, false, false, false, false, false, false, false, false, false, false, false, false, false, false, false, false, false, false, false]] : List (List Bool)).getD c [] |>.getD j false
/-- the words that every method has: the good ones of the tables -/
def zwl : List Cond := lw_tbl.filter goodWord
/-- names of the classes by number -/
def zcn : List String := [RX0, RX1, RX2, RX3, RX4, RX5, RX6, RX7, RX8, RX9, RJ6, RJ7]
def zcnm (c : Nat) : String := zcn.getD c ""
def zTs : List u_T := [TX0, TX1, TX2, TX3, TX4, TX5, TX6, TX7, TX8, TX9]
def zTT (c : Nat) : u_T := zTs.getD c TX0
def zmd (k : Nat) : zMt := zms0.getD k (⟨"", "", ""⟩, ⟨#[]⟩, 0, none)
def zy (k : Nat) : MethodName := (zmd k).1
def zb (k : Nat) : ByteArray := (zmd k).2.1
def zrt0 (k : Nat) : Option FieldType := (zmd k).2.2.2
theorem zwl_at {w : Cond} (p : Nat) (h : tables_1[p]? = some w) (g : goodWord w = true) : w ∈ zwl := List.mem_filter.mpr ⟨List.mem_append_right _ (List.mem_of_getElem? h), g⟩
theorem zwl_tb {w : Cond} (h : w ∈ zwl) : w ∈ lw_tbl := (List.mem_filter.mp h).1
/-- rows of words by their places -/
def zat (ps : List Nat) (ws : List Cond) : Bool := match ps, ws with
  | [], [] => true
  | p :: ps, w :: ws => decide (tables_1[p]? = some w) && (goodWord w && zat ps ws)
  | _, _ => false
theorem zat_ok : ∀ {ps : List Nat} {ws : List Cond}, zat ps ws = true → ∀ w ∈ ws, w ∈ zwl
  | [], [], _, _, h => by cases h
  | p :: ps, w :: ws, h, v, hv => by
    simp only [zat, Bool.and_eq_true, decide_eq_true_eq] at h
    rcases List.mem_cons.mp hv with rfl | hv
    · exact zwl_at p h.1 h.2.1
    · exact zat_ok h.2.2 v hv
  | [], _ :: _, h, _, _ => by cases h
  | _ :: _, [], h, _, _ => by cases h
def zFw (e : Nat × Nat × Nat × Nat) : Cond := .fieldLink (zcnm e.1) e.2.1 (zcnm e.2.2.1) (zTT e.2.2.1 e.2.2.2).2.1 (zTT e.2.2.1 e.2.2.2).2.2.1
theorem zFL_a : zat [109, 112, 115, 117, 119, 122, 125, 127, 130, 133, 135, 138, 140, 141, 142, 30, 40, 74, 76, 52, 72, 67, 29, 33, 35, 42, 47, 49, 53, 58, 63, 68, 73, 75, 183, 184, 199, 201, 203, 205, 206, 207, 204, 31, 50, 34, 39, 57, 62, 66, 71, 45, 328, 330, 332, 334, 335, 336, 337, 338, 339, 120, 44, 38, 55, 60, 113, 229, 233, 237, 238, 239, 54, 59, 131, 128, 64, 69, 137, 288, 290, 292, 294, 296, 297, 298, 299, 300, 43, 123, 37, 231, 111, 235, 259, 261, 263, 265, 266, 36, 110, 230, 234, 413, 414, 416, 417, 418, 419, 420, 421, 422, 423, 424, 415, 200, 202, 56, 61, 65, 70, 136, 139, 118, 51, 126, 129, 132, 134, 46, 114, 121, 48, 232, 236, 260, 262, 264, 291, 289, 293, 295, 329, 331, 333, 124, 32, 116, 185, 41, 810, 811, 814, 815, 816, 817, 818, 819, 820, 822, 828, 829, 830, 831, 832, 833, 834, 835, 836, 837, 838, 839, 840, 842, 843, 845, 846, 847, 848, 849, 851, 852, 853, 854, 862, 812, 824, 823, 826, 825, 827, 813, 821, 841, 844, 864, 865, 855, 856, 857, 858, 850, 863, 859, 860, 861] (zFL.map zFw) = true := by decide +kernel
theorem zFL_in : ∀ e ∈ zFL, zFw e ∈ zwl := fun e h => zat_ok zFL_a _ (List.mem_map_of_mem h)
def zks : List Nat := List.range 166
theorem zk_mem (k q : Nat) (h : k < q + 60) (hq : q ≤ k) (hk : k < 166) : k ∈ (zks.drop q).take 60 := by
  have e : ((zks.drop q).take 60)[k - q]? = some k := by
    rw [List.getElem?_take_of_lt (by omega), List.getElem?_drop, show q + (k - q) = k by omega]
    exact List.getElem?_range hk
  exact List.mem_of_getElem? e
def zcw (k : Nat) : Cond := .code (zy k) (zb k) (zml k) (zrt0 k)
set_option maxRecDepth 20000 in
theorem zcw_0 : zcw 0 ∈ zwl := zwl_at 107 (by with_unfolding_all rfl) rfl
set_option maxRecDepth 20000 in
theorem zcw_1 : zcw 1 ∈ zwl := zwl_at 366 (by with_unfolding_all rfl) rfl
set_option maxRecDepth 20000 in
theorem zcw_2 : zcw 2 ∈ zwl := zwl_at 559 (by with_unfolding_all rfl) rfl
set_option maxRecDepth 20000 in
theorem zcw_3 : zcw 3 ∈ zwl := zwl_at 573 (by with_unfolding_all rfl) rfl
set_option maxRecDepth 20000 in
theorem zcw_4 : zcw 4 ∈ zwl := zwl_at 610 (by with_unfolding_all rfl) rfl
set_option maxRecDepth 20000 in
theorem zcw_5 : zcw 5 ∈ zwl := zwl_at 769 (by with_unfolding_all rfl) rfl
set_option maxRecDepth 20000 in
theorem zcw_6 : zcw 6 ∈ zwl := zwl_at 773 (by with_unfolding_all rfl) rfl
set_option maxRecDepth 20000 in
theorem zcw_7 : zcw 7 ∈ zwl := zwl_at 378 (by with_unfolding_all rfl) rfl
set_option maxRecDepth 20000 in
theorem zcw_8 : zcw 8 ∈ zwl := zwl_at 382 (by with_unfolding_all rfl) rfl
set_option maxRecDepth 20000 in
theorem zcw_9 : zcw 9 ∈ zwl := zwl_at 374 (by with_unfolding_all rfl) rfl
set_option maxRecDepth 20000 in
theorem zcw_10 : zcw 10 ∈ zwl := zwl_at 390 (by with_unfolding_all rfl) rfl
set_option maxRecDepth 20000 in
theorem zcw_11 : zcw 11 ∈ zwl := zwl_at 400 (by with_unfolding_all rfl) rfl
set_option maxRecDepth 20000 in
theorem zcw_12 : zcw 12 ∈ zwl := zwl_at 404 (by with_unfolding_all rfl) rfl
set_option maxRecDepth 20000 in
theorem zcw_13 : zcw 13 ∈ zwl := zwl_at 27 (by with_unfolding_all rfl) rfl
set_option maxRecDepth 20000 in
theorem zcw_14 : zcw 14 ∈ zwl := zwl_at 473 (by with_unfolding_all rfl) rfl
set_option maxRecDepth 20000 in
theorem zcw_15 : zcw 15 ∈ zwl := zwl_at 536 (by with_unfolding_all rfl) rfl
set_option maxRecDepth 20000 in
theorem zcw_16 : zcw 16 ∈ zwl := zwl_at 524 (by with_unfolding_all rfl) rfl
set_option maxRecDepth 20000 in
theorem zcw_17 : zcw 17 ∈ zwl := zwl_at 490 (by with_unfolding_all rfl) rfl
set_option maxRecDepth 20000 in
theorem zcw_18 : zcw 18 ∈ zwl := zwl_at 546 (by with_unfolding_all rfl) rfl
set_option maxRecDepth 20000 in
theorem zcw_19 : zcw 19 ∈ zwl := zwl_at 370 (by with_unfolding_all rfl) rfl
set_option maxRecDepth 20000 in
theorem zcw_20 : zcw 20 ∈ zwl := zwl_at 585 (by with_unfolding_all rfl) rfl
set_option maxRecDepth 20000 in
theorem zcw_21 : zcw 21 ∈ zwl := zwl_at 581 (by with_unfolding_all rfl) rfl
set_option maxRecDepth 20000 in
theorem zcw_22 : zcw 22 ∈ zwl := zwl_at 386 (by with_unfolding_all rfl) rfl
set_option maxRecDepth 20000 in
theorem zcw_23 : zcw 23 ∈ zwl := zwl_at 494 (by with_unfolding_all rfl) rfl
set_option maxRecDepth 20000 in
theorem zcw_24 : zcw 24 ∈ zwl := zwl_at 764 (by with_unfolding_all rfl) rfl
set_option maxRecDepth 20000 in
theorem zcw_25 : zcw 25 ∈ zwl := zwl_at 178 (by with_unfolding_all rfl) rfl
set_option maxRecDepth 20000 in
theorem zcw_26 : zcw 26 ∈ zwl := zwl_at 528 (by with_unfolding_all rfl) rfl
set_option maxRecDepth 20000 in
theorem zcw_27 : zcw 27 ∈ zwl := zwl_at 781 (by with_unfolding_all rfl) rfl
set_option maxRecDepth 20000 in
theorem zcw_28 : zcw 28 ∈ zwl := zwl_at 532 (by with_unfolding_all rfl) rfl
set_option maxRecDepth 20000 in
theorem zcw_29 : zcw 29 ∈ zwl := zwl_at 195 (by with_unfolding_all rfl) rfl
set_option maxRecDepth 20000 in
theorem zcw_30 : zcw 30 ∈ zwl := zwl_at 469 (by with_unfolding_all rfl) rfl
set_option maxRecDepth 20000 in
theorem zcw_31 : zcw 31 ∈ zwl := zwl_at 478 (by with_unfolding_all rfl) rfl
set_option maxRecDepth 20000 in
theorem zcw_32 : zcw 32 ∈ zwl := zwl_at 510 (by with_unfolding_all rfl) rfl
set_option maxRecDepth 20000 in
theorem zcw_33 : zcw 33 ∈ zwl := zwl_at 514 (by with_unfolding_all rfl) rfl
set_option maxRecDepth 20000 in
theorem zcw_34 : zcw 34 ∈ zwl := zwl_at 486 (by with_unfolding_all rfl) rfl
set_option maxRecDepth 20000 in
theorem zcw_35 : zcw 35 ∈ zwl := zwl_at 506 (by with_unfolding_all rfl) rfl
set_option maxRecDepth 20000 in
theorem zcw_36 : zcw 36 ∈ zwl := zwl_at 498 (by with_unfolding_all rfl) rfl
set_option maxRecDepth 20000 in
theorem zcw_37 : zcw 37 ∈ zwl := zwl_at 502 (by with_unfolding_all rfl) rfl
set_option maxRecDepth 20000 in
theorem zcw_38 : zcw 38 ∈ zwl := zwl_at 482 (by with_unfolding_all rfl) rfl
set_option maxRecDepth 20000 in
theorem zcw_39 : zcw 39 ∈ zwl := zwl_at 324 (by with_unfolding_all rfl) rfl
set_option maxRecDepth 20000 in
theorem zcw_40 : zcw 40 ∈ zwl := zwl_at 412 (by with_unfolding_all rfl) rfl
set_option maxRecDepth 20000 in
theorem zcw_41 : zcw 41 ∈ zwl := zwl_at 718 (by with_unfolding_all rfl) rfl
set_option maxRecDepth 20000 in
theorem zcw_42 : zcw 42 ∈ zwl := zwl_at 748 (by with_unfolding_all rfl) rfl
set_option maxRecDepth 20000 in
theorem zcw_43 : zcw 43 ∈ zwl := zwl_at 752 (by with_unfolding_all rfl) rfl
set_option maxRecDepth 20000 in
theorem zcw_44 : zcw 44 ∈ zwl := zwl_at 722 (by with_unfolding_all rfl) rfl
set_option maxRecDepth 20000 in
theorem zcw_45 : zcw 45 ∈ zwl := zwl_at 737 (by with_unfolding_all rfl) rfl
set_option maxRecDepth 20000 in
theorem zcw_46 : zcw 46 ∈ zwl := zwl_at 741 (by with_unfolding_all rfl) rfl
set_option maxRecDepth 20000 in
theorem zcw_47 : zcw 47 ∈ zwl := zwl_at 729 (by with_unfolding_all rfl) rfl
set_option maxRecDepth 20000 in
theorem zcw_48 : zcw 48 ∈ zwl := zwl_at 733 (by with_unfolding_all rfl) rfl
set_option maxRecDepth 20000 in
theorem zcw_49 : zcw 49 ∈ zwl := zwl_at 227 (by with_unfolding_all rfl) rfl
set_option maxRecDepth 20000 in
theorem zcw_50 : zcw 50 ∈ zwl := zwl_at 606 (by with_unfolding_all rfl) rfl
set_option maxRecDepth 20000 in
theorem zcw_51 : zcw 51 ∈ zwl := zwl_at 631 (by with_unfolding_all rfl) rfl
set_option maxRecDepth 20000 in
theorem zcw_52 : zcw 52 ∈ zwl := zwl_at 635 (by with_unfolding_all rfl) rfl
set_option maxRecDepth 20000 in
theorem zcw_53 : zcw 53 ∈ zwl := zwl_at 643 (by with_unfolding_all rfl) rfl
set_option maxRecDepth 20000 in
theorem zcw_54 : zcw 54 ∈ zwl := zwl_at 614 (by with_unfolding_all rfl) rfl
set_option maxRecDepth 20000 in
theorem zcw_55 : zcw 55 ∈ zwl := zwl_at 618 (by with_unfolding_all rfl) rfl
set_option maxRecDepth 20000 in
theorem zcw_56 : zcw 56 ∈ zwl := zwl_at 282 (by with_unfolding_all rfl) rfl
set_option maxRecDepth 20000 in
theorem zcw_57 : zcw 57 ∈ zwl := zwl_at 408 (by with_unfolding_all rfl) rfl
set_option maxRecDepth 20000 in
theorem zcw_58 : zcw 58 ∈ zwl := zwl_at 686 (by with_unfolding_all rfl) rfl
set_option maxRecDepth 20000 in
theorem zcw_59 : zcw 59 ∈ zwl := zwl_at 701 (by with_unfolding_all rfl) rfl
set_option maxRecDepth 20000 in
theorem zcw_60 : zcw 60 ∈ zwl := zwl_at 707 (by with_unfolding_all rfl) rfl
set_option maxRecDepth 20000 in
theorem zcw_61 : zcw 61 ∈ zwl := zwl_at 692 (by with_unfolding_all rfl) rfl
set_option maxRecDepth 20000 in
theorem zcw_62 : zcw 62 ∈ zwl := zwl_at 696 (by with_unfolding_all rfl) rfl
set_option maxRecDepth 20000 in
theorem zcw_63 : zcw 63 ∈ zwl := zwl_at 255 (by with_unfolding_all rfl) rfl
set_option maxRecDepth 20000 in
theorem zcw_64 : zcw 64 ∈ zwl := zwl_at 657 (by with_unfolding_all rfl) rfl
set_option maxRecDepth 20000 in
theorem zcw_65 : zcw 65 ∈ zwl := zwl_at 663 (by with_unfolding_all rfl) rfl
set_option maxRecDepth 20000 in
theorem zcw_66 : zcw 66 ∈ zwl := zwl_at 669 (by with_unfolding_all rfl) rfl
set_option maxRecDepth 20000 in
theorem zcw_67 : zcw 67 ∈ zwl := zwl_at 19 (by with_unfolding_all rfl) rfl
set_option maxRecDepth 20000 in
theorem zcw_68 : zcw 68 ∈ zwl := zwl_at 453 (by with_unfolding_all rfl) rfl
set_option maxRecDepth 20000 in
theorem zcw_69 : zcw 69 ∈ zwl := zwl_at 461 (by with_unfolding_all rfl) rfl
set_option maxRecDepth 20000 in
theorem zcw_70 : zcw 70 ∈ zwl := zwl_at 465 (by with_unfolding_all rfl) rfl
set_option maxRecDepth 20000 in
theorem zcw_71 : zcw 71 ∈ zwl := zwl_at 542 (by with_unfolding_all rfl) rfl
set_option maxRecDepth 20000 in
theorem zcw_72 : zcw 72 ∈ zwl := zwl_at 554 (by with_unfolding_all rfl) rfl
set_option maxRecDepth 20000 in
theorem zcw_73 : zcw 73 ∈ zwl := zwl_at 564 (by with_unfolding_all rfl) rfl
set_option maxRecDepth 20000 in
theorem zcw_74 : zcw 74 ∈ zwl := zwl_at 569 (by with_unfolding_all rfl) rfl
set_option maxRecDepth 20000 in
theorem zcw_75 : zcw 75 ∈ zwl := zwl_at 577 (by with_unfolding_all rfl) rfl
set_option maxRecDepth 20000 in
theorem zcw_76 : zcw 76 ∈ zwl := zwl_at 589 (by with_unfolding_all rfl) rfl
set_option maxRecDepth 20000 in
theorem zcw_77 : zcw 77 ∈ zwl := zwl_at 593 (by with_unfolding_all rfl) rfl
set_option maxRecDepth 20000 in
theorem zcw_78 : zcw 78 ∈ zwl := zwl_at 597 (by with_unfolding_all rfl) rfl
set_option maxRecDepth 20000 in
theorem zcw_79 : zcw 79 ∈ zwl := zwl_at 602 (by with_unfolding_all rfl) rfl
set_option maxRecDepth 20000 in
theorem zcw_80 : zcw 80 ∈ zwl := zwl_at 623 (by with_unfolding_all rfl) rfl
set_option maxRecDepth 20000 in
theorem zcw_81 : zcw 81 ∈ zwl := zwl_at 639 (by with_unfolding_all rfl) rfl
set_option maxRecDepth 20000 in
theorem zcw_82 : zcw 82 ∈ zwl := zwl_at 673 (by with_unfolding_all rfl) rfl
set_option maxRecDepth 20000 in
theorem zcw_83 : zcw 83 ∈ zwl := zwl_at 677 (by with_unfolding_all rfl) rfl
set_option maxRecDepth 20000 in
theorem zcw_84 : zcw 84 ∈ zwl := zwl_at 682 (by with_unfolding_all rfl) rfl
set_option maxRecDepth 20000 in
theorem zcw_85 : zcw 85 ∈ zwl := zwl_at 714 (by with_unfolding_all rfl) rfl
set_option maxRecDepth 20000 in
theorem zcw_86 : zcw 86 ∈ zwl := zwl_at 756 (by with_unfolding_all rfl) rfl
set_option maxRecDepth 20000 in
theorem zcw_87 : zcw 87 ∈ zwl := zwl_at 760 (by with_unfolding_all rfl) rfl
set_option maxRecDepth 20000 in
theorem zcw_88 : zcw 88 ∈ zwl := zwl_at 777 (by with_unfolding_all rfl) rfl
set_option maxRecDepth 20000 in
theorem zcw_89 : zcw 89 ∈ zwl := zwl_at 785 (by with_unfolding_all rfl) rfl
set_option maxRecDepth 20000 in
theorem zcw_90 : zcw 90 ∈ zwl := zwl_at 789 (by with_unfolding_all rfl) rfl
set_option maxRecDepth 20000 in
theorem zcw_91 : zcw 91 ∈ zwl := zwl_at 457 (by with_unfolding_all rfl) rfl
set_option maxRecDepth 20000 in
theorem zcw_92 : zcw 92 ∈ zwl := zwl_at 362 (by with_unfolding_all rfl) rfl
set_option maxRecDepth 20000 in
theorem zcw_93 : zcw 93 ∈ zwl := zwl_at 550 (by with_unfolding_all rfl) rfl
set_option maxRecDepth 20000 in
theorem zcw_94 : zcw 94 ∈ zwl := zwl_at 627 (by with_unfolding_all rfl) rfl
set_option maxRecDepth 20000 in
theorem zcw_95 : zcw 95 ∈ zwl := zwl_at 650 (by with_unfolding_all rfl) rfl
set_option maxRecDepth 20000 in
theorem zcw_96 : zcw 96 ∈ zwl := zwl_at 653 (by with_unfolding_all rfl) rfl
set_option maxRecDepth 20000 in
theorem zcw_97 : zcw 97 ∈ zwl := zwl_at 800 (by with_unfolding_all rfl) rfl
set_option maxRecDepth 20000 in
theorem zcw_98 : zcw 98 ∈ zwl := zwl_at 985 (by with_unfolding_all rfl) rfl
set_option maxRecDepth 20000 in
theorem zcw_99 : zcw 99 ∈ zwl := zwl_at 989 (by with_unfolding_all rfl) rfl
set_option maxRecDepth 20000 in
theorem zcw_100 : zcw 100 ∈ zwl := zwl_at 982 (by with_unfolding_all rfl) rfl
set_option maxRecDepth 20000 in
theorem zcw_101 : zcw 101 ∈ zwl := zwl_at 993 (by with_unfolding_all rfl) rfl
set_option maxRecDepth 20000 in
theorem zcw_102 : zcw 102 ∈ zwl := zwl_at 1005 (by with_unfolding_all rfl) rfl
set_option maxRecDepth 20000 in
theorem zcw_103 : zcw 103 ∈ zwl := zwl_at 1029 (by with_unfolding_all rfl) rfl
set_option maxRecDepth 20000 in
theorem zcw_104 : zcw 104 ∈ zwl := zwl_at 1013 (by with_unfolding_all rfl) rfl
set_option maxRecDepth 20000 in
theorem zcw_105 : zcw 105 ∈ zwl := zwl_at 1025 (by with_unfolding_all rfl) rfl
set_option maxRecDepth 20000 in
theorem zcw_106 : zcw 106 ∈ zwl := zwl_at 1033 (by with_unfolding_all rfl) rfl
set_option maxRecDepth 20000 in
theorem zcw_107 : zcw 107 ∈ zwl := zwl_at 1017 (by with_unfolding_all rfl) rfl
set_option maxRecDepth 20000 in
theorem zcw_108 : zcw 108 ∈ zwl := zwl_at 1021 (by with_unfolding_all rfl) rfl
set_option maxRecDepth 20000 in
theorem zcw_109 : zcw 109 ∈ zwl := zwl_at 1009 (by with_unfolding_all rfl) rfl
set_option maxRecDepth 20000 in
theorem zcw_110 : zcw 110 ∈ zwl := zwl_at 1041 (by with_unfolding_all rfl) rfl
set_option maxRecDepth 20000 in
theorem zcw_111 : zcw 111 ∈ zwl := zwl_at 1037 (by with_unfolding_all rfl) rfl
set_option maxRecDepth 20000 in
theorem zcw_112 : zcw 112 ∈ zwl := zwl_at 1001 (by with_unfolding_all rfl) rfl
set_option maxRecDepth 20000 in
theorem zcw_113 : zcw 113 ∈ zwl := zwl_at 997 (by with_unfolding_all rfl) rfl
set_option maxRecDepth 20000 in
theorem zcw_114 : zcw 114 ∈ zwl := zwl_at 1049 (by with_unfolding_all rfl) rfl
set_option maxRecDepth 20000 in
theorem zcw_115 : zcw 115 ∈ zwl := zwl_at 1045 (by with_unfolding_all rfl) rfl
set_option maxRecDepth 20000 in
theorem zcw_116 : zcw 116 ∈ zwl := zwl_at 1053 (by with_unfolding_all rfl) rfl
set_option maxRecDepth 20000 in
theorem zcw_117 : zcw 117 ∈ zwl := zwl_at 809 (by with_unfolding_all rfl) rfl
set_option maxRecDepth 20000 in
theorem zcw_118 : zcw 118 ∈ zwl := zwl_at 805 (by with_unfolding_all rfl) rfl
set_option maxRecDepth 20000 in
theorem zcw_119 : zcw 119 ∈ zwl := zwl_at 1145 (by with_unfolding_all rfl) rfl
set_option maxRecDepth 20000 in
theorem zcw_120 : zcw 120 ∈ zwl := zwl_at 1141 (by with_unfolding_all rfl) rfl
set_option maxRecDepth 20000 in
theorem zcw_121 : zcw 121 ∈ zwl := zwl_at 1081 (by with_unfolding_all rfl) rfl
set_option maxRecDepth 20000 in
theorem zcw_122 : zcw 122 ∈ zwl := zwl_at 1093 (by with_unfolding_all rfl) rfl
set_option maxRecDepth 20000 in
theorem zcw_123 : zcw 123 ∈ zwl := zwl_at 1061 (by with_unfolding_all rfl) rfl
set_option maxRecDepth 20000 in
theorem zcw_124 : zcw 124 ∈ zwl := zwl_at 1069 (by with_unfolding_all rfl) rfl
set_option maxRecDepth 20000 in
theorem zcw_125 : zcw 125 ∈ zwl := zwl_at 1089 (by with_unfolding_all rfl) rfl
set_option maxRecDepth 20000 in
theorem zcw_126 : zcw 126 ∈ zwl := zwl_at 1057 (by with_unfolding_all rfl) rfl
set_option maxRecDepth 20000 in
theorem zcw_127 : zcw 127 ∈ zwl := zwl_at 1065 (by with_unfolding_all rfl) rfl
set_option maxRecDepth 20000 in
theorem zcw_128 : zcw 128 ∈ zwl := zwl_at 1073 (by with_unfolding_all rfl) rfl
set_option maxRecDepth 20000 in
theorem zcw_129 : zcw 129 ∈ zwl := zwl_at 1077 (by with_unfolding_all rfl) rfl
set_option maxRecDepth 20000 in
theorem zcw_130 : zcw 130 ∈ zwl := zwl_at 1097 (by with_unfolding_all rfl) rfl
set_option maxRecDepth 20000 in
theorem zcw_131 : zcw 131 ∈ zwl := zwl_at 1085 (by with_unfolding_all rfl) rfl
set_option maxRecDepth 20000 in
theorem zcw_132 : zcw 132 ∈ zwl := zwl_at 1105 (by with_unfolding_all rfl) rfl
set_option maxRecDepth 20000 in
theorem zcw_133 : zcw 133 ∈ zwl := zwl_at 1101 (by with_unfolding_all rfl) rfl
set_option maxRecDepth 20000 in
theorem zcw_134 : zcw 134 ∈ zwl := zwl_at 1109 (by with_unfolding_all rfl) rfl
set_option maxRecDepth 20000 in
theorem zcw_135 : zcw 135 ∈ zwl := zwl_at 1117 (by with_unfolding_all rfl) rfl
set_option maxRecDepth 20000 in
theorem zcw_136 : zcw 136 ∈ zwl := zwl_at 1113 (by with_unfolding_all rfl) rfl
set_option maxRecDepth 20000 in
theorem zcw_137 : zcw 137 ∈ zwl := zwl_at 1129 (by with_unfolding_all rfl) rfl
set_option maxRecDepth 20000 in
theorem zcw_138 : zcw 138 ∈ zwl := zwl_at 1125 (by with_unfolding_all rfl) rfl
set_option maxRecDepth 20000 in
theorem zcw_139 : zcw 139 ∈ zwl := zwl_at 1137 (by with_unfolding_all rfl) rfl
set_option maxRecDepth 20000 in
theorem zcw_140 : zcw 140 ∈ zwl := zwl_at 1121 (by with_unfolding_all rfl) rfl
set_option maxRecDepth 20000 in
theorem zcw_141 : zcw 141 ∈ zwl := zwl_at 1149 (by with_unfolding_all rfl) rfl
set_option maxRecDepth 20000 in
theorem zcw_142 : zcw 142 ∈ zwl := zwl_at 1133 (by with_unfolding_all rfl) rfl
set_option maxRecDepth 20000 in
theorem zcw_143 : zcw 143 ∈ zwl := zwl_at 1157 (by with_unfolding_all rfl) rfl
set_option maxRecDepth 20000 in
theorem zcw_144 : zcw 144 ∈ zwl := zwl_at 1153 (by with_unfolding_all rfl) rfl
set_option maxRecDepth 20000 in
theorem zcw_145 : zcw 145 ∈ zwl := zwl_at 1161 (by with_unfolding_all rfl) rfl
set_option maxRecDepth 20000 in
theorem zcw_146 : zcw 146 ∈ zwl := zwl_at 1165 (by with_unfolding_all rfl) rfl
set_option maxRecDepth 20000 in
theorem zcw_147 : zcw 147 ∈ zwl := zwl_at 1173 (by with_unfolding_all rfl) rfl
set_option maxRecDepth 20000 in
theorem zcw_148 : zcw 148 ∈ zwl := zwl_at 1185 (by with_unfolding_all rfl) rfl
set_option maxRecDepth 20000 in
theorem zcw_149 : zcw 149 ∈ zwl := zwl_at 1177 (by with_unfolding_all rfl) rfl
set_option maxRecDepth 20000 in
theorem zcw_150 : zcw 150 ∈ zwl := zwl_at 1181 (by with_unfolding_all rfl) rfl
set_option maxRecDepth 20000 in
theorem zcw_151 : zcw 151 ∈ zwl := zwl_at 1169 (by with_unfolding_all rfl) rfl
set_option maxRecDepth 20000 in
theorem zcw_152 : zcw 152 ∈ zwl := zwl_at 1194 (by with_unfolding_all rfl) rfl
set_option maxRecDepth 20000 in
theorem zcw_153 : zcw 153 ∈ zwl := zwl_at 1198 (by with_unfolding_all rfl) rfl
set_option maxRecDepth 20000 in
theorem zcw_154 : zcw 154 ∈ zwl := zwl_at 1202 (by with_unfolding_all rfl) rfl
set_option maxRecDepth 20000 in
theorem zcw_155 : zcw 155 ∈ zwl := zwl_at 1190 (by with_unfolding_all rfl) rfl
set_option maxRecDepth 20000 in
theorem zcw_156 : zcw 156 ∈ zwl := zwl_at 1206 (by with_unfolding_all rfl) rfl
set_option maxRecDepth 20000 in
theorem zcw_157 : zcw 157 ∈ zwl := zwl_at 1222 (by with_unfolding_all rfl) rfl
set_option maxRecDepth 20000 in
theorem zcw_158 : zcw 158 ∈ zwl := zwl_at 1218 (by with_unfolding_all rfl) rfl
set_option maxRecDepth 20000 in
theorem zcw_159 : zcw 159 ∈ zwl := zwl_at 1214 (by with_unfolding_all rfl) rfl
set_option maxRecDepth 20000 in
theorem zcw_160 : zcw 160 ∈ zwl := zwl_at 1210 (by with_unfolding_all rfl) rfl
set_option maxRecDepth 20000 in
theorem zcw_161 : zcw 161 ∈ zwl := zwl_at 1230 (by with_unfolding_all rfl) rfl
set_option maxRecDepth 20000 in
theorem zcw_162 : zcw 162 ∈ zwl := zwl_at 1226 (by with_unfolding_all rfl) rfl
set_option maxRecDepth 20000 in
theorem zcw_163 : zcw 163 ∈ zwl := zwl_at 1234 (by with_unfolding_all rfl) rfl
set_option maxRecDepth 20000 in
theorem zcw_164 : zcw 164 ∈ zwl := zwl_at 517 (by with_unfolding_all rfl) rfl
set_option maxRecDepth 20000 in
theorem zcw_165 : zcw 165 ∈ zwl := zwl_at 393 (by with_unfolding_all rfl) rfl
theorem zcw_in : ∀ k, k < 166 → zcw k ∈ zwl := by
  intro k hk
  match k, hk with
  | 0, _ => exact zcw_0
  | 1, _ => exact zcw_1
  | 2, _ => exact zcw_2
  | 3, _ => exact zcw_3
  | 4, _ => exact zcw_4
  | 5, _ => exact zcw_5
  | 6, _ => exact zcw_6
  | 7, _ => exact zcw_7
  | 8, _ => exact zcw_8
  | 9, _ => exact zcw_9
  | 10, _ => exact zcw_10
  | 11, _ => exact zcw_11
  | 12, _ => exact zcw_12
  | 13, _ => exact zcw_13
  | 14, _ => exact zcw_14
  | 15, _ => exact zcw_15
  | 16, _ => exact zcw_16
  | 17, _ => exact zcw_17
  | 18, _ => exact zcw_18
  | 19, _ => exact zcw_19
  | 20, _ => exact zcw_20
  | 21, _ => exact zcw_21
  | 22, _ => exact zcw_22
  | 23, _ => exact zcw_23
  | 24, _ => exact zcw_24
  | 25, _ => exact zcw_25
  | 26, _ => exact zcw_26
  | 27, _ => exact zcw_27
  | 28, _ => exact zcw_28
  | 29, _ => exact zcw_29
  | 30, _ => exact zcw_30
  | 31, _ => exact zcw_31
  | 32, _ => exact zcw_32
  | 33, _ => exact zcw_33
  | 34, _ => exact zcw_34
  | 35, _ => exact zcw_35
  | 36, _ => exact zcw_36
  | 37, _ => exact zcw_37
  | 38, _ => exact zcw_38
  | 39, _ => exact zcw_39
  | 40, _ => exact zcw_40
  | 41, _ => exact zcw_41
  | 42, _ => exact zcw_42
  | 43, _ => exact zcw_43
  | 44, _ => exact zcw_44
  | 45, _ => exact zcw_45
  | 46, _ => exact zcw_46
  | 47, _ => exact zcw_47
  | 48, _ => exact zcw_48
  | 49, _ => exact zcw_49
  | 50, _ => exact zcw_50
  | 51, _ => exact zcw_51
  | 52, _ => exact zcw_52
  | 53, _ => exact zcw_53
  | 54, _ => exact zcw_54
  | 55, _ => exact zcw_55
  | 56, _ => exact zcw_56
  | 57, _ => exact zcw_57
  | 58, _ => exact zcw_58
  | 59, _ => exact zcw_59
  | 60, _ => exact zcw_60
  | 61, _ => exact zcw_61
  | 62, _ => exact zcw_62
  | 63, _ => exact zcw_63
  | 64, _ => exact zcw_64
  | 65, _ => exact zcw_65
  | 66, _ => exact zcw_66
  | 67, _ => exact zcw_67
  | 68, _ => exact zcw_68
  | 69, _ => exact zcw_69
  | 70, _ => exact zcw_70
  | 71, _ => exact zcw_71
  | 72, _ => exact zcw_72
  | 73, _ => exact zcw_73
  | 74, _ => exact zcw_74
  | 75, _ => exact zcw_75
  | 76, _ => exact zcw_76
  | 77, _ => exact zcw_77
  | 78, _ => exact zcw_78
  | 79, _ => exact zcw_79
  | 80, _ => exact zcw_80
  | 81, _ => exact zcw_81
  | 82, _ => exact zcw_82
  | 83, _ => exact zcw_83
  | 84, _ => exact zcw_84
  | 85, _ => exact zcw_85
  | 86, _ => exact zcw_86
  | 87, _ => exact zcw_87
  | 88, _ => exact zcw_88
  | 89, _ => exact zcw_89
  | 90, _ => exact zcw_90
  | 91, _ => exact zcw_91
  | 92, _ => exact zcw_92
  | 93, _ => exact zcw_93
  | 94, _ => exact zcw_94
  | 95, _ => exact zcw_95
  | 96, _ => exact zcw_96
  | 97, _ => exact zcw_97
  | 98, _ => exact zcw_98
  | 99, _ => exact zcw_99
  | 100, _ => exact zcw_100
  | 101, _ => exact zcw_101
  | 102, _ => exact zcw_102
  | 103, _ => exact zcw_103
  | 104, _ => exact zcw_104
  | 105, _ => exact zcw_105
  | 106, _ => exact zcw_106
  | 107, _ => exact zcw_107
  | 108, _ => exact zcw_108
  | 109, _ => exact zcw_109
  | 110, _ => exact zcw_110
  | 111, _ => exact zcw_111
  | 112, _ => exact zcw_112
  | 113, _ => exact zcw_113
  | 114, _ => exact zcw_114
  | 115, _ => exact zcw_115
  | 116, _ => exact zcw_116
  | 117, _ => exact zcw_117
  | 118, _ => exact zcw_118
  | 119, _ => exact zcw_119
  | 120, _ => exact zcw_120
  | 121, _ => exact zcw_121
  | 122, _ => exact zcw_122
  | 123, _ => exact zcw_123
  | 124, _ => exact zcw_124
  | 125, _ => exact zcw_125
  | 126, _ => exact zcw_126
  | 127, _ => exact zcw_127
  | 128, _ => exact zcw_128
  | 129, _ => exact zcw_129
  | 130, _ => exact zcw_130
  | 131, _ => exact zcw_131
  | 132, _ => exact zcw_132
  | 133, _ => exact zcw_133
  | 134, _ => exact zcw_134
  | 135, _ => exact zcw_135
  | 136, _ => exact zcw_136
  | 137, _ => exact zcw_137
  | 138, _ => exact zcw_138
  | 139, _ => exact zcw_139
  | 140, _ => exact zcw_140
  | 141, _ => exact zcw_141
  | 142, _ => exact zcw_142
  | 143, _ => exact zcw_143
  | 144, _ => exact zcw_144
  | 145, _ => exact zcw_145
  | 146, _ => exact zcw_146
  | 147, _ => exact zcw_147
  | 148, _ => exact zcw_148
  | 149, _ => exact zcw_149
  | 150, _ => exact zcw_150
  | 151, _ => exact zcw_151
  | 152, _ => exact zcw_152
  | 153, _ => exact zcw_153
  | 154, _ => exact zcw_154
  | 155, _ => exact zcw_155
  | 156, _ => exact zcw_156
  | 157, _ => exact zcw_157
  | 158, _ => exact zcw_158
  | 159, _ => exact zcw_159
  | 160, _ => exact zcw_160
  | 161, _ => exact zcw_161
  | 162, _ => exact zcw_162
  | 163, _ => exact zcw_163
  | 164, _ => exact zcw_164
  | 165, _ => exact zcw_165
  | k + 166, h => exact absurd h (by omega)
def zsta (k : Nat) : Bool := ([false, false, false, false, false, false, false, false, false, false, false, false, false, false, false, false, false, false, false, false, false, false, false, false, false, false, false, false, false, false, false, false, false, false, false, false, false, false, false, false, false, false, false, false, false, false, false, false, false, false, false, false, false, false, true, false, false, false, false, false, false, false, false, false, false, false, false, false, false, false, false, false, false, false, false, false, false, false, false, false, false, false, false, false, false, false, false, false, false, false, false, false, false, false, false, false, true, false, true, false, false, false, false, false, false, false, false, false, false, false, false, false, false, false, false, false, false, false, false, false, false, false, false, false, false, false, false, false, false, false, false, false, false, false, false, false, false, false, false, false, false, false, false, false, false, false, false, false, false, false, false, false, false, false, false, false, false, false, false, false, false, false, false, false, true, true] : List Bool).getD k false
def znw (k : Nat) : Cond := if zsta k then .static (zy k) else .instanceMethod (zy k)
theorem znw_a0 : zat [106, 364, 557, 571, 608, 767, 771, 377, 381, 373, 389, 399, 403, 26, 471, 534, 522, 488, 544, 368, 583, 579, 384, 492, 762, 177, 526, 779, 531, 194, 467, 477, 509, 513, 485, 505, 497, 501, 481, 323, 410, 716, 746, 751, 721, 736, 740, 728, 732, 226, 604, 629, 633, 641, 613, 617, 281, 406, 684, 700] (((zks.drop 0).take 60).map znw) = true := by decide +kernel
theorem znw_a1 : zat [706, 691, 695, 254, 655, 662, 668, 18, 451, 459, 463, 540, 552, 562, 567, 575, 587, 591, 595, 600, 621, 637, 671, 675, 680, 712, 754, 758, 775, 783, 787, 456, 361, 549, 626, 649, 652, 799, 984, 988, 980, 991, 1004, 1028, 1012, 1024, 1032, 1016, 1020, 1008, 1040, 1036, 1000, 995, 1048, 1044, 1051, 808, 804, 1144] (((zks.drop 60).take 60).map znw) = true := by decide +kernel
theorem znw_a2 : zat [1140, 1080, 1092, 1060, 1068, 1088, 1055, 1063, 1071, 1075, 1096, 1083, 1104, 1099, 1107, 1116, 1111, 1128, 1124, 1136, 1119, 1148, 1131, 1156, 1151, 1159, 1163, 1172, 1184, 1176, 1180, 1167, 1193, 1197, 1201, 1188, 1204, 1221, 1217, 1213, 1208, 1229, 1224, 1232, 516, 392] (((zks.drop 120).take 60).map znw) = true := by decide +kernel
theorem znw_in : ∀ k, k < 166 → znw k ∈ zwl := by
  intro k hk
  rcases Nat.lt_or_ge k 60 with h | h
  · exact zat_ok znw_a0 _ (List.mem_map_of_mem (zk_mem k 0 h (by omega) hk))
  · rcases Nat.lt_or_ge k 120 with h2 | h2
    · exact zat_ok znw_a1 _ (List.mem_map_of_mem (zk_mem k 60 h2 h hk))
    · exact zat_ok znw_a2 _ (List.mem_map_of_mem (zk_mem k 120 (by omega) h2 hk))
def zinw (c : Nat) : Cond := .initialized (zcnm c)
theorem zinw_a : zat [3, 2, 4, 5, 9, 6, 8, 7, 1, 12, 13, 10] ((List.range 12).map zinw) = true := by decide +kernel
theorem zinw_in : ∀ c, c < 12 → zinw c ∈ zwl := fun c h => zat_ok zinw_a _ (List.mem_map_of_mem (List.mem_range.mpr h))
def zsw_ (k : Nat) : Cond := .selects (zy k).cls (zy k) (zy k)
def zst : List Nat := [1, 2, 3, 4, 5, 6, 14, 15, 16, 17, 18, 19, 20, 21, 22, 23, 24, 26, 27, 30, 40, 41, 42, 50, 51, 52, 53, 57, 58, 64, 68, 69, 70, 71, 72, 73, 74, 75, 76, 77, 78, 79, 80, 81, 82, 83, 84, 85, 86, 87, 88, 89, 90, 100, 101, 113, 116, 126, 127, 128, 129, 131, 133, 134, 136, 140, 142, 144, 145, 146, 151, 155, 156, 160, 162, 163]
def zsp : List Nat := [7, 8, 9, 10, 11, 12, 28, 31, 32, 33, 34, 35, 36, 37, 38, 43, 44, 45, 46, 47, 48, 55, 59, 60, 61, 62, 65, 66, 91, 92, 93, 94, 95, 99, 102, 103, 104, 105, 106, 107, 108, 109, 110, 111, 112, 114, 115, 117, 118, 119, 120, 121, 122, 123, 124, 125, 130, 132, 135, 137, 138, 139, 141, 143, 147, 148, 149, 150, 152, 153, 154, 157, 158, 159, 161]
theorem zst_a : zat [365, 558, 572, 609, 768, 772, 472, 535, 523, 489, 545, 369, 584, 580, 385, 493, 763, 527, 780, 468, 411, 717, 747, 605, 630, 634, 642, 407, 685, 656, 452, 460, 464, 541, 553, 563, 568, 576, 588, 592, 596, 601, 622, 638, 672, 676, 681, 713, 755, 759, 776, 784, 788, 981, 992, 996, 1052, 1056, 1064, 1072, 1076, 1084, 1100, 1108, 1112, 1120, 1132, 1152, 1160, 1164, 1168, 1189, 1205, 1209, 1225, 1233] (zst.map zsw_) = true := by decide +kernel
def zpv (ps ks : List Nat) : Bool := match ps, ks with
  | [], [] => true
  | p :: ps, k :: ks => decide ((lw_privs[p]?).map (fun q => q.1) = some (zy k)) && zpv ps ks
  | _, _ => false
theorem zpv_ok : ∀ {ps ks : List Nat}, zpv ps ks = true → ∀ k ∈ ks, zsw_ k ∈ zwl
  | [], [], _, _, h => by cases h
  | p :: ps, k :: ks, h, v, hv => by
    simp only [zpv, Bool.and_eq_true, decide_eq_true_eq] at h
    rcases List.mem_cons.mp hv with rfl | hv
    · obtain ⟨q, h1, h2⟩ := Option.map_eq_some_iff.mp h.1
      refine List.mem_filter.mpr ⟨List.mem_append_left _ (List.mem_map.mpr ⟨q, List.mem_of_getElem? h1, ?_⟩), rfl⟩
      rw [h2]; rfl
    · exact zpv_ok h.2 v hv
  | [], _ :: _, h, _, _ => by cases h
  | _ :: _, [], h, _, _ => by cases h
theorem zsp_a : zpv [2, 3, 1, 4, 5, 6, 16, 8, 14, 15, 10, 13, 11, 12, 9, 32, 27, 30, 31, 28, 29, 18, 25, 26, 23, 24, 21, 22, 7, 0, 17, 19, 20, 35, 37, 43, 39, 42, 44, 40, 41, 38, 46, 45, 36, 48, 47, 34, 33, 61, 60, 51, 53, 49, 50, 52, 54, 55, 56, 58, 57, 59, 62, 63, 64, 67, 65, 66, 68, 69, 70, 73, 72, 71, 74] zsp = true := by decide +kernel
def zTN : List (u_T × Nat × String) := [(TX0, 15, RX0), (TX1, 12, RX1), (TX2, 2, RX2), (TX3, 7, RX3), (TX4, 9, RX4), (TX5, 5, RX5), (TX6, 9, RX6), (TX7, 5, RX7), (TX8, 12, RX8), (TX9, 56, RX9)]
theorem zlay_0 : ∀ w ∈ u_ws RX0 TX0 15, w ∈ zwl := zat_ok (ps := [143, 145, 147, 149, 151, 153, 155, 157, 159, 161, 163, 165, 167, 169, 171]) (by decide +kernel)
theorem zlay_1 : ∀ w ∈ u_ws RX1 TX1 12, w ∈ zwl := zat_ok (ps := [77, 79, 81, 83, 85, 87, 89, 91, 93, 95, 97, 99]) (by decide +kernel)
theorem zlay_2 : ∀ w ∈ u_ws RX2 TX2 2, w ∈ zwl := zat_ok (ps := [186, 188]) (by decide +kernel)
theorem zlay_3 : ∀ w ∈ u_ws RX3 TX3 7, w ∈ zwl := zat_ok (ps := [208, 210, 212, 214, 216, 218, 220]) (by decide +kernel)
theorem zlay_4 : ∀ w ∈ u_ws RX4 TX4 9, w ∈ zwl := zat_ok (ps := [340, 342, 344, 346, 348, 350, 352, 354, 356]) (by decide +kernel)
theorem zlay_5 : ∀ w ∈ u_ws RX5 TX5 5, w ∈ zwl := zat_ok (ps := [240, 242, 244, 246, 248]) (by decide +kernel)
theorem zlay_6 : ∀ w ∈ u_ws RX6 TX6 9, w ∈ zwl := zat_ok (ps := [301, 303, 305, 307, 309, 311, 313, 315, 317]) (by decide +kernel)
theorem zlay_7 : ∀ w ∈ u_ws RX7 TX7 5, w ∈ zwl := zat_ok (ps := [267, 269, 271, 273, 275]) (by decide +kernel)
theorem zlay_8 : ∀ w ∈ u_ws RX8 TX8 12, w ∈ zwl := zat_ok (ps := [425, 427, 429, 431, 433, 435, 437, 439, 441, 443, 445, 447]) (by decide +kernel)
theorem zlay_9 : ∀ w ∈ u_ws RX9 TX9 56, w ∈ zwl := zat_ok (ps := [866, 868, 870, 872, 874, 876, 878, 880, 882, 884, 886, 888, 890, 892, 894, 896, 898, 900, 902, 904, 906, 908, 910, 912, 914, 916, 918, 920, 922, 924, 926, 928, 930, 932, 934, 936, 938, 940, 942, 944, 946, 948, 950, 952, 954, 956, 958, 960, 962, 964, 966, 968, 970, 972, 974, 976]) (by decide +kernel)
theorem zinst : zat [104, 24, 175, 192, 321, 224, 279, 252, 16, 797] ((List.range 10).map (fun c => Cond.instantiable (zcnm c) (znf c))) = true := by decide +kernel
theorem zinst_in : ∀ c, c < 10 → Cond.instantiable (zcnm c) (znf c) ∈ zwl := fun c h => zat_ok zinst _ (List.mem_map_of_mem (f := fun c => Cond.instantiable (zcnm c) (znf c)) (List.mem_range.mpr h))
theorem zOI_a : zat [108, 28, 179, 196, 325, 228, 283, 256, 20, 801] (zOI.map (fun e => Cond.methodLink (zcnm e.1) e.2 objectInit)) = true := by decide +kernel
theorem zAC_a : zat [394, 537] (zAC.map (fun e => Cond.methodLink (zcnm e.1) e.2 arraycopyName)) = true := by decide +kernel
theorem zAB_a : zat [644] (zAB.map (fun e => Cond.methodLink (zcnm e.1) e.2 Lib.Math.abs.name)) = true := by decide +kernel
theorem zCK_a : zat [180, 197, 326, 284, 286, 257, 23, 103, 174, 191, 223, 251, 278, 320] (zCK.map (fun e => Cond.classLink (zcnm e.1) e.2.1 (zcnm e.2.2))) = true := by decide +kernel
theorem zCI_a : zat [697, 678, 518, 519, 520] (zCI.map (fun e => Cond.constant (zcnm e.1) e.2.1 (Int32.ofInt e.2.2))) = true := by decide +kernel
theorem zCJ_a : zat [790, 791, 1186, 1235, 1236] (zCJ.map (fun e => Cond.constantLong (zcnm e.1) e.2.1 (Int64.ofInt e.2.2))) = true := by decide +kernel
theorem zmi_0 : Cond.instanceMethod objectInit ∈ zwl := zwl_at 21 (by decide +kernel) (by decide +kernel)
theorem zmi_1 : Cond.code objectInit ⟨#[0xb1]⟩ 1 none ∈ zwl := zwl_at 22 (by decide +kernel) (by decide +kernel)
theorem zmi_2 : Cond.static arraycopyName ∈ zwl := zwl_at 395 (by decide +kernel) (by decide +kernel)
theorem zmi_3 : Cond.native arraycopyName ∈ zwl := zwl_at 396 (by decide +kernel) (by decide +kernel)
theorem zmi_4 : Cond.initialized "java/lang/System" ∈ zwl := zwl_at 11 (by decide +kernel) (by decide +kernel)
theorem zmi_5 : Cond.arrayClass .int ∈ zwl := zwl_at 102 (by decide +kernel) (by decide +kernel)
theorem zmi_6 : Cond.static Lib.Math.abs.name ∈ zwl := zwl_at 645 (by decide +kernel) (by decide +kernel)
theorem zmi_7 : Cond.initialized "java/lang/Math" ∈ zwl := zwl_at 14 (by decide +kernel) (by decide +kernel)
theorem zmi_8 : Cond.code Lib.Math.abs.name Lib.Math.abs.code 1 (some .int) ∈ zwl := zwl_at 646 (by decide +kernel) (by decide +kernel)
def zMw (e : Nat × Nat × Nat × Nat × Nat) : Cond := if e.2.2.2.2 < 3 then .methodLink (zcnm e.1) e.2.1 (zy e.2.2.1) else .methodLinkNest (zcnm e.1) e.2.1 (zy e.2.2.1) "TieOffice"
def zML0 : List (Nat × Nat × Nat × Nat × Nat) := zML.filter (fun e => e.2.2.2.2 < 3)
theorem zML_a0 : zat [176, 359, 454, 466, 525, 538, 543, 547, 555, 556, 560, 565, 363, 570, 578, 598, 603, 624, 632, 640, 647, 654, 683, 715, 745, 761, 765, 766, 770, 778, 792, 793, 794, 795, 405, 409, 628, 651, 367, 371, 375, 387, 397, 611, 401, 379, 383, 391, 474, 582] (((zML0.drop 0).take 50).map zMw) = true := by decide +kernel
theorem zML_a1 : zat [529, 533, 470, 475, 521, 479, 483, 507, 487, 511, 495, 499, 515, 491, 503, 719, 725, 726, 730, 734, 742, 749, 723, 724, 738, 743, 744, 607, 612, 615, 619, 687, 688, 689, 698, 702, 703, 704, 693, 709, 710, 658, 659, 660, 664, 665, 666, 802, 983, 986] (((zML0.drop 50).take 50).map zMw) = true := by decide +kernel
theorem zML_a2 : zat [1002, 1026, 1010, 1022, 1014, 1018, 1038, 1006, 1030, 1034, 998, 1042, 1046, 806, 1142, 1058, 1066, 1078, 1086, 1090, 1094, 1102, 1114, 1126, 1122, 1138, 1134, 1146, 1154, 1182, 1174, 1170, 1178, 1191, 1195, 1199, 1215, 1219, 1211, 1227, 1237, 1238] (((zML0.drop 100).take 50).map zMw) = true := by decide +kernel
def zNW : List Cond := (zML.filter (fun e => ¬ e.2.2.2.2 < 3)).map zMw
theorem zNW_a : (zNW.zip [25, 105, 193, 225, 253, 280, 322, 182, 198, 327, 285, 287, 708, 258]).all (fun e => decide (tables_1[e.2]? = some e.1)) = true := by decide +kernel
end
section
/-! what an instruction of the real code is in the clean machine -/
def zfl (c i : Nat) : Option (Nat × Nat) := (zFL.find? (fun e => e.1 == c && e.2.1 == i)).map (fun e => e.2.2)
def zmlk (c i : Nat) : Option (Nat × Nat × Nat) := (zML.find? (fun e => e.1 == c && e.2.1 == i)).map (fun e => e.2.2)
def zckl (c i : Nat) : Option Nat := (zCK.find? (fun e => e.1 == c && e.2.1 == i)).map (fun e => e.2.2)
def zcil (c i : Nat) : Option Int := (zCI.find? (fun e => e.1 == c && e.2.1 == i)).map (fun e => e.2.2)
def zcjl (c i : Nat) : Option Int := (zCJ.find? (fun e => e.1 == c && e.2.1 == i)).map (fun e => e.2.2)
def zjmp (op pc len : Nat) (off : Int) : zI := if 0 ≤ (pc : Int) + off then (op, pc + len, [((pc : Int) + off).toNat], 0) else zno
def zinv (c pc i kd1 kd2 : Nat) : zI := match zmlk c i with
  | some (k', na, kd) => if kd = kd1 ∨ kd = kd2 then (34, pc + 3, [k', na, kd], 0) else zno
  | none => zno
def ztr (c rt : Nat) (ini : Bool) (cc : ByteArray) (pc : Nat) : zI := match decode cc pc with
  | .ok (.iconst v, 1) => (if -1 ≤ v ∧ v ≤ 5 then (0, pc + 1, [], v) else zno)
  | .ok (.bipush v, 2) => (if -128 ≤ v ∧ v ≤ 127 then (0, pc + 2, [], v) else zno)
  | .ok (.sipush v, 3) => (if -32768 ≤ v ∧ v ≤ 32767 then (0, pc + 3, [], v) else zno)
  | .ok (.ldc i, 2) => (match zcil c i with | some v => (0, pc + 2, [], v) | none => zno)
  | .ok (.ldc_w i, 3) => (match zcil c i with | some v => (0, pc + 3, [], v) | none => zno)
  | .ok (.ldc2_w i, 3) => (match zcjl c i with | some v => (1, pc + 3, [], v) | none => zno)
  | .ok (.lconst v, 1) => (1, pc + 1, [], ((v : Nat) : Int))
  | .ok (.iload i, 2) => (2, pc + 2, [i], 0)
  | .ok (.iload_n i, 1) => (2, pc + 1, [(i : Nat)], 0)
  | .ok (.lload i, 2) => (3, pc + 2, [i], 0)
  | .ok (.lload_n i, 1) => (3, pc + 1, [(i : Nat)], 0)
  | .ok (.aload i, 2) => (4, pc + 2, [i], 0)
  | .ok (.aload_n i, 1) => (4, pc + 1, [(i : Nat)], 0)
  | .ok (.istore i, 2) => (5, pc + 2, [i], 0)
  | .ok (.istore_n i, 1) => (5, pc + 1, [(i : Nat)], 0)
  | .ok (.lstore i, 2) => (6, pc + 2, [i], 0)
  | .ok (.lstore_n i, 1) => (6, pc + 1, [(i : Nat)], 0)
  | .ok (.astore i, 2) => (7, pc + 2, [i], 0)
  | .ok (.astore_n i, 1) => (7, pc + 1, [(i : Nat)], 0)
  | .ok (.iinc i v, 3) => (if -128 ≤ v ∧ v ≤ 127 then (8, pc + 3, [i], v) else zno)
  | .ok (.iadd, 1) => (50, pc + 1, [], 0)
  | .ok (.isub, 1) => (51, pc + 1, [], 0)
  | .ok (.imul, 1) => (52, pc + 1, [], 0)
  | .ok (.iand, 1) => (53, pc + 1, [], 0)
  | .ok (.ior, 1) => (54, pc + 1, [], 0)
  | .ok (.ixor, 1) => (55, pc + 1, [], 0)
  | .ok (.ishl, 1) => (56, pc + 1, [], 0)
  | .ok (.ishr, 1) => (57, pc + 1, [], 0)
  | .ok (.iushr, 1) => (58, pc + 1, [], 0)
  | .ok (.ladd, 1) => (60, pc + 1, [], 0)
  | .ok (.lsub, 1) => (61, pc + 1, [], 0)
  | .ok (.lmul, 1) => (62, pc + 1, [], 0)
  | .ok (.ineg, 1) => (11, pc + 1, [], 0)
  | .ok (.i2l, 1) => (12, pc + 1, [], 0)
  | .ok (.lcmp, 1) => (13, pc + 1, [], 0)
  | .ok (.dup, 1) => (18, pc + 1, [], 0)
  | .ok (.dup2, 1) => (19, pc + 1, [], 0)
  | .ok (.pop, 1) => (20, pc + 1, [], 0)
  | .ok (.iaload, 1) => (26, pc + 1, [], 0)
  | .ok (.iastore, 1) => (27, pc + 1, [], 0)
  | .ok (.aaload, 1) => (28, pc + 1, [], 0)
  | .ok (.aastore, 1) => (29, pc + 1, [], 0)
  | .ok (.arraylength, 1) => (30, pc + 1, [], 0)
  | .ok (.if_icmp .eq off, 3) => zjmp 70 pc 3 off
  | .ok (.ifCond .eq off, 3) => zjmp 80 pc 3 off
  | .ok (.if_icmp .ne off, 3) => zjmp 71 pc 3 off
  | .ok (.ifCond .ne off, 3) => zjmp 81 pc 3 off
  | .ok (.if_icmp .lt off, 3) => zjmp 72 pc 3 off
  | .ok (.ifCond .lt off, 3) => zjmp 82 pc 3 off
  | .ok (.if_icmp .ge off, 3) => zjmp 73 pc 3 off
  | .ok (.ifCond .ge off, 3) => zjmp 83 pc 3 off
  | .ok (.if_icmp .gt off, 3) => zjmp 74 pc 3 off
  | .ok (.ifCond .gt off, 3) => zjmp 84 pc 3 off
  | .ok (.if_icmp .le off, 3) => zjmp 75 pc 3 off
  | .ok (.ifCond .le off, 3) => zjmp 85 pc 3 off
  | .ok (.ifnull off, 3) => zjmp 16 pc 3 off
  | .ok (.goto off, 3) => zjmp 17 pc 3 off
  | .ok (.getfield i, 3) => (match zfl c i with | some (ci, fk) => (21, pc + 3, [ci, fk], 0) | none => zno)
  | .ok (.putfield i, 3) => (match zfl c i with | some (ci, fk) => (if (zfin ci fk && !(ini && ci == c)) = true then zno else if zft ci fk = 1 then (24, pc + 3, [ci, fk], 0) else if zft ci fk = 2 then (25, pc + 3, [ci, fk], 0) else if zboo ci fk = true then (23, pc + 3, [ci, fk], 0) else (22, pc + 3, [ci, fk], 0)) | none => zno)
  | .ok (.new i, 3) => (match zckl c i with | some ci => (31, pc + 3, [ci], 0) | none => zno)
  | .ok (.newarray .int, 2) => (32, pc + 2, [], 0)
  | .ok (.anewarray i, 3) => (if zckl c i = some 1 then (33, pc + 3, [], 0) else zno)
  | .ok (.invokevirtual i, 3) => zinv c pc i 0 0
  | .ok (.invokestatic i, 3) => (if (c, i) ∈ zAC then (40, pc + 3, [], 0) else if (c, i) ∈ zAB then (42, pc + 3, [], 0) else zinv c pc i 1 4)
  | .ok (.invokespecial i, 3) => (if (c, i) ∈ zOI then (41, pc + 3, [], 0) else zinv c pc i 2 3)
  | .ok (.ireturn, 1) => (if rt = 3 then (36, 0, [], 0) else if rt = 0 then (35, 0, [], 0) else zno)
  | .ok (.lreturn, 1) => (if rt = 1 then (37, 0, [], 0) else zno)
  | .ok (.return_, 1) => (if rt = 2 then (38, 0, [], 0) else zno)
  | .ok (.tableswitch d lo hi offs, _) => (if 0 ≤ (pc : Int) + d ∧ lo ≤ hi ∧ -2147483648 ≤ lo ∧ hi < 2147483648 ∧ (offs.size : Int) = hi - lo + 1 ∧ (offs.toList.all (fun o => decide (0 ≤ (pc : Int) + o))) = true then (39, 0, ((pc : Int) + d).toNat :: offs.toList.map (fun o => ((pc : Int) + o).toNat), lo) else zno)
  | _ => zno
def zini (k : Nat) : Bool := ([0, 13, 25, 29, 39, 49, 56, 63, 67, 97] : List Nat).contains k
def zchk (c rt : Nat) (ini : Bool) (cc : ByteArray) : List zI → Nat → Bool
  | [], _ => true
  | i :: l, pc => (decide (i.1 = 99) || decide (i = ztr c rt ini cc pc)) && zchk c rt ini cc l (pc + 1)
theorem zchk_ok {c rt : Nat} {ini : Bool} {cc : ByteArray} : ∀ (l : List zI) (pc j : Nat), zchk c rt ini cc l pc = true → (zlk l j).1 = 99 ∨ zlk l j = ztr c rt ini cc (pc + j)
  | [], _, _, _ => Or.inl rfl
  | i :: l, pc, 0, h => by
    simp only [zchk, Bool.and_eq_true, Bool.or_eq_true, decide_eq_true_eq] at h
    exact h.1
  | i :: l, pc, j + 1, h => by
    simp only [zchk, Bool.and_eq_true, Bool.or_eq_true, decide_eq_true_eq] at h
    have := zchk_ok l (pc + 1) j h.2
    rw [show pc + 1 + j = pc + (j + 1) by omega] at this
    exact this
set_option maxRecDepth 20000 in
theorem zch_0 : zchk (zoc 0) (zrt 0) (zini 0) (zb 0) zc0 0 = true := by decide +kernel
set_option maxRecDepth 20000 in
theorem zch_1 : zchk (zoc 1) (zrt 1) (zini 1) (zb 1) zc1 0 = true := by decide +kernel
set_option maxRecDepth 20000 in
theorem zch_2 : zchk (zoc 2) (zrt 2) (zini 2) (zb 2) zc2 0 = true := by decide +kernel
set_option maxRecDepth 20000 in
theorem zch_3 : zchk (zoc 3) (zrt 3) (zini 3) (zb 3) zc3 0 = true := by decide +kernel
set_option maxRecDepth 20000 in
theorem zch_4 : zchk (zoc 4) (zrt 4) (zini 4) (zb 4) zc4 0 = true := by decide +kernel
set_option maxRecDepth 20000 in
theorem zch_5 : zchk (zoc 5) (zrt 5) (zini 5) (zb 5) zc5 0 = true := by decide +kernel
set_option maxRecDepth 20000 in
theorem zch_6 : zchk (zoc 6) (zrt 6) (zini 6) (zb 6) zc6 0 = true := by decide +kernel
set_option maxRecDepth 20000 in
theorem zch_7 : zchk (zoc 7) (zrt 7) (zini 7) (zb 7) zc7 0 = true := by decide +kernel
set_option maxRecDepth 20000 in
theorem zch_8 : zchk (zoc 8) (zrt 8) (zini 8) (zb 8) zc8 0 = true := by decide +kernel
set_option maxRecDepth 20000 in
theorem zch_9 : zchk (zoc 9) (zrt 9) (zini 9) (zb 9) zc9 0 = true := by decide +kernel
set_option maxRecDepth 20000 in
theorem zch_10 : zchk (zoc 10) (zrt 10) (zini 10) (zb 10) zc10 0 = true := by decide +kernel
set_option maxRecDepth 20000 in
theorem zch_11 : zchk (zoc 11) (zrt 11) (zini 11) (zb 11) zc11 0 = true := by decide +kernel
set_option maxRecDepth 20000 in
theorem zch_12 : zchk (zoc 12) (zrt 12) (zini 12) (zb 12) zc12 0 = true := by decide +kernel
set_option maxRecDepth 20000 in
theorem zch_13 : zchk (zoc 13) (zrt 13) (zini 13) (zb 13) zc13 0 = true := by decide +kernel
set_option maxRecDepth 20000 in
theorem zch_14 : zchk (zoc 14) (zrt 14) (zini 14) (zb 14) zc14 0 = true := by decide +kernel
set_option maxRecDepth 20000 in
theorem zch_15 : zchk (zoc 15) (zrt 15) (zini 15) (zb 15) zc15 0 = true := by decide +kernel
set_option maxRecDepth 20000 in
theorem zch_16 : zchk (zoc 16) (zrt 16) (zini 16) (zb 16) zc16 0 = true := by decide +kernel
set_option maxRecDepth 20000 in
theorem zch_17 : zchk (zoc 17) (zrt 17) (zini 17) (zb 17) zc17 0 = true := by decide +kernel
set_option maxRecDepth 20000 in
theorem zch_18 : zchk (zoc 18) (zrt 18) (zini 18) (zb 18) zc18 0 = true := by decide +kernel
set_option maxRecDepth 20000 in
theorem zch_19 : zchk (zoc 19) (zrt 19) (zini 19) (zb 19) zc19 0 = true := by decide +kernel
set_option maxRecDepth 20000 in
theorem zch_20 : zchk (zoc 20) (zrt 20) (zini 20) (zb 20) zc20 0 = true := by decide +kernel
set_option maxRecDepth 20000 in
theorem zch_21 : zchk (zoc 21) (zrt 21) (zini 21) (zb 21) zc21 0 = true := by decide +kernel
set_option maxRecDepth 20000 in
theorem zch_22 : zchk (zoc 22) (zrt 22) (zini 22) (zb 22) zc22 0 = true := by decide +kernel
set_option maxRecDepth 20000 in
theorem zch_23 : zchk (zoc 23) (zrt 23) (zini 23) (zb 23) zc23 0 = true := by decide +kernel
set_option maxRecDepth 20000 in
theorem zch_24 : zchk (zoc 24) (zrt 24) (zini 24) (zb 24) zc24 0 = true := by decide +kernel
set_option maxRecDepth 20000 in
theorem zch_25 : zchk (zoc 25) (zrt 25) (zini 25) (zb 25) zc25 0 = true := by decide +kernel
set_option maxRecDepth 20000 in
theorem zch_26 : zchk (zoc 26) (zrt 26) (zini 26) (zb 26) zc26 0 = true := by decide +kernel
set_option maxRecDepth 20000 in
theorem zch_27 : zchk (zoc 27) (zrt 27) (zini 27) (zb 27) zc27 0 = true := by decide +kernel
set_option maxRecDepth 20000 in
theorem zch_28 : zchk (zoc 28) (zrt 28) (zini 28) (zb 28) zc28 0 = true := by decide +kernel
set_option maxRecDepth 20000 in
theorem zch_29 : zchk (zoc 29) (zrt 29) (zini 29) (zb 29) zc29 0 = true := by decide +kernel
set_option maxRecDepth 20000 in
theorem zch_30 : zchk (zoc 30) (zrt 30) (zini 30) (zb 30) zc30 0 = true := by decide +kernel
set_option maxRecDepth 20000 in
theorem zch_31 : zchk (zoc 31) (zrt 31) (zini 31) (zb 31) zc31 0 = true := by decide +kernel
set_option maxRecDepth 20000 in
theorem zch_32 : zchk (zoc 32) (zrt 32) (zini 32) (zb 32) zc32 0 = true := by decide +kernel
set_option maxRecDepth 20000 in
theorem zch_33 : zchk (zoc 33) (zrt 33) (zini 33) (zb 33) zc33 0 = true := by decide +kernel
set_option maxRecDepth 20000 in
theorem zch_34 : zchk (zoc 34) (zrt 34) (zini 34) (zb 34) zc34 0 = true := by decide +kernel
set_option maxRecDepth 20000 in
theorem zch_35 : zchk (zoc 35) (zrt 35) (zini 35) (zb 35) zc35 0 = true := by decide +kernel
set_option maxRecDepth 20000 in
theorem zch_36 : zchk (zoc 36) (zrt 36) (zini 36) (zb 36) zc36 0 = true := by decide +kernel
set_option maxRecDepth 20000 in
theorem zch_37 : zchk (zoc 37) (zrt 37) (zini 37) (zb 37) zc37 0 = true := by decide +kernel
set_option maxRecDepth 20000 in
theorem zch_38 : zchk (zoc 38) (zrt 38) (zini 38) (zb 38) zc38 0 = true := by decide +kernel
set_option maxRecDepth 20000 in
theorem zch_39 : zchk (zoc 39) (zrt 39) (zini 39) (zb 39) zc39 0 = true := by decide +kernel
set_option maxRecDepth 20000 in
theorem zch_40 : zchk (zoc 40) (zrt 40) (zini 40) (zb 40) zc40 0 = true := by decide +kernel
set_option maxRecDepth 20000 in
theorem zch_41 : zchk (zoc 41) (zrt 41) (zini 41) (zb 41) zc41 0 = true := by decide +kernel
set_option maxRecDepth 20000 in
theorem zch_42 : zchk (zoc 42) (zrt 42) (zini 42) (zb 42) zc42 0 = true := by decide +kernel
set_option maxRecDepth 20000 in
theorem zch_43 : zchk (zoc 43) (zrt 43) (zini 43) (zb 43) zc43 0 = true := by decide +kernel
set_option maxRecDepth 20000 in
theorem zch_44 : zchk (zoc 44) (zrt 44) (zini 44) (zb 44) zc44 0 = true := by decide +kernel
set_option maxRecDepth 20000 in
theorem zch_45 : zchk (zoc 45) (zrt 45) (zini 45) (zb 45) zc45 0 = true := by decide +kernel
set_option maxRecDepth 20000 in
theorem zch_46 : zchk (zoc 46) (zrt 46) (zini 46) (zb 46) zc46 0 = true := by decide +kernel
set_option maxRecDepth 20000 in
theorem zch_47 : zchk (zoc 47) (zrt 47) (zini 47) (zb 47) zc47 0 = true := by decide +kernel
set_option maxRecDepth 20000 in
theorem zch_48 : zchk (zoc 48) (zrt 48) (zini 48) (zb 48) zc48 0 = true := by decide +kernel
set_option maxRecDepth 20000 in
theorem zch_49 : zchk (zoc 49) (zrt 49) (zini 49) (zb 49) zc49 0 = true := by decide +kernel
set_option maxRecDepth 20000 in
theorem zch_50 : zchk (zoc 50) (zrt 50) (zini 50) (zb 50) zc50 0 = true := by decide +kernel
set_option maxRecDepth 20000 in
theorem zch_51 : zchk (zoc 51) (zrt 51) (zini 51) (zb 51) zc51 0 = true := by decide +kernel
set_option maxRecDepth 20000 in
theorem zch_52 : zchk (zoc 52) (zrt 52) (zini 52) (zb 52) zc52 0 = true := by decide +kernel
set_option maxRecDepth 20000 in
theorem zch_53 : zchk (zoc 53) (zrt 53) (zini 53) (zb 53) zc53 0 = true := by decide +kernel
set_option maxRecDepth 20000 in
theorem zch_54 : zchk (zoc 54) (zrt 54) (zini 54) (zb 54) zc54 0 = true := by decide +kernel
set_option maxRecDepth 20000 in
theorem zch_55 : zchk (zoc 55) (zrt 55) (zini 55) (zb 55) zc55 0 = true := by decide +kernel
set_option maxRecDepth 20000 in
theorem zch_56 : zchk (zoc 56) (zrt 56) (zini 56) (zb 56) zc56 0 = true := by decide +kernel
set_option maxRecDepth 20000 in
theorem zch_57 : zchk (zoc 57) (zrt 57) (zini 57) (zb 57) zc57 0 = true := by decide +kernel
set_option maxRecDepth 20000 in
theorem zch_58 : zchk (zoc 58) (zrt 58) (zini 58) (zb 58) zc58 0 = true := by decide +kernel
set_option maxRecDepth 20000 in
theorem zch_59 : zchk (zoc 59) (zrt 59) (zini 59) (zb 59) zc59 0 = true := by decide +kernel
set_option maxRecDepth 20000 in
theorem zch_60 : zchk (zoc 60) (zrt 60) (zini 60) (zb 60) zc60 0 = true := by decide +kernel
set_option maxRecDepth 20000 in
theorem zch_61 : zchk (zoc 61) (zrt 61) (zini 61) (zb 61) zc61 0 = true := by decide +kernel
set_option maxRecDepth 20000 in
theorem zch_62 : zchk (zoc 62) (zrt 62) (zini 62) (zb 62) zc62 0 = true := by decide +kernel
set_option maxRecDepth 20000 in
theorem zch_63 : zchk (zoc 63) (zrt 63) (zini 63) (zb 63) zc63 0 = true := by decide +kernel
set_option maxRecDepth 20000 in
theorem zch_64 : zchk (zoc 64) (zrt 64) (zini 64) (zb 64) zc64 0 = true := by decide +kernel
set_option maxRecDepth 20000 in
theorem zch_65 : zchk (zoc 65) (zrt 65) (zini 65) (zb 65) zc65 0 = true := by decide +kernel
set_option maxRecDepth 20000 in
theorem zch_66 : zchk (zoc 66) (zrt 66) (zini 66) (zb 66) zc66 0 = true := by decide +kernel
set_option maxRecDepth 20000 in
theorem zch_67 : zchk (zoc 67) (zrt 67) (zini 67) (zb 67) zc67 0 = true := by decide +kernel
set_option maxRecDepth 20000 in
theorem zch_68 : zchk (zoc 68) (zrt 68) (zini 68) (zb 68) zc68 0 = true := by decide +kernel
set_option maxRecDepth 20000 in
theorem zch_69 : zchk (zoc 69) (zrt 69) (zini 69) (zb 69) zc69 0 = true := by decide +kernel
set_option maxRecDepth 20000 in
theorem zch_70 : zchk (zoc 70) (zrt 70) (zini 70) (zb 70) zc70 0 = true := by decide +kernel
set_option maxRecDepth 20000 in
theorem zch_71 : zchk (zoc 71) (zrt 71) (zini 71) (zb 71) zc71 0 = true := by decide +kernel
set_option maxRecDepth 20000 in
theorem zch_72 : zchk (zoc 72) (zrt 72) (zini 72) (zb 72) zc72 0 = true := by decide +kernel
set_option maxRecDepth 20000 in
theorem zch_73 : zchk (zoc 73) (zrt 73) (zini 73) (zb 73) zc73 0 = true := by decide +kernel
set_option maxRecDepth 20000 in
theorem zch_74 : zchk (zoc 74) (zrt 74) (zini 74) (zb 74) zc74 0 = true := by decide +kernel
set_option maxRecDepth 20000 in
theorem zch_75 : zchk (zoc 75) (zrt 75) (zini 75) (zb 75) zc75 0 = true := by decide +kernel
set_option maxRecDepth 20000 in
theorem zch_76 : zchk (zoc 76) (zrt 76) (zini 76) (zb 76) zc76 0 = true := by decide +kernel
set_option maxRecDepth 20000 in
theorem zch_77 : zchk (zoc 77) (zrt 77) (zini 77) (zb 77) zc77 0 = true := by decide +kernel
set_option maxRecDepth 20000 in
theorem zch_78 : zchk (zoc 78) (zrt 78) (zini 78) (zb 78) zc78 0 = true := by decide +kernel
set_option maxRecDepth 20000 in
theorem zch_79 : zchk (zoc 79) (zrt 79) (zini 79) (zb 79) zc79 0 = true := by decide +kernel
set_option maxRecDepth 20000 in
theorem zch_80 : zchk (zoc 80) (zrt 80) (zini 80) (zb 80) zc80 0 = true := by decide +kernel
set_option maxRecDepth 20000 in
theorem zch_81 : zchk (zoc 81) (zrt 81) (zini 81) (zb 81) zc81 0 = true := by decide +kernel
set_option maxRecDepth 20000 in
theorem zch_82 : zchk (zoc 82) (zrt 82) (zini 82) (zb 82) zc82 0 = true := by decide +kernel
set_option maxRecDepth 20000 in
theorem zch_83 : zchk (zoc 83) (zrt 83) (zini 83) (zb 83) zc83 0 = true := by decide +kernel
set_option maxRecDepth 20000 in
theorem zch_84 : zchk (zoc 84) (zrt 84) (zini 84) (zb 84) zc84 0 = true := by decide +kernel
set_option maxRecDepth 20000 in
theorem zch_85 : zchk (zoc 85) (zrt 85) (zini 85) (zb 85) zc85 0 = true := by decide +kernel
set_option maxRecDepth 20000 in
theorem zch_86 : zchk (zoc 86) (zrt 86) (zini 86) (zb 86) zc86 0 = true := by decide +kernel
set_option maxRecDepth 20000 in
theorem zch_87 : zchk (zoc 87) (zrt 87) (zini 87) (zb 87) zc87 0 = true := by decide +kernel
set_option maxRecDepth 20000 in
theorem zch_88 : zchk (zoc 88) (zrt 88) (zini 88) (zb 88) zc88 0 = true := by decide +kernel
set_option maxRecDepth 20000 in
theorem zch_89 : zchk (zoc 89) (zrt 89) (zini 89) (zb 89) zc89 0 = true := by decide +kernel
set_option maxRecDepth 20000 in
theorem zch_90 : zchk (zoc 90) (zrt 90) (zini 90) (zb 90) zc90 0 = true := by decide +kernel
set_option maxRecDepth 20000 in
theorem zch_91 : zchk (zoc 91) (zrt 91) (zini 91) (zb 91) zc91 0 = true := by decide +kernel
set_option maxRecDepth 20000 in
theorem zch_92 : zchk (zoc 92) (zrt 92) (zini 92) (zb 92) zc92 0 = true := by decide +kernel
set_option maxRecDepth 20000 in
theorem zch_93 : zchk (zoc 93) (zrt 93) (zini 93) (zb 93) zc93 0 = true := by decide +kernel
set_option maxRecDepth 20000 in
theorem zch_94 : zchk (zoc 94) (zrt 94) (zini 94) (zb 94) zc94 0 = true := by decide +kernel
set_option maxRecDepth 20000 in
theorem zch_95 : zchk (zoc 95) (zrt 95) (zini 95) (zb 95) zc95 0 = true := by decide +kernel
set_option maxRecDepth 20000 in
theorem zch_96 : zchk (zoc 96) (zrt 96) (zini 96) (zb 96) zc96 0 = true := by decide +kernel
set_option maxRecDepth 20000 in
theorem zch_97 : zchk (zoc 97) (zrt 97) (zini 97) (zb 97) zc97 0 = true := by decide +kernel
set_option maxRecDepth 20000 in
theorem zch_98 : zchk (zoc 98) (zrt 98) (zini 98) (zb 98) zc98 0 = true := by decide +kernel
set_option maxRecDepth 20000 in
theorem zch_99 : zchk (zoc 99) (zrt 99) (zini 99) (zb 99) zc99 0 = true := by decide +kernel
set_option maxRecDepth 20000 in
theorem zch_100 : zchk (zoc 100) (zrt 100) (zini 100) (zb 100) zc100 0 = true := by decide +kernel
set_option maxRecDepth 20000 in
theorem zch_101 : zchk (zoc 101) (zrt 101) (zini 101) (zb 101) zc101 0 = true := by decide +kernel
set_option maxRecDepth 20000 in
theorem zch_102 : zchk (zoc 102) (zrt 102) (zini 102) (zb 102) zc102 0 = true := by decide +kernel
set_option maxRecDepth 20000 in
theorem zch_103 : zchk (zoc 103) (zrt 103) (zini 103) (zb 103) zc103 0 = true := by decide +kernel
set_option maxRecDepth 20000 in
theorem zch_104 : zchk (zoc 104) (zrt 104) (zini 104) (zb 104) zc104 0 = true := by decide +kernel
set_option maxRecDepth 20000 in
theorem zch_105 : zchk (zoc 105) (zrt 105) (zini 105) (zb 105) zc105 0 = true := by decide +kernel
set_option maxRecDepth 20000 in
theorem zch_106 : zchk (zoc 106) (zrt 106) (zini 106) (zb 106) zc106 0 = true := by decide +kernel
set_option maxRecDepth 20000 in
theorem zch_107 : zchk (zoc 107) (zrt 107) (zini 107) (zb 107) zc107 0 = true := by decide +kernel
set_option maxRecDepth 20000 in
theorem zch_108 : zchk (zoc 108) (zrt 108) (zini 108) (zb 108) zc108 0 = true := by decide +kernel
set_option maxRecDepth 20000 in
theorem zch_109 : zchk (zoc 109) (zrt 109) (zini 109) (zb 109) zc109 0 = true := by decide +kernel
set_option maxRecDepth 20000 in
theorem zch_110 : zchk (zoc 110) (zrt 110) (zini 110) (zb 110) zc110 0 = true := by decide +kernel
set_option maxRecDepth 20000 in
theorem zch_111 : zchk (zoc 111) (zrt 111) (zini 111) (zb 111) zc111 0 = true := by decide +kernel
set_option maxRecDepth 20000 in
theorem zch_112 : zchk (zoc 112) (zrt 112) (zini 112) (zb 112) zc112 0 = true := by decide +kernel
set_option maxRecDepth 20000 in
theorem zch_113 : zchk (zoc 113) (zrt 113) (zini 113) (zb 113) zc113 0 = true := by decide +kernel
set_option maxRecDepth 20000 in
theorem zch_114 : zchk (zoc 114) (zrt 114) (zini 114) (zb 114) zc114 0 = true := by decide +kernel
set_option maxRecDepth 20000 in
theorem zch_115 : zchk (zoc 115) (zrt 115) (zini 115) (zb 115) zc115 0 = true := by decide +kernel
set_option maxRecDepth 20000 in
theorem zch_116 : zchk (zoc 116) (zrt 116) (zini 116) (zb 116) zc116 0 = true := by decide +kernel
set_option maxRecDepth 20000 in
theorem zch_117 : zchk (zoc 117) (zrt 117) (zini 117) (zb 117) zc117 0 = true := by decide +kernel
set_option maxRecDepth 20000 in
theorem zch_118 : zchk (zoc 118) (zrt 118) (zini 118) (zb 118) zc118 0 = true := by decide +kernel
set_option maxRecDepth 20000 in
theorem zch_119 : zchk (zoc 119) (zrt 119) (zini 119) (zb 119) zc119 0 = true := by decide +kernel
set_option maxRecDepth 20000 in
theorem zch_120 : zchk (zoc 120) (zrt 120) (zini 120) (zb 120) zc120 0 = true := by decide +kernel
set_option maxRecDepth 20000 in
theorem zch_121 : zchk (zoc 121) (zrt 121) (zini 121) (zb 121) zc121 0 = true := by decide +kernel
set_option maxRecDepth 20000 in
theorem zch_122 : zchk (zoc 122) (zrt 122) (zini 122) (zb 122) zc122 0 = true := by decide +kernel
set_option maxRecDepth 20000 in
theorem zch_123 : zchk (zoc 123) (zrt 123) (zini 123) (zb 123) zc123 0 = true := by decide +kernel
set_option maxRecDepth 20000 in
theorem zch_124 : zchk (zoc 124) (zrt 124) (zini 124) (zb 124) zc124 0 = true := by decide +kernel
set_option maxRecDepth 20000 in
theorem zch_125 : zchk (zoc 125) (zrt 125) (zini 125) (zb 125) zc125 0 = true := by decide +kernel
set_option maxRecDepth 20000 in
theorem zch_126 : zchk (zoc 126) (zrt 126) (zini 126) (zb 126) zc126 0 = true := by decide +kernel
set_option maxRecDepth 20000 in
theorem zch_127 : zchk (zoc 127) (zrt 127) (zini 127) (zb 127) zc127 0 = true := by decide +kernel
set_option maxRecDepth 20000 in
theorem zch_128 : zchk (zoc 128) (zrt 128) (zini 128) (zb 128) zc128 0 = true := by decide +kernel
set_option maxRecDepth 20000 in
theorem zch_129 : zchk (zoc 129) (zrt 129) (zini 129) (zb 129) zc129 0 = true := by decide +kernel
set_option maxRecDepth 20000 in
theorem zch_130 : zchk (zoc 130) (zrt 130) (zini 130) (zb 130) zc130 0 = true := by decide +kernel
set_option maxRecDepth 20000 in
theorem zch_131 : zchk (zoc 131) (zrt 131) (zini 131) (zb 131) zc131 0 = true := by decide +kernel
set_option maxRecDepth 20000 in
theorem zch_132 : zchk (zoc 132) (zrt 132) (zini 132) (zb 132) zc132 0 = true := by decide +kernel
set_option maxRecDepth 20000 in
theorem zch_133 : zchk (zoc 133) (zrt 133) (zini 133) (zb 133) zc133 0 = true := by decide +kernel
set_option maxRecDepth 20000 in
theorem zch_134 : zchk (zoc 134) (zrt 134) (zini 134) (zb 134) zc134 0 = true := by decide +kernel
set_option maxRecDepth 20000 in
theorem zch_135 : zchk (zoc 135) (zrt 135) (zini 135) (zb 135) zc135 0 = true := by decide +kernel
set_option maxRecDepth 20000 in
theorem zch_136 : zchk (zoc 136) (zrt 136) (zini 136) (zb 136) zc136 0 = true := by decide +kernel
set_option maxRecDepth 20000 in
theorem zch_137 : zchk (zoc 137) (zrt 137) (zini 137) (zb 137) zc137 0 = true := by decide +kernel
set_option maxRecDepth 20000 in
theorem zch_138 : zchk (zoc 138) (zrt 138) (zini 138) (zb 138) zc138 0 = true := by decide +kernel
set_option maxRecDepth 20000 in
theorem zch_139 : zchk (zoc 139) (zrt 139) (zini 139) (zb 139) zc139 0 = true := by decide +kernel
set_option maxRecDepth 20000 in
theorem zch_140 : zchk (zoc 140) (zrt 140) (zini 140) (zb 140) zc140 0 = true := by decide +kernel
set_option maxRecDepth 20000 in
theorem zch_141 : zchk (zoc 141) (zrt 141) (zini 141) (zb 141) zc141 0 = true := by decide +kernel
set_option maxRecDepth 20000 in
theorem zch_142 : zchk (zoc 142) (zrt 142) (zini 142) (zb 142) zc142 0 = true := by decide +kernel
set_option maxRecDepth 20000 in
theorem zch_143 : zchk (zoc 143) (zrt 143) (zini 143) (zb 143) zc143 0 = true := by decide +kernel
set_option maxRecDepth 20000 in
theorem zch_144 : zchk (zoc 144) (zrt 144) (zini 144) (zb 144) zc144 0 = true := by decide +kernel
set_option maxRecDepth 20000 in
theorem zch_145 : zchk (zoc 145) (zrt 145) (zini 145) (zb 145) zc145 0 = true := by decide +kernel
set_option maxRecDepth 20000 in
theorem zch_146 : zchk (zoc 146) (zrt 146) (zini 146) (zb 146) zc146 0 = true := by decide +kernel
set_option maxRecDepth 20000 in
theorem zch_147 : zchk (zoc 147) (zrt 147) (zini 147) (zb 147) zc147 0 = true := by decide +kernel
set_option maxRecDepth 20000 in
theorem zch_148 : zchk (zoc 148) (zrt 148) (zini 148) (zb 148) zc148 0 = true := by decide +kernel
set_option maxRecDepth 20000 in
theorem zch_149 : zchk (zoc 149) (zrt 149) (zini 149) (zb 149) zc149 0 = true := by decide +kernel
set_option maxRecDepth 20000 in
theorem zch_150 : zchk (zoc 150) (zrt 150) (zini 150) (zb 150) zc150 0 = true := by decide +kernel
set_option maxRecDepth 20000 in
theorem zch_151 : zchk (zoc 151) (zrt 151) (zini 151) (zb 151) zc151 0 = true := by decide +kernel
set_option maxRecDepth 20000 in
theorem zch_152 : zchk (zoc 152) (zrt 152) (zini 152) (zb 152) zc152 0 = true := by decide +kernel
set_option maxRecDepth 20000 in
theorem zch_153 : zchk (zoc 153) (zrt 153) (zini 153) (zb 153) zc153 0 = true := by decide +kernel
set_option maxRecDepth 20000 in
theorem zch_154 : zchk (zoc 154) (zrt 154) (zini 154) (zb 154) zc154 0 = true := by decide +kernel
set_option maxRecDepth 20000 in
theorem zch_155 : zchk (zoc 155) (zrt 155) (zini 155) (zb 155) zc155 0 = true := by decide +kernel
set_option maxRecDepth 20000 in
theorem zch_156 : zchk (zoc 156) (zrt 156) (zini 156) (zb 156) zc156 0 = true := by decide +kernel
set_option maxRecDepth 20000 in
theorem zch_157 : zchk (zoc 157) (zrt 157) (zini 157) (zb 157) zc157 0 = true := by decide +kernel
set_option maxRecDepth 20000 in
theorem zch_158 : zchk (zoc 158) (zrt 158) (zini 158) (zb 158) zc158 0 = true := by decide +kernel
set_option maxRecDepth 20000 in
theorem zch_159 : zchk (zoc 159) (zrt 159) (zini 159) (zb 159) zc159 0 = true := by decide +kernel
set_option maxRecDepth 20000 in
theorem zch_160 : zchk (zoc 160) (zrt 160) (zini 160) (zb 160) zc160 0 = true := by decide +kernel
set_option maxRecDepth 20000 in
theorem zch_161 : zchk (zoc 161) (zrt 161) (zini 161) (zb 161) zc161 0 = true := by decide +kernel
set_option maxRecDepth 20000 in
theorem zch_162 : zchk (zoc 162) (zrt 162) (zini 162) (zb 162) zc162 0 = true := by decide +kernel
set_option maxRecDepth 20000 in
theorem zch_163 : zchk (zoc 163) (zrt 163) (zini 163) (zb 163) zc163 0 = true := by decide +kernel
set_option maxRecDepth 20000 in
theorem zch_164 : zchk (zoc 164) (zrt 164) (zini 164) (zb 164) zc164 0 = true := by decide +kernel
set_option maxRecDepth 20000 in
theorem zch_165 : zchk (zoc 165) (zrt 165) (zini 165) (zb 165) zc165 0 = true := by decide +kernel
theorem zch : ∀ k, k < 166 → zchk (zoc k) (zrt k) (zini k) (zb k) (zcl0 zcs k) 0 = true := by
  intro k hk
  match k, hk with
  | 0, _ => exact zch_0
  | 1, _ => exact zch_1
  | 2, _ => exact zch_2
  | 3, _ => exact zch_3
  | 4, _ => exact zch_4
  | 5, _ => exact zch_5
  | 6, _ => exact zch_6
  | 7, _ => exact zch_7
  | 8, _ => exact zch_8
  | 9, _ => exact zch_9
  | 10, _ => exact zch_10
  | 11, _ => exact zch_11
  | 12, _ => exact zch_12
  | 13, _ => exact zch_13
  | 14, _ => exact zch_14
  | 15, _ => exact zch_15
  | 16, _ => exact zch_16
  | 17, _ => exact zch_17
  | 18, _ => exact zch_18
  | 19, _ => exact zch_19
  | 20, _ => exact zch_20
  | 21, _ => exact zch_21
  | 22, _ => exact zch_22
  | 23, _ => exact zch_23
  | 24, _ => exact zch_24
  | 25, _ => exact zch_25
  | 26, _ => exact zch_26
  | 27, _ => exact zch_27
  | 28, _ => exact zch_28
  | 29, _ => exact zch_29
  | 30, _ => exact zch_30
  | 31, _ => exact zch_31
  | 32, _ => exact zch_32
  | 33, _ => exact zch_33
  | 34, _ => exact zch_34
  | 35, _ => exact zch_35
  | 36, _ => exact zch_36
  | 37, _ => exact zch_37
  | 38, _ => exact zch_38
  | 39, _ => exact zch_39
  | 40, _ => exact zch_40
  | 41, _ => exact zch_41
  | 42, _ => exact zch_42
  | 43, _ => exact zch_43
  | 44, _ => exact zch_44
  | 45, _ => exact zch_45
  | 46, _ => exact zch_46
  | 47, _ => exact zch_47
  | 48, _ => exact zch_48
  | 49, _ => exact zch_49
  | 50, _ => exact zch_50
  | 51, _ => exact zch_51
  | 52, _ => exact zch_52
  | 53, _ => exact zch_53
  | 54, _ => exact zch_54
  | 55, _ => exact zch_55
  | 56, _ => exact zch_56
  | 57, _ => exact zch_57
  | 58, _ => exact zch_58
  | 59, _ => exact zch_59
  | 60, _ => exact zch_60
  | 61, _ => exact zch_61
  | 62, _ => exact zch_62
  | 63, _ => exact zch_63
  | 64, _ => exact zch_64
  | 65, _ => exact zch_65
  | 66, _ => exact zch_66
  | 67, _ => exact zch_67
  | 68, _ => exact zch_68
  | 69, _ => exact zch_69
  | 70, _ => exact zch_70
  | 71, _ => exact zch_71
  | 72, _ => exact zch_72
  | 73, _ => exact zch_73
  | 74, _ => exact zch_74
  | 75, _ => exact zch_75
  | 76, _ => exact zch_76
  | 77, _ => exact zch_77
  | 78, _ => exact zch_78
  | 79, _ => exact zch_79
  | 80, _ => exact zch_80
  | 81, _ => exact zch_81
  | 82, _ => exact zch_82
  | 83, _ => exact zch_83
  | 84, _ => exact zch_84
  | 85, _ => exact zch_85
  | 86, _ => exact zch_86
  | 87, _ => exact zch_87
  | 88, _ => exact zch_88
  | 89, _ => exact zch_89
  | 90, _ => exact zch_90
  | 91, _ => exact zch_91
  | 92, _ => exact zch_92
  | 93, _ => exact zch_93
  | 94, _ => exact zch_94
  | 95, _ => exact zch_95
  | 96, _ => exact zch_96
  | 97, _ => exact zch_97
  | 98, _ => exact zch_98
  | 99, _ => exact zch_99
  | 100, _ => exact zch_100
  | 101, _ => exact zch_101
  | 102, _ => exact zch_102
  | 103, _ => exact zch_103
  | 104, _ => exact zch_104
  | 105, _ => exact zch_105
  | 106, _ => exact zch_106
  | 107, _ => exact zch_107
  | 108, _ => exact zch_108
  | 109, _ => exact zch_109
  | 110, _ => exact zch_110
  | 111, _ => exact zch_111
  | 112, _ => exact zch_112
  | 113, _ => exact zch_113
  | 114, _ => exact zch_114
  | 115, _ => exact zch_115
  | 116, _ => exact zch_116
  | 117, _ => exact zch_117
  | 118, _ => exact zch_118
  | 119, _ => exact zch_119
  | 120, _ => exact zch_120
  | 121, _ => exact zch_121
  | 122, _ => exact zch_122
  | 123, _ => exact zch_123
  | 124, _ => exact zch_124
  | 125, _ => exact zch_125
  | 126, _ => exact zch_126
  | 127, _ => exact zch_127
  | 128, _ => exact zch_128
  | 129, _ => exact zch_129
  | 130, _ => exact zch_130
  | 131, _ => exact zch_131
  | 132, _ => exact zch_132
  | 133, _ => exact zch_133
  | 134, _ => exact zch_134
  | 135, _ => exact zch_135
  | 136, _ => exact zch_136
  | 137, _ => exact zch_137
  | 138, _ => exact zch_138
  | 139, _ => exact zch_139
  | 140, _ => exact zch_140
  | 141, _ => exact zch_141
  | 142, _ => exact zch_142
  | 143, _ => exact zch_143
  | 144, _ => exact zch_144
  | 145, _ => exact zch_145
  | 146, _ => exact zch_146
  | 147, _ => exact zch_147
  | 148, _ => exact zch_148
  | 149, _ => exact zch_149
  | 150, _ => exact zch_150
  | 151, _ => exact zch_151
  | 152, _ => exact zch_152
  | 153, _ => exact zch_153
  | 154, _ => exact zch_154
  | 155, _ => exact zch_155
  | 156, _ => exact zch_156
  | 157, _ => exact zch_157
  | 158, _ => exact zch_158
  | 159, _ => exact zch_159
  | 160, _ => exact zch_160
  | 161, _ => exact zch_161
  | 162, _ => exact zch_162
  | 163, _ => exact zch_163
  | 164, _ => exact zch_164
  | 165, _ => exact zch_165
  | k + 166, h => exact absurd h (by omega)
theorem zc_tr {k pc : Nat} (hk : k < 166) : (zc k pc).1 = 99 ∨ zc k pc = ztr (zoc k) (zrt k) (zini k) (zb k) pc := by
  have := zchk_ok _ 0 pc (zch k hk)
  rwa [Nat.zero_add] at this
end
section
theorem z32_w (z : Int) : Int32.ofInt (zw z) = Int32.ofInt z := by
  apply Int32.toInt_inj.mp
  rw [Int32.toInt_ofInt, Int32.toInt_ofInt]
  unfold zw
  simp only [Int.bmod_def, Int32.size]
  omega
theorem z64_w (z : Int) : Int64.ofInt (zW z) = Int64.ofInt z := by
  apply Int64.toInt_inj.mp
  rw [Int64.toInt_ofInt, Int64.toInt_ofInt]
  unfold zW
  simp only [Int.bmod_def, Int64.size]
  omega
theorem zw_r (z : Int) : -2147483648 ≤ zw z ∧ zw z < 2147483648 := by unfold zw; omega
theorem zW_r (z : Int) : -9223372036854775808 ≤ zW z ∧ zW z < 9223372036854775808 := by unfold zW; omega
theorem z32_add (x y : Int) : Int32.ofInt (zw (x + y)) = Int32.ofInt x + Int32.ofInt y := by rw [z32_w, Int32.ofInt_add]
theorem z32_sub (x y : Int) : Int32.ofInt (zw (x - y)) = Int32.ofInt x - Int32.ofInt y := by rw [z32_w, Int32.ofInt_sub]
theorem z32_mul (x y : Int) : Int32.ofInt (zw (x * y)) = Int32.ofInt x * Int32.ofInt y := by rw [z32_w, Int32.ofInt_mul]
theorem z32_neg (x : Int) : Int32.ofInt (zw (-x)) = -Int32.ofInt x := by rw [z32_w, Int32.ofInt_neg]
theorem z64_add (x y : Int) : Int64.ofInt (zW (x + y)) = Int64.ofInt x + Int64.ofInt y := by rw [z64_w, Int64.ofInt_add]
theorem z64_sub (x y : Int) : Int64.ofInt (zW (x - y)) = Int64.ofInt x - Int64.ofInt y := by rw [z64_w, Int64.ofInt_sub]
theorem z64_mul (x y : Int) : Int64.ofInt (zW (x * y)) = Int64.ofInt x * Int64.ofInt y := by rw [z64_w, Int64.ofInt_mul]
theorem z32_ti {x : Int} (h : -2147483648 ≤ x ∧ x < 2147483648) : (Int32.ofInt x).toInt = x := Int32.toInt_ofInt_of_le (by omega) (by omega)
theorem z64_ti {x : Int} (h : -9223372036854775808 ≤ x ∧ x < 9223372036854775808) : (Int64.ofInt x).toInt = x := Int64.toInt_ofInt_of_le (by omega) (by omega)
theorem z32_r (x : Int32) : -2147483648 ≤ x.toInt ∧ x.toInt < 2147483648 := ⟨Int32.le_toInt x, Int32.toInt_lt x⟩
theorem z64_r (x : Int64) : -9223372036854775808 ≤ x.toInt ∧ x.toInt < 9223372036854775808 := ⟨Int64.le_toInt x, Int64.toInt_lt x⟩
theorem z32_lt {x y : Int} (h : -2147483648 ≤ x ∧ x < 2147483648) (g : -2147483648 ≤ y ∧ y < 2147483648) : Int32.ofInt x < Int32.ofInt y ↔ x < y := by rw [Int32.lt_iff_toInt_lt, z32_ti h, z32_ti g]
theorem z32_le {x y : Int} (h : -2147483648 ≤ x ∧ x < 2147483648) (g : -2147483648 ≤ y ∧ y < 2147483648) : Int32.ofInt x ≤ Int32.ofInt y ↔ x ≤ y := by rw [Int32.le_iff_toInt_le, z32_ti h, z32_ti g]
theorem z32_eq {x y : Int} (h : -2147483648 ≤ x ∧ x < 2147483648) (g : -2147483648 ≤ y ∧ y < 2147483648) : Int32.ofInt x = Int32.ofInt y ↔ x = y := by rw [← Int32.toInt_inj, z32_ti h, z32_ti g]
theorem z32_64 {x : Int} (h : -2147483648 ≤ x ∧ x < 2147483648) : (Int32.ofInt x).toInt64 = Int64.ofInt x := by
  apply Int64.toInt_inj.mp
  rw [Int32.toInt_toInt64, z32_ti h, z64_ti (by omega)]
theorem z8_32 {x : Int} (h : -128 ≤ x ∧ x ≤ 127) : (Int8.ofInt x).toInt32 = Int32.ofInt x := by
  apply Int32.toInt_inj.mp
  rw [Int8.toInt_toInt32, z32_ti (by omega), Int8.toInt_ofInt_of_le (by omega) (by omega)]
theorem z16_32 {x : Int} (h : -32768 ≤ x ∧ x ≤ 32767) : (Int16.ofInt x).toInt32 = Int32.ofInt x := by
  apply Int32.toInt_inj.mp
  rw [Int16.toInt_toInt32, z32_ti (by omega), Int16.toInt_ofInt_of_le (by omega) (by omega)]
theorem z64_cmp {x y : Int} (h : -9223372036854775808 ≤ x ∧ x < 9223372036854775808) (g : -9223372036854775808 ≤ y ∧ y < 9223372036854775808) : lg_cmp (Int64.ofInt x) (Int64.ofInt y) = Int32.ofInt (zlcmp x y) := by
  unfold lg_cmp zlcmp
  simp only [gt_iff_lt, Int64.lt_iff_toInt_lt, ← Int64.toInt_inj, z64_ti h, z64_ti g]
  by_cases h1 : x < y
  · rw [if_neg (by omega), if_neg (by omega), if_pos h1]; rfl
  · by_cases h2 : x = y
    · rw [if_neg (by omega), if_pos h2, if_neg h1, if_pos h2]; rfl
    · rw [if_pos (by omega), if_neg h1, if_neg h2]; rfl
theorem z32_0 : Int32.ofInt 0 = 0 := rfl
theorem zcl_n {j : Int} {len : Nat} (h0 : 0 ≤ j) (h1 : j < len) (hr : -2147483648 ≤ j ∧ j < 2147483648) : vp_in (Int32.ofInt j) len ∧ (Int32.ofInt j).toNatClampNeg = j.toNat := by
  have e : (Int32.ofInt j).toInt = j := z32_ti hr
  refine ⟨vp_in_iff.mpr ⟨by rw [e]; exact h0, by rw [e]; exact h1⟩, ?_⟩
  show (Int32.ofInt j).toInt.toNat = j.toNat
  rw [e]
end
section
/-! THE WORLD of the clean machine as the kit's world: cell a lies at b + a -/
def zv (b : Nat) (v : zV) : Value := match v.1 with
  | 0 => .int (Int32.ofInt v.2)
  | 1 => .long (Int64.ofInt v.2)
  | _ => if v.2 ≤ 0 then .null else .ref (b + v.2.toNat)
def zE (b : Nat) (cA cN : ClassId) (q : Nat × Nat) (r : Int → Int) : va_E := match q.1 with
  | 0 => .inl (cA, q.2, .inl (fun j => Int32.ofInt (r j)))
  | 1 => .inl (cN, q.2, .inr (.inr (.inr (.inr (fun j => if r j ≤ 0 then none else some (b + (r j).toNat))))))
  | _ => .inr (q.2, (List.range (znf q.2)).map (fun j => zv b (zft q.2 j, r j)))
def zws (b : Nat) (cA cN : ClassId) (n : Int) (M : zM) : va_W := (List.range n.toNat).map (fun i => (b + (i + 1), zE b cA cN (zKT ((i : Int) + 1)) (M ((i : Int) + 1))))
def zr (n : Int) (v : zV) : Prop := match v.1 with
  | 0 => -2147483648 ≤ v.2 ∧ v.2 < 2147483648
  | 1 => -9223372036854775808 ≤ v.2 ∧ v.2 < 9223372036854775808
  | 2 => 0 ≤ v.2 ∧ v.2 ≤ n
  | _ => True
def zmt (q : Nat × Nat) (j : Nat) : Nat := match q.1 with
  | 0 => 0
  | 1 => 2
  | _ => zft q.2 j
def zRM (n : Int) (M : zM) : Prop := ∀ a j : Int, 1 ≤ a → a ≤ n → 0 ≤ j → zr n (zmt (zKT a) j.toNat, M a j)
def zRel (b : Nat) (D : va_G) (cA cN : ClassId) (n : Int) (M : zM) (H : Heap) : Prop := 0 ≤ n ∧ va_P D zcls (zws b cA cN n M) H ∧ zRM n M ∧ ∀ a j : Int, n < a → M a j = 0
theorem zr_up {n n' : Int} {v : zV} (h : n ≤ n') (q : zr n v) : zr n' v := by
  obtain ⟨t, x⟩ := v
  unfold zr at *
  dsimp only at *
  split at q <;> first | exact q | exact ⟨q.1, by omega⟩ | trivial
theorem zr_0 {n : Int} (hn : 0 ≤ n) (t : Nat) : zr n (t, 0) := by
  unfold zr
  dsimp only
  split <;> first | omega | trivial
theorem zft_lt (c j : Nat) : zft c j < 3 := by
  unfold zft
  rw [List.getD_eq_getElem?_getD, List.getD_eq_getElem?_getD]
  rcases Nat.lt_or_ge c 10 with h | h
  · match c, h with
    | 0, _ | 1, _ | 2, _ | 3, _ | 4, _ | 5, _ | 6, _ | 7, _ | 8, _ | 9, _ =>
      simp only [List.getElem?_cons_zero, List.getElem?_cons_succ, Option.getD_some]
      rcases Nat.lt_or_ge j 56 with g | g
      · revert j; decide +kernel
      · rw [List.getElem?_eq_none (Nat.le_trans (by decide) g)]; decide
  · obtain ⟨d, rfl⟩ : ∃ d, c = d + 10 := ⟨c - 10, by omega⟩
    simp
theorem zws_at {b : Nat} {cA cN : ClassId} {n a : Int} {M : zM} (h1 : 1 ≤ a) (h2 : a ≤ n) : (zws b cA cN n M)[a.toNat - 1]? = some (b + a.toNat, zE b cA cN (zKT a) (M a)) := by
  unfold zws
  have e1 : a.toNat - 1 < n.toNat := by omega
  rw [List.getElem?_map, List.getElem?_range e1]
  have e2 : ((a.toNat - 1 : Nat) : Int) + 1 = a := by omega
  have e3 : b + (a.toNat - 1 + 1) = b + a.toNat := by omega
  simp only [Option.map_some, e2, e3]
theorem zws_get {b : Nat} {cA cN : ClassId} {n : Int} {M : zM} {i : Nat} {q : Nat × va_E} (h : (zws b cA cN n M)[i]? = some q) : i < n.toNat ∧ q = (b + (i + 1), zE b cA cN (zKT ((i : Int) + 1)) (M ((i : Int) + 1))) := by
  unfold zws at h
  rw [List.getElem?_map] at h
  rcases Nat.lt_or_ge i n.toNat with g | g
  · rw [List.getElem?_range g] at h
    exact ⟨g, (Option.some.inj h).symm⟩
  · rw [List.getElem?_eq_none (by simpa using g)] at h; cases h
theorem zws_D {b : Nat} {cA cN : ClassId} {n : Int} {M : zM} : va_D (fun q => b + 1 ≤ q) (zws b cA cN n M) := by
  refine ⟨fun i j p q hp hq e => ?_, fun k q hq => ?_⟩
  · rw [(zws_get hp).2, (zws_get hq).2] at e
    dsimp only at e
    omega
  · rw [(zws_get hq).2]
    dsimp only
    omega
theorem zws_set {b : Nat} {cA cN : ClassId} {n a : Int} {M M' : zM} {x : va_E} (h1 : 1 ≤ a) (h2 : a ≤ n) (hx : x = zE b cA cN (zKT a) (M' a)) (ho : ∀ c, c ≠ a → M' c = M c) : (zws b cA cN n M).set (a.toNat - 1) (b + a.toNat, x) = zws b cA cN n M' := by
  apply List.ext_getElem?
  intro i
  rw [List.getElem?_set]
  have hl : (zws b cA cN n M).length = n.toNat := by simp [zws]
  split
  · rename_i e
    subst e
    rw [if_pos (by rw [hl]; omega), zws_at h1 h2, hx]
  · rename_i e
    unfold zws
    rw [List.getElem?_map, List.getElem?_map]
    rcases Nat.lt_or_ge i n.toNat with g | g
    · rw [List.getElem?_range g, Option.map_some, Option.map_some, ho ((i : Int) + 1) (by omega)]
    · rw [List.getElem?_eq_none (by simpa using g)]; rfl
theorem zws_push {b : Nat} {cA cN : ClassId} {n : Int} {M : zM} (h : 0 ≤ n) : zws b cA cN (n + 1) M = zws b cA cN n M ++ [(b + (n + 1).toNat, zE b cA cN (zKT (n + 1)) (M (n + 1)))] := by
  unfold zws
  have e : (n + 1).toNat = n.toNat + 1 := by omega
  have e2 : ((n.toNat : Nat) : Int) + 1 = n + 1 := by omega
  rw [e, List.range_succ, List.map_append]
  simp only [List.map_cons, List.map_nil, e2]
theorem zset_row (M : zM) (a i v : Int) : ∀ c, c ≠ a → zset M a i v c = M c := by
  intro c h
  funext j
  unfold zset
  rw [if_neg (fun q => h q.1)]
theorem zset_at (M : zM) (a i v : Int) : zset M a i v a = fun j => if j = i then v else M a j := by
  funext j
  unfold zset
  by_cases h : j = i
  · rw [if_pos ⟨rfl, h⟩, if_pos h]
  · rw [if_neg (fun q => h q.2), if_neg h]
theorem zRM_set {n : Int} {M : zM} {a i v : Int} (h : zRM n M) (hv : zr n (zmt (zKT a) i.toNat, v)) : zRM n (zset M a i v) := by
  intro c j h1 h2 h3
  unfold zset
  by_cases e : c = a ∧ j = i
  · rw [if_pos e, e.1, e.2]; exact hv
  · rw [if_neg e]; exact h c j h1 h2 h3
theorem zset_z {n : Int} {M : zM} {a i v : Int} (h : ∀ c j : Int, n < c → M c j = 0) (ha : a ≤ n) : ∀ c j : Int, n < c → zset M a i v c j = 0 := by
  intro c j hc
  unfold zset
  rw [if_neg (fun q => by omega)]
  exact h c j hc
/-- locals -/
def zlv (b : Nat) : Nat → List zV → List (Nat × Value)
  | _, [] => []
  | i, v :: l => if v.1 = 3 then zlv b (i + 1) l else (i, zv b v) :: zlv b (i + 1) l
theorem zlv_mem {b : Nat} : ∀ {L : List zV} {i : Nat} {q : Nat × Value}, q ∈ zlv b i L ↔ ∃ k v, znth L k = some v ∧ v.1 ≠ 3 ∧ q = (i + k, zv b v)
  | [], i, q => by simp [zlv, znth]
  | v :: l, i, q => by
    have ih := zlv_mem (b := b) (L := l) (i := i + 1) (q := q)
    unfold zlv
    constructor
    · intro h
      by_cases e : v.1 = 3
      · rw [if_pos e] at h
        obtain ⟨k, w, h1, h2, h3⟩ := ih.mp h
        exact ⟨k + 1, w, h1, h2, by rw [h3, show i + 1 + k = i + (k + 1) by omega]⟩
      · rw [if_neg e] at h
        rcases List.mem_cons.mp h with h | h
        · exact ⟨0, v, rfl, e, h⟩
        · obtain ⟨k, w, h1, h2, h3⟩ := ih.mp h
          exact ⟨k + 1, w, h1, h2, by rw [h3, show i + 1 + k = i + (k + 1) by omega]⟩
    · rintro ⟨k, w, h1, h2, h3⟩
      cases k with
      | zero =>
        cases h1
        rw [if_neg h2, h3]
        exact List.mem_cons_self
      | succ k =>
        have := ih.mpr ⟨k, w, h1, h2, by rw [h3, show i + 1 + k = i + (k + 1) by omega]⟩
        split
        · exact this
        · exact List.mem_cons_of_mem _ this
theorem znth_lt : ∀ {L : List zV} {k : Nat} {v : zV}, znth L k = some v → k < L.length
  | [], _, _, h => by cases h
  | _ :: _, 0, _, _ => Nat.succ_pos _
  | _ :: l, k + 1, _, h => Nat.succ_lt_succ (znth_lt (L := l) h)
theorem znth_mem : ∀ {L : List zV} {k : Nat} {v : zV}, znth L k = some v → v ∈ L
  | [], _, _, h => by cases h
  | _ :: _, 0, _, h => by cases h; exact List.mem_cons_self
  | _ :: l, k + 1, _, h => List.mem_cons_of_mem _ (znth_mem (L := l) h)
theorem zst1_len : ∀ (L : List zV) (k : Nat) (v : zV), (zst1 L k v).length = L.length
  | [], _, _ => by simp [zst1]
  | _ :: _, 0, _ => by simp [zst1]
  | w :: l, 1, v => by simp [zst1, zst1_len l 0 v]
  | w :: l, k + 2, v => by simp [zst1, zst1_len l (k + 1) v]
theorem zst2_len : ∀ (L : List zV) (k : Nat) (v : zV), (zst2 L k v).length = L.length
  | [], _, _ => by simp [zst2]
  | [_], 0, _ => by simp [zst2]
  | _ :: _ :: _, 0, _ => by simp [zst2]
  | w :: l, 1, v => by simp [zst2, zst2_len l 0 v]
  | w :: l, k + 2, v => by simp [zst2, zst2_len l (k + 1) v]
/-- what stands in the locals behind a store -/
theorem zst1_nth : ∀ (L : List zV) (k : Nat) (v : zV) (j : Nat) (w : zV), znth (zst1 L k v) j = some w → w.1 ≠ 3 → (j = k ∧ w = v) ∨ (j ≠ k ∧ znth L j = some w ∧ ¬ (j + 1 = k ∧ w.1 = 1))
  | [], k, v, j, w, h, _ => by simp [zst1, znth] at h
  | u :: l, 0, v, j, w, h, _ => by
    cases j with
    | zero => left; simp only [zst1, znth] at h; exact ⟨rfl, (Option.some.inj h).symm⟩
    | succ j => right; simp only [zst1, znth] at h; exact ⟨by omega, h, by omega⟩
  | u :: l, 1, v, j, w, h, hw => by
    cases j with
    | zero =>
      right
      simp only [zst1, znth] at h
      split at h
      · cases h; exact absurd rfl hw
      · rename_i e
        cases h
        exact ⟨by omega, rfl, fun q => e q.2⟩
    | succ j =>
      simp only [zst1, znth] at h
      rcases zst1_nth l 0 v j w h hw with ⟨a, c⟩ | ⟨a, c, d⟩
      · left; exact ⟨by omega, c⟩
      · right; exact ⟨by omega, c, by omega⟩
  | u :: l, k + 2, v, j, w, h, hw => by
    cases j with
    | zero =>
      right
      simp only [zst1, znth] at h
      cases h
      exact ⟨by omega, rfl, by omega⟩
    | succ j =>
      simp only [zst1, znth] at h
      rcases zst1_nth l (k + 1) v j w h hw with ⟨a, c⟩ | ⟨a, c, d⟩
      · left; exact ⟨by omega, c⟩
      · right; exact ⟨by omega, c, fun q => d ⟨by omega, q.2⟩⟩
theorem zst2_nth : ∀ (L : List zV) (k : Nat) (v : zV) (j : Nat) (w : zV), znth (zst2 L k v) j = some w → w.1 ≠ 3 → (j = k ∧ w = v) ∨ (j ≠ k ∧ j ≠ k + 1 ∧ znth L j = some w ∧ ¬ (j + 1 = k ∧ w.1 = 1))
  | [], k, v, j, w, h, _ => by simp [zst2, znth] at h
  | [u], 0, v, j, w, h, _ => by
    cases j with
    | zero => left; simp only [zst2, znth] at h; exact ⟨rfl, (Option.some.inj h).symm⟩
    | succ j => simp [zst2, znth] at h
  | u :: u2 :: l, 0, v, j, w, h, hw => by
    cases j with
    | zero => left; simp only [zst2, znth] at h; exact ⟨rfl, (Option.some.inj h).symm⟩
    | succ j =>
      cases j with
      | zero => simp only [zst2, znth] at h; cases h; exact absurd rfl hw
      | succ j => right; simp only [zst2, znth] at h; exact ⟨by omega, by omega, h, by omega⟩
  | u :: l, 1, v, j, w, h, hw => by
    cases j with
    | zero =>
      right
      simp only [zst2, znth] at h
      split at h
      · cases h; exact absurd rfl hw
      · rename_i e
        cases h
        exact ⟨by omega, by omega, rfl, fun q => e q.2⟩
    | succ j =>
      simp only [zst2, znth] at h
      rcases zst2_nth l 0 v j w h hw with ⟨a, c⟩ | ⟨a, a2, c, d⟩
      · left; exact ⟨by omega, c⟩
      · right; exact ⟨by omega, by omega, c, by omega⟩
  | u :: l, k + 2, v, j, w, h, hw => by
    cases j with
    | zero =>
      right
      simp only [zst2, znth] at h
      cases h
      exact ⟨by omega, by omega, rfl, by omega⟩
    | succ j =>
      simp only [zst2, znth] at h
      rcases zst2_nth l (k + 1) v j w h hw with ⟨a, c⟩ | ⟨a, a2, c, d⟩
      · left; exact ⟨by omega, c⟩
      · right; exact ⟨by omega, by omega, c, fun q => d ⟨by omega, q.2⟩⟩
theorem zv_cat (b : Nat) (v : zV) : (zv b v).category = 2 ↔ v.1 = 1 := by
  obtain ⟨t, x⟩ := v
  unfold zv
  match t with
  | 0 => simp [Value.category]
  | 1 => simp [Value.category]
  | t + 2 =>
    show (if x ≤ 0 then Value.null else Value.ref (b + x.toNat)).category = 2 ↔ t + 2 = 1
    split <;> simp [Value.category]
theorem zst1_has {b nL : Nat} {L : List zV} {k : Nat} {v : zV} {ls : Array Slot} (h : lv_has ls nL ((k, zv b v) :: (zlv b 0 L).filter (fun q => !(q.1 == k) && !(q.1 + 1 == k && q.2.category == 2)))) : lv_has ls nL (zlv b 0 (zst1 L k v)) := by
  refine ⟨h.1, h.2.1, fun q hq => h.2.2 q ?_⟩
  obtain ⟨j, w, h1, h2, rfl⟩ := zlv_mem.mp hq
  rw [Nat.zero_add]
  rcases zst1_nth L k v j w h1 h2 with ⟨rfl, rfl⟩ | ⟨a, c, d⟩
  · exact List.mem_cons_self
  · refine List.mem_cons_of_mem _ (List.mem_filter.mpr ⟨zlv_mem.mpr ⟨j, w, c, h2, by rw [Nat.zero_add]⟩, ?_⟩)
    simp only [Bool.and_eq_true, Bool.not_eq_true', beq_eq_false_iff_ne, ne_eq, Bool.and_eq_false_iff]
    refine ⟨a, ?_⟩
    by_cases e : j + 1 = k
    · right; rw [zv_cat]; exact fun q => d ⟨e, q⟩
    · left; exact e
theorem zst2_has {b nL : Nat} {L : List zV} {k : Nat} {v : zV} {ls : Array Slot} (h : lv_has ls nL ((k, zv b v) :: (zlv b 0 L).filter (fun q => !(q.1 == k) && (!(q.1 == k + 1) && !(q.1 + 1 == k && q.2.category == 2))))) : lv_has ls nL (zlv b 0 (zst2 L k v)) := by
  refine ⟨h.1, h.2.1, fun q hq => h.2.2 q ?_⟩
  obtain ⟨j, w, h1, h2, rfl⟩ := zlv_mem.mp hq
  rw [Nat.zero_add]
  rcases zst2_nth L k v j w h1 h2 with ⟨rfl, rfl⟩ | ⟨a, a2, c, d⟩
  · exact List.mem_cons_self
  · refine List.mem_cons_of_mem _ (List.mem_filter.mpr ⟨zlv_mem.mpr ⟨j, w, c, h2, by rw [Nat.zero_add]⟩, ?_⟩)
    simp only [Bool.and_eq_true, Bool.not_eq_true', beq_eq_false_iff_ne, ne_eq, Bool.and_eq_false_iff]
    refine ⟨a, a2, ?_⟩
    by_cases e : j + 1 = k
    · right; rw [zv_cat]; exact fun q => d ⟨e, q⟩
    · left; exact e
theorem zst1_r {n : Int} : ∀ {L : List zV} {k : Nat} {v : zV}, (∀ w ∈ L, zr n w) → zr n v → ∀ w ∈ zst1 L k v, zr n w
  | [], _, _, _, _ => by simp [zst1]
  | u :: l, 0, v, h, hv => by
    intro w hw
    simp only [zst1] at hw
    rcases List.mem_cons.mp hw with rfl | hw
    · exact hv
    · exact h w (List.mem_cons_of_mem _ hw)
  | u :: l, 1, v, h, hv => by
    intro w hw
    simp only [zst1] at hw
    rcases List.mem_cons.mp hw with rfl | hw
    · split
      · trivial
      · exact h u List.mem_cons_self
    · exact zst1_r (fun w q => h w (List.mem_cons_of_mem _ q)) hv w hw
  | u :: l, k + 2, v, h, hv => by
    intro w hw
    simp only [zst1] at hw
    rcases List.mem_cons.mp hw with rfl | hw
    · exact h _ List.mem_cons_self
    · exact zst1_r (fun w q => h w (List.mem_cons_of_mem _ q)) hv w hw
theorem zst2_r {n : Int} : ∀ {L : List zV} {k : Nat} {v : zV}, (∀ w ∈ L, zr n w) → zr n v → ∀ w ∈ zst2 L k v, zr n w
  | [], _, _, _, _ => by simp [zst2]
  | [u], 0, v, h, hv => by
    intro w hw
    simp only [zst2] at hw
    rcases List.mem_cons.mp hw with rfl | hw
    · exact hv
    · cases hw
  | u :: u2 :: l, 0, v, h, hv => by
    intro w hw
    simp only [zst2] at hw
    rcases List.mem_cons.mp hw with rfl | hw
    · exact hv
    · rcases List.mem_cons.mp hw with rfl | hw
      · trivial
      · exact h w (List.mem_cons_of_mem _ (List.mem_cons_of_mem _ hw))
  | u :: l, 1, v, h, hv => by
    intro w hw
    simp only [zst2] at hw
    rcases List.mem_cons.mp hw with rfl | hw
    · split
      · trivial
      · exact h u List.mem_cons_self
    · exact zst2_r (fun w q => h w (List.mem_cons_of_mem _ q)) hv w hw
  | u :: l, k + 2, v, h, hv => by
    intro w hw
    simp only [zst2] at hw
    rcases List.mem_cons.mp hw with rfl | hw
    · exact h _ List.mem_cons_self
    · exact zst2_r (fun w q => h w (List.mem_cons_of_mem _ q)) hv w hw
theorem zcats_eq (b : Nat) : ∀ (st : List zV), ((st.map (zv b)).map fun v => v.category).sum = zcats st
  | [] => rfl
  | v :: r => by
    have h1 := zv_cat b v
    have h2 := lv_cat (zv b v)
    simp only [List.map_cons, List.sum_cons, zcats, zcats_eq b r]
    by_cases e : v.1 = 1
    · rw [if_pos e, h1.mpr e]
    · rw [if_neg e]
      rcases h2 with h2 | h2
      · rw [h2]
      · exact absurd (h1.mp h2) e
end
section
/-! THE MACHINE KEEPS THE CLEAN RULES: zP says of a frame of the real machine what zG says of the clean one -/
def zrm (k : Nat) : Room := { frames := zfr k, cells := zmc k, slots := zms k, locals := zlo k }
def zwd (k : Nat) : List Cond := .code (zy k) (zb k) (zml k) (zrt0 k) :: zwl
def zKs (D : va_G) (cA cN : ClassId) (U : State) : Prop := va_K D zcls [(cA, .int), (cN, .object "TieOffice$Net")] U ∧ va_AO "TieOffice$Net" U ∧ ∀ w ∈ zNW, va_Nw w U
def zQc (b : Nat) (D : va_G) (cA cN : ClassId) (k : Nat) (Q : zQ) : Array Value → State → Outcome → State → Prop := match zrt k with
  | 1 => va_Ql (fun (r : Int64) (u : Int × zM) => Q r.toInt u.1 u.2) (fun u t => zRel b D cA cN u.1 u.2 t.heap) (fun q => b + 1 ≤ q)
  | 2 => va_Qv (fun (u : Int × zM) => Q 0 u.1 u.2) (fun u t => zRel b D cA cN u.1 u.2 t.heap) (fun q => b + 1 ≤ q)
  | _ => va_Qi (fun (r : Int32) (u : Int × zM) => Q r.toInt u.1 u.2) (fun u t => zRel b D cA cN u.1 u.2 t.heap) (fun q => b + 1 ≤ q)
def zsr (n : Int) (st : List zV) : Prop := ∀ v ∈ st, zr n v ∧ v.1 < 3
theorem zsr_c {n : Int} {v : zV} {r : List zV} : zsr n (v :: r) ↔ (zr n v ∧ v.1 < 3) ∧ zsr n r := ⟨fun h => ⟨h v List.mem_cons_self, fun w hw => h w (List.mem_cons_of_mem _ hw)⟩, fun h w hw => (List.mem_cons.mp hw).elim (fun e => e ▸ h.1) (h.2 w)⟩
/-- what stays through a frame -/
def zFx (b : Nat) (D : va_G) (cA cN : ClassId) (k : Nat) (n0 : Int) (Q : zQ) (p : Program) (s : State) (m : MethodId) (args : Array Value) (meth : Method) (c : Code) : Prop :=
  k < 166 ∧ p.tables.exec = Jvm.exec ∧ c.code = zb k ∧ c.maxLocals = zml k ∧ meth.sig.returnType = zrt0 k ∧ s.vm.findClass (zcnm (zoc k)) = some m.cls ∧ (zini k = true → meth.name = "<init>") ∧ meth.locks = false ∧ (∀ w ∈ zwl, w.before args s = true) ∧ zKs D cA cN s ∧ (s.heap.size : Int) = b + 1 + n0 ∧ 0 ≤ n0 ∧ ∀ r n' M', Q r n' M' → zal k n0 n'
/-- what changes -/
def zVr (b : Nat) (D : va_G) (cA cN : ClassId) (k : Nat) (n0 : Int) (L st : List zV) (n : Int) (M : zM) (s : State) (H : Heap) (locs : List Loc) (cells slots : Nat) (ls : Array Slot) : Prop :=
  n = n0 + cells ∧ zsl n = zsl n0 + slots ∧ cells ≤ zmc k ∧ slots ≤ zms k ∧ zRel b D cA cN n M H ∧ va_S (fun q => b + 1 ≤ q) s.heap H locs ∧ lv_has ls (zml k) (zlv b 0 L) ∧ L.length = zml k ∧ (∀ v ∈ L, zr n v) ∧ zsr n st
abbrev zGo (l : Launch) (b : Nat) (D : va_G) (cA cN : ClassId) (k : Nat) (Q : zQ) (p : Program) (e : Env) (s : State) (m : MethodId) (args : Array Value) (below : List Frame) (meth : Method) (c : Code) (H : Heap) (locs : List Loc) (cells slots : Nat) (g : JFrame) : Prop :=
  W p l e (zrm k) s m args below meth c H locs cells slots (MQ below (zQc b D cA cN k Q) args s (zmc k) (zms k) (fun q => b + 1 ≤ q)) g
def zP (l : Launch) (b : Nat) (D : va_G) (cA cN : ClassId) : zPt := fun k n0 Q pc L st n M =>
  ∀ (p : Program) (e : Env) (s : State) (m : MethodId) (args : Array Value) (below : List Frame) (meth : Method) (c : Code) (H : Heap) (locs : List Loc) (cells slots : Nat) (ls : Array Slot),
    zFx b D cA cN k n0 Q p s m args meth c → zVr b D cA cN k n0 L st n M s H locs cells slots ls → zGo l b D cA cN k Q p e s m args below meth c H locs cells slots (F0 m pc ls (st.map (zv b)))
theorem zlcmp_r (x y : Int) : -2147483648 ≤ zlcmp x y ∧ zlcmp x y < 2147483648 := by
  unfold zlcmp
  split
  · omega
  · split <;> omega
section ZR
variable {l : Launch} {b : Nat} {D : va_G} {cA cN : ClassId} {k : Nat} {n0 : Int} {Q : zQ} {pc nx : Nat} {L L' st st' r : List zV} {n : Int} {M : zM} {p : Program} {e : Env} {s : State} {m : MethodId} {args : Array Value} {below : List Frame} {meth : Method} {c : Code} {H : Heap} {locs : List Loc} {cells slots : Nat} {ls : Array Slot}
theorem zVr_st (V : zVr b D cA cN k n0 L st n M s H locs cells slots ls) (hs : zsr n st') : zVr b D cA cN k n0 L st' n M s H locs cells slots ls := by
  obtain ⟨a1, a2, a3, a4, a5, a6, a7, a8, a9, -⟩ := V
  exact ⟨a1, a2, a3, a4, a5, a6, a7, a8, a9, hs⟩
theorem zVr_sr (V : zVr b D cA cN k n0 L st n M s H locs cells slots ls) : zsr n st := V.2.2.2.2.2.2.2.2.2
theorem zVr_lv (V : zVr b D cA cN k n0 L st n M s H locs cells slots ls) : lv_has ls (zml k) (zlv b 0 L) := V.2.2.2.2.2.2.1
theorem zVr_len (V : zVr b D cA cN k n0 L st n M s H locs cells slots ls) : L.length = zml k := V.2.2.2.2.2.2.2.1
theorem zVr_lr (V : zVr b D cA cN k n0 L st n M s H locs cells slots ls) : ∀ v ∈ L, zr n v := V.2.2.2.2.2.2.2.2.1
theorem zVr_rel (V : zVr b D cA cN k n0 L st n M s H locs cells slots ls) : zRel b D cA cN n M H := V.2.2.2.2.1
theorem zVr_S (V : zVr b D cA cN k n0 L st n M s H locs cells slots ls) : va_S (fun q => b + 1 ≤ q) s.heap H locs := V.2.2.2.2.2.1
/-- the stack alone changes -/
theorem zstk (h : zP l b D cA cN k n0 Q nx L st' n M) (F : zFx b D cA cN k n0 Q p s m args meth c) (V : zVr b D cA cN k n0 L st n M s H locs cells slots ls) (hs : zsr n st')
    (row : zGo l b D cA cN k Q p e s m args below meth c H locs cells slots (F0 m nx ls (st'.map (zv b))) → zGo l b D cA cN k Q p e s m args below meth c H locs cells slots (F0 m pc ls (st.map (zv b)))) : zGo l b D cA cN k Q p e s m args below meth c H locs cells slots (F0 m pc ls (st.map (zv b))) :=
  row (h p e s m args below meth c H locs cells slots ls F (zVr_st V hs))
theorem zo_iconst {v : Int} (F : zFx b D cA cN k n0 Q p s m args meth c) (V : zVr b D cA cN k n0 L (st) n M s H locs cells slots ls) (hdg : decode (zb k) pc = .ok (.iconst v, 1)) (hv : -1 ≤ v ∧ v ≤ 5) (h : zP l b D cA cN k n0 Q (pc + 1) (L) ((0, v) :: st) (n) (M)) : zGo l b D cA cN k Q p e s m args below meth c H locs cells slots (F0 m pc ls ((st).map (zv b))) := by
  exact zstk h F V (zsr_c.mpr ⟨⟨⟨by dsimp only; omega, by dsimp only; omega⟩, by dsimp only; omega⟩, zVr_sr V⟩) (fun g => lv_iconst F.2.1 F.2.2.1 hdg rfl g)
theorem zo_bipush {v : Int} (F : zFx b D cA cN k n0 Q p s m args meth c) (V : zVr b D cA cN k n0 L (st) n M s H locs cells slots ls) (hdg : decode (zb k) pc = .ok (.bipush v, 2)) (hv : -128 ≤ v ∧ v ≤ 127) (h : zP l b D cA cN k n0 Q (pc + 2) (L) ((0, v) :: st) (n) (M)) : zGo l b D cA cN k Q p e s m args below meth c H locs cells slots (F0 m pc ls ((st).map (zv b))) := by
  exact zstk h F V (zsr_c.mpr ⟨⟨⟨by dsimp only; omega, by dsimp only; omega⟩, by dsimp only; omega⟩, zVr_sr V⟩) (fun g => lv_bipush F.2.1 F.2.2.1 hdg (z8_32 hv) g)
theorem zo_sipush {v : Int} (F : zFx b D cA cN k n0 Q p s m args meth c) (V : zVr b D cA cN k n0 L (st) n M s H locs cells slots ls) (hdg : decode (zb k) pc = .ok (.sipush v, 3)) (hv : -32768 ≤ v ∧ v ≤ 32767) (h : zP l b D cA cN k n0 Q (pc + 3) (L) ((0, v) :: st) (n) (M)) : zGo l b D cA cN k Q p e s m args below meth c H locs cells slots (F0 m pc ls ((st).map (zv b))) := by
  exact zstk h F V (zsr_c.mpr ⟨⟨⟨by dsimp only; omega, by dsimp only; omega⟩, by dsimp only; omega⟩, zVr_sr V⟩) (fun g => lv_sipush F.2.1 F.2.2.1 hdg (z16_32 hv) g)
theorem zo_ldc {v : Int} {i : Nat} (F : zFx b D cA cN k n0 Q p s m args meth c) (V : zVr b D cA cN k n0 L (st) n M s H locs cells slots ls) (hdg : decode (zb k) pc = .ok (.ldc i, 2)) (hw : Cond.constant (zcnm (zoc k)) i (Int32.ofInt v) ∈ zwl) (hv : -2147483648 ≤ v ∧ v < 2147483648) (h : zP l b D cA cN k n0 Q (pc + 2) (L) ((0, v) :: st) (n) (M)) : zGo l b D cA cN k Q p e s m args below meth c H locs cells slots (F0 m pc ls ((st).map (zv b))) := by
  exact zstk h F V (zsr_c.mpr ⟨⟨hv, by dsimp only; omega⟩, zVr_sr V⟩) (fun g => lv_ldc F.2.1 F.2.2.1 F.2.2.2.2.2.1 (F.2.2.2.2.2.2.2.2.1 _ hw) hdg g)
theorem zo_ldcw {v : Int} {i : Nat} (F : zFx b D cA cN k n0 Q p s m args meth c) (V : zVr b D cA cN k n0 L (st) n M s H locs cells slots ls) (hdg : decode (zb k) pc = .ok (.ldc_w i, 3)) (hw : Cond.constant (zcnm (zoc k)) i (Int32.ofInt v) ∈ zwl) (hv : -2147483648 ≤ v ∧ v < 2147483648) (h : zP l b D cA cN k n0 Q (pc + 3) (L) ((0, v) :: st) (n) (M)) : zGo l b D cA cN k Q p e s m args below meth c H locs cells slots (F0 m pc ls ((st).map (zv b))) := by
  exact zstk h F V (zsr_c.mpr ⟨⟨hv, by dsimp only; omega⟩, zVr_sr V⟩) (fun g => lv_ldcw F.2.1 F.2.2.1 F.2.2.2.2.2.1 (F.2.2.2.2.2.2.2.2.1 _ hw) hdg g)
theorem zo_ldc2 {v : Int} {i : Nat} (F : zFx b D cA cN k n0 Q p s m args meth c) (V : zVr b D cA cN k n0 L (st) n M s H locs cells slots ls) (hdg : decode (zb k) pc = .ok (.ldc2_w i, 3)) (hw : Cond.constantLong (zcnm (zoc k)) i (Int64.ofInt v) ∈ zwl) (hv : -9223372036854775808 ≤ v ∧ v < 9223372036854775808) (h : zP l b D cA cN k n0 Q (pc + 3) (L) ((1, v) :: st) (n) (M)) : zGo l b D cA cN k Q p e s m args below meth c H locs cells slots (F0 m pc ls ((st).map (zv b))) := by
  exact zstk h F V (zsr_c.mpr ⟨⟨hv, by dsimp only; omega⟩, zVr_sr V⟩) (fun g => lv_ldc2 F.2.1 F.2.2.1 F.2.2.2.2.2.1 (F.2.2.2.2.2.2.2.2.1 _ hw) hdg g)
theorem zo_lconst {v : Fin 2} (F : zFx b D cA cN k n0 Q p s m args meth c) (V : zVr b D cA cN k n0 L (st) n M s H locs cells slots ls) (hdg : decode (zb k) pc = .ok (.lconst v, 1)) (h : zP l b D cA cN k n0 Q (pc + 1) (L) ((1, ((v : Nat) : Int)) :: st) (n) (M)) : zGo l b D cA cN k Q p e s m args below meth c H locs cells slots (F0 m pc ls ((st).map (zv b))) := by
  exact zstk h F V (zsr_c.mpr ⟨⟨⟨by dsimp only; omega, by dsimp only; omega⟩, by dsimp only; omega⟩, zVr_sr V⟩) (fun g => lv_lconst F.2.1 F.2.2.1 hdg rfl g)
theorem zo_iload {i : Nat} {x : Int} (F : zFx b D cA cN k n0 Q p s m args meth c) (V : zVr b D cA cN k n0 L (st) n M s H locs cells slots ls) (hdg : decode (zb k) pc = .ok (.iload i, 2)) (hl : znth L i = some (0, x)) (h : zP l b D cA cN k n0 Q (pc + 2) (L) ((0, x) :: st) (n) (M)) : zGo l b D cA cN k Q p e s m args below meth c H locs cells slots (F0 m pc ls ((st).map (zv b))) := by
  have hx := zVr_lr V _ (znth_mem hl)
  have hq : ls[(i : Nat)]? = some (.val (zv b (0, x))) := (zVr_lv V).2.2 (i, zv b (0, x)) (zlv_mem.mpr ⟨i, (0, x), hl, by dsimp only; omega, by rw [Nat.zero_add]⟩)
  exact zstk h F V (zsr_c.mpr ⟨⟨hx, by dsimp only; omega⟩, zVr_sr V⟩) (fun g => lv_iload F.2.1 F.2.2.1 hdg hq g)
theorem zo_iloadn {i : Fin 4} {x : Int} (F : zFx b D cA cN k n0 Q p s m args meth c) (V : zVr b D cA cN k n0 L (st) n M s H locs cells slots ls) (hdg : decode (zb k) pc = .ok (.iload_n i, 1)) (hl : znth L i = some (0, x)) (h : zP l b D cA cN k n0 Q (pc + 1) (L) ((0, x) :: st) (n) (M)) : zGo l b D cA cN k Q p e s m args below meth c H locs cells slots (F0 m pc ls ((st).map (zv b))) := by
  have hx := zVr_lr V _ (znth_mem hl)
  have hq : ls[(i : Nat)]? = some (.val (zv b (0, x))) := (zVr_lv V).2.2 (i, zv b (0, x)) (zlv_mem.mpr ⟨i, (0, x), hl, by dsimp only; omega, by rw [Nat.zero_add]⟩)
  exact zstk h F V (zsr_c.mpr ⟨⟨hx, by dsimp only; omega⟩, zVr_sr V⟩) (fun g => lv_iload_n F.2.1 F.2.2.1 hdg rfl hq g)
theorem zo_lload {i : Nat} {x : Int} (F : zFx b D cA cN k n0 Q p s m args meth c) (V : zVr b D cA cN k n0 L (st) n M s H locs cells slots ls) (hdg : decode (zb k) pc = .ok (.lload i, 2)) (hl : znth L i = some (1, x)) (h : zP l b D cA cN k n0 Q (pc + 2) (L) ((1, x) :: st) (n) (M)) : zGo l b D cA cN k Q p e s m args below meth c H locs cells slots (F0 m pc ls ((st).map (zv b))) := by
  have hx := zVr_lr V _ (znth_mem hl)
  have hq : ls[(i : Nat)]? = some (.val (zv b (1, x))) := (zVr_lv V).2.2 (i, zv b (1, x)) (zlv_mem.mpr ⟨i, (1, x), hl, by dsimp only; omega, by rw [Nat.zero_add]⟩)
  exact zstk h F V (zsr_c.mpr ⟨⟨hx, by dsimp only; omega⟩, zVr_sr V⟩) (fun g => lv_lload F.2.1 F.2.2.1 hdg hq g)
theorem zo_lloadn {i : Fin 4} {x : Int} (F : zFx b D cA cN k n0 Q p s m args meth c) (V : zVr b D cA cN k n0 L (st) n M s H locs cells slots ls) (hdg : decode (zb k) pc = .ok (.lload_n i, 1)) (hl : znth L i = some (1, x)) (h : zP l b D cA cN k n0 Q (pc + 1) (L) ((1, x) :: st) (n) (M)) : zGo l b D cA cN k Q p e s m args below meth c H locs cells slots (F0 m pc ls ((st).map (zv b))) := by
  have hx := zVr_lr V _ (znth_mem hl)
  have hq : ls[(i : Nat)]? = some (.val (zv b (1, x))) := (zVr_lv V).2.2 (i, zv b (1, x)) (zlv_mem.mpr ⟨i, (1, x), hl, by dsimp only; omega, by rw [Nat.zero_add]⟩)
  exact zstk h F V (zsr_c.mpr ⟨⟨hx, by dsimp only; omega⟩, zVr_sr V⟩) (fun g => lv_lload_n F.2.1 F.2.2.1 hdg rfl hq g)
theorem zo_aload {i : Nat} {x : Int} (F : zFx b D cA cN k n0 Q p s m args meth c) (V : zVr b D cA cN k n0 L (st) n M s H locs cells slots ls) (hdg : decode (zb k) pc = .ok (.aload i, 2)) (hl : znth L i = some (2, x)) (h0 : 0 < x) (h : zP l b D cA cN k n0 Q (pc + 2) (L) ((2, x) :: st) (n) (M)) : zGo l b D cA cN k Q p e s m args below meth c H locs cells slots (F0 m pc ls ((st).map (zv b))) := by
  have hx := zVr_lr V _ (znth_mem hl)
  have e1 : zv b (2, x) = .ref (b + x.toNat) := by show (if x ≤ 0 then Value.null else Value.ref (b + x.toNat)) = _; rw [if_neg (by omega)]
  have hq : ls[(i : Nat)]? = some (.val (.ref (b + x.toNat))) := by rw [← e1]; exact (zVr_lv V).2.2 (i, zv b (2, x)) (zlv_mem.mpr ⟨i, (2, x), hl, by dsimp only; omega, by rw [Nat.zero_add]⟩)
  exact zstk h F V (zsr_c.mpr ⟨⟨hx, by dsimp only; omega⟩, zVr_sr V⟩) (fun g => lv_aload F.2.1 F.2.2.1 hdg hq (by rw [← e1]; exact g))
theorem zo_aloadn {i : Fin 4} {x : Int} (F : zFx b D cA cN k n0 Q p s m args meth c) (V : zVr b D cA cN k n0 L (st) n M s H locs cells slots ls) (hdg : decode (zb k) pc = .ok (.aload_n i, 1)) (hl : znth L i = some (2, x)) (h0 : 0 < x) (h : zP l b D cA cN k n0 Q (pc + 1) (L) ((2, x) :: st) (n) (M)) : zGo l b D cA cN k Q p e s m args below meth c H locs cells slots (F0 m pc ls ((st).map (zv b))) := by
  have hx := zVr_lr V _ (znth_mem hl)
  have e1 : zv b (2, x) = .ref (b + x.toNat) := by show (if x ≤ 0 then Value.null else Value.ref (b + x.toNat)) = _; rw [if_neg (by omega)]
  have hq : ls[(i : Nat)]? = some (.val (.ref (b + x.toNat))) := by rw [← e1]; exact (zVr_lv V).2.2 (i, zv b (2, x)) (zlv_mem.mpr ⟨i, (2, x), hl, by dsimp only; omega, by rw [Nat.zero_add]⟩)
  exact zstk h F V (zsr_c.mpr ⟨⟨hx, by dsimp only; omega⟩, zVr_sr V⟩) (fun g => lv_aload_n F.2.1 F.2.2.1 hdg rfl hq (by rw [← e1]; exact g))
theorem zVr_ls {v : zV} {ls' : Array Slot} (V : zVr b D cA cN k n0 L (v :: r) n M s H locs cells slots ls) (hl : lv_has ls' (zml k) (zlv b 0 L')) (hn : L'.length = L.length) (hr : ∀ w ∈ L', zr n w) : zVr b D cA cN k n0 L' r n M s H locs cells slots ls' := by
  obtain ⟨a1, a2, a3, a4, a5, a6, a7, a8, a9, a10⟩ := V
  exact ⟨a1, a2, a3, a4, a5, a6, hl, hn.trans a8, hr, (zsr_c.mp a10).2⟩
theorem zo_istore {i : Nat} {x : Int} {w : zV} (F : zFx b D cA cN k n0 Q p s m args meth c) (V : zVr b D cA cN k n0 L ((0, x) :: r) n M s H locs cells slots ls) (hdg : decode (zb k) pc = .ok (.istore i, 2)) (hl : znth L i = some w) (h : zP l b D cA cN k n0 Q (pc + 2) (zst1 L i (0, x)) (r) (n) (M)) : zGo l b D cA cN k Q p e s m args below meth c H locs cells slots (F0 m pc ls (((0, x) :: r).map (zv b))) := by
  have hi : (i : Nat) < zml k := by rw [← zVr_len V]; exact znth_lt hl
  refine lv_istore F.2.1 F.2.2.1 hdg (zVr_lv V) hi rfl (fun ls2 h2 => ?_)
  exact h p e s m args below meth c H locs cells slots ls2 F (zVr_ls V (zst1_has h2) (zst1_len _ _ _) (zst1_r (zVr_lr V) (zsr_c.mp (zVr_sr V)).1.1))
theorem zo_lstore {i : Nat} {x : Int} {w : zV} (F : zFx b D cA cN k n0 Q p s m args meth c) (V : zVr b D cA cN k n0 L ((1, x) :: r) n M s H locs cells slots ls) (hdg : decode (zb k) pc = .ok (.lstore i, 2)) (hl : znth L ((i : Nat) + 1) = some w) (h : zP l b D cA cN k n0 Q (pc + 2) (zst2 L i (1, x)) (r) (n) (M)) : zGo l b D cA cN k Q p e s m args below meth c H locs cells slots (F0 m pc ls (((1, x) :: r).map (zv b))) := by
  have hi : (i : Nat) + 1 < zml k := by rw [← zVr_len V]; exact znth_lt hl
  refine lv_lstore F.2.1 F.2.2.1 hdg (zVr_lv V) hi rfl (fun ls2 h2 => ?_)
  exact h p e s m args below meth c H locs cells slots ls2 F (zVr_ls V (zst2_has h2) (zst2_len _ _ _) (zst2_r (zVr_lr V) (zsr_c.mp (zVr_sr V)).1.1))
theorem zo_astore {i : Nat} {x : Int} {w : zV} (F : zFx b D cA cN k n0 Q p s m args meth c) (V : zVr b D cA cN k n0 L ((2, x) :: r) n M s H locs cells slots ls) (hdg : decode (zb k) pc = .ok (.astore i, 2)) (hl : znth L i = some w) (h0 : 0 < x) (h : zP l b D cA cN k n0 Q (pc + 2) (zst1 L i (2, x)) (r) (n) (M)) : zGo l b D cA cN k Q p e s m args below meth c H locs cells slots (F0 m pc ls (((2, x) :: r).map (zv b))) := by
  have hi : (i : Nat) < zml k := by rw [← zVr_len V]; exact znth_lt hl
  have e1 : zv b (2, x) = .ref (b + x.toNat) := by show (if x ≤ 0 then Value.null else Value.ref (b + x.toNat)) = _; rw [if_neg (by omega)]
  rw [List.map_cons, e1]
  refine lv_astore F.2.1 F.2.2.1 hdg (zVr_lv V) hi rfl (fun ls2 h2 => ?_)
  rw [← e1] at h2
  exact h p e s m args below meth c H locs cells slots ls2 F (zVr_ls V (zst1_has h2) (zst1_len _ _ _) (zst1_r (zVr_lr V) (zsr_c.mp (zVr_sr V)).1.1))
theorem zo_istoren {i : Fin 4} {x : Int} {w : zV} (F : zFx b D cA cN k n0 Q p s m args meth c) (V : zVr b D cA cN k n0 L ((0, x) :: r) n M s H locs cells slots ls) (hdg : decode (zb k) pc = .ok (.istore_n i, 1)) (hl : znth L i = some w) (h : zP l b D cA cN k n0 Q (pc + 1) (zst1 L i (0, x)) (r) (n) (M)) : zGo l b D cA cN k Q p e s m args below meth c H locs cells slots (F0 m pc ls (((0, x) :: r).map (zv b))) := by
  have hi : (i : Nat) < zml k := by rw [← zVr_len V]; exact znth_lt hl
  refine lv_istore_n F.2.1 F.2.2.1 hdg rfl (zVr_lv V) hi rfl (fun ls2 h2 => ?_)
  exact h p e s m args below meth c H locs cells slots ls2 F (zVr_ls V (zst1_has h2) (zst1_len _ _ _) (zst1_r (zVr_lr V) (zsr_c.mp (zVr_sr V)).1.1))
theorem zo_lstoren {i : Fin 4} {x : Int} {w : zV} (F : zFx b D cA cN k n0 Q p s m args meth c) (V : zVr b D cA cN k n0 L ((1, x) :: r) n M s H locs cells slots ls) (hdg : decode (zb k) pc = .ok (.lstore_n i, 1)) (hl : znth L ((i : Nat) + 1) = some w) (h : zP l b D cA cN k n0 Q (pc + 1) (zst2 L i (1, x)) (r) (n) (M)) : zGo l b D cA cN k Q p e s m args below meth c H locs cells slots (F0 m pc ls (((1, x) :: r).map (zv b))) := by
  have hi : (i : Nat) + 1 < zml k := by rw [← zVr_len V]; exact znth_lt hl
  refine lv_lstore_n F.2.1 F.2.2.1 hdg rfl (zVr_lv V) hi rfl (fun ls2 h2 => ?_)
  exact h p e s m args below meth c H locs cells slots ls2 F (zVr_ls V (zst2_has h2) (zst2_len _ _ _) (zst2_r (zVr_lr V) (zsr_c.mp (zVr_sr V)).1.1))
theorem zo_astoren {i : Fin 4} {x : Int} {w : zV} (F : zFx b D cA cN k n0 Q p s m args meth c) (V : zVr b D cA cN k n0 L ((2, x) :: r) n M s H locs cells slots ls) (hdg : decode (zb k) pc = .ok (.astore_n i, 1)) (hl : znth L i = some w) (h0 : 0 < x) (h : zP l b D cA cN k n0 Q (pc + 1) (zst1 L i (2, x)) (r) (n) (M)) : zGo l b D cA cN k Q p e s m args below meth c H locs cells slots (F0 m pc ls (((2, x) :: r).map (zv b))) := by
  have hi : (i : Nat) < zml k := by rw [← zVr_len V]; exact znth_lt hl
  have e1 : zv b (2, x) = .ref (b + x.toNat) := by show (if x ≤ 0 then Value.null else Value.ref (b + x.toNat)) = _; rw [if_neg (by omega)]
  rw [List.map_cons, e1]
  refine lv_astore_n F.2.1 F.2.2.1 hdg rfl (zVr_lv V) hi rfl (fun ls2 h2 => ?_)
  rw [← e1] at h2
  exact h p e s m args below meth c H locs cells slots ls2 F (zVr_ls V (zst1_has h2) (zst1_len _ _ _) (zst1_r (zVr_lr V) (zsr_c.mp (zVr_sr V)).1.1))
theorem zo_iinc {i : Nat} {v x : Int} (F : zFx b D cA cN k n0 Q p s m args meth c) (V : zVr b D cA cN k n0 L (st) n M s H locs cells slots ls) (hdg : decode (zb k) pc = .ok (.iinc i v, 3)) (hl : znth L i = some (0, x)) (h : zP l b D cA cN k n0 Q (pc + 3) (zst1 L i (0, zw (x + v))) (st) (n) (M)) : zGo l b D cA cN k Q p e s m args below meth c H locs cells slots (F0 m pc ls ((st).map (zv b))) := by
  have hi : i < zml k := by rw [← zVr_len V]; exact znth_lt hl
  have hm : (i, zv b (0, x)) ∈ zlv b 0 L := zlv_mem.mpr ⟨i, (0, x), hl, by dsimp only; omega, by rw [Nat.zero_add]⟩
  obtain ⟨j, hj⟩ := List.getElem?_of_mem hm
  refine lv_iinc (v := Int32.ofInt (zw (x + v))) F.2.1 F.2.2.1 hdg (zVr_lv V) hj (z32_add x v).symm hi rfl (fun ls2 h2 => ?_)
  refine h p e s m args below meth c H locs cells slots ls2 F ?_
  obtain ⟨a1, a2, a3, a4, a5, a6, a7, a8, a9, a10⟩ := V
  exact ⟨a1, a2, a3, a4, a5, a6, zst1_has (v := (0, zw (x + v))) h2, (zst1_len _ _ _).trans a8, zst1_r a9 (zw_r _), a10⟩
theorem zo_iadd {x y : Int} (F : zFx b D cA cN k n0 Q p s m args meth c) (V : zVr b D cA cN k n0 L ((0, y) :: (0, x) :: r) n M s H locs cells slots ls) (hdg : decode (zb k) pc = .ok (.iadd, 1)) (h : zP l b D cA cN k n0 Q (pc + 1) (L) ((0, zw (x + y)) :: r) (n) (M)) : zGo l b D cA cN k Q p e s m args below meth c H locs cells slots (F0 m pc ls (((0, y) :: (0, x) :: r).map (zv b))) := by
  exact zstk h F V (zsr_c.mpr ⟨⟨zw_r _, by dsimp only; omega⟩, (zsr_c.mp (zsr_c.mp (zVr_sr V)).2).2⟩) (fun g => lv_iadd F.2.1 F.2.2.1 hdg (by rw [← z32_add]; exact g))
theorem zo_isub {x y : Int} (F : zFx b D cA cN k n0 Q p s m args meth c) (V : zVr b D cA cN k n0 L ((0, y) :: (0, x) :: r) n M s H locs cells slots ls) (hdg : decode (zb k) pc = .ok (.isub, 1)) (h : zP l b D cA cN k n0 Q (pc + 1) (L) ((0, zw (x - y)) :: r) (n) (M)) : zGo l b D cA cN k Q p e s m args below meth c H locs cells slots (F0 m pc ls (((0, y) :: (0, x) :: r).map (zv b))) := by
  exact zstk h F V (zsr_c.mpr ⟨⟨zw_r _, by dsimp only; omega⟩, (zsr_c.mp (zsr_c.mp (zVr_sr V)).2).2⟩) (fun g => lv_isub F.2.1 F.2.2.1 hdg (by rw [← z32_sub]; exact g))
theorem zo_imul {x y : Int} (F : zFx b D cA cN k n0 Q p s m args meth c) (V : zVr b D cA cN k n0 L ((0, y) :: (0, x) :: r) n M s H locs cells slots ls) (hdg : decode (zb k) pc = .ok (.imul, 1)) (h : zP l b D cA cN k n0 Q (pc + 1) (L) ((0, zw (x * y)) :: r) (n) (M)) : zGo l b D cA cN k Q p e s m args below meth c H locs cells slots (F0 m pc ls (((0, y) :: (0, x) :: r).map (zv b))) := by
  exact zstk h F V (zsr_c.mpr ⟨⟨zw_r _, by dsimp only; omega⟩, (zsr_c.mp (zsr_c.mp (zVr_sr V)).2).2⟩) (fun g => lv_imul F.2.1 F.2.2.1 hdg (by rw [← z32_mul]; exact g))
theorem zo_iand {x y : Int} (F : zFx b D cA cN k n0 Q p s m args meth c) (V : zVr b D cA cN k n0 L ((0, y) :: (0, x) :: r) n M s H locs cells slots ls) (hdg : decode (zb k) pc = .ok (.iand, 1)) (h : zP l b D cA cN k n0 Q (pc + 1) (L) ((0, zand x y) :: r) (n) (M)) : zGo l b D cA cN k Q p e s m args below meth c H locs cells slots (F0 m pc ls (((0, y) :: (0, x) :: r).map (zv b))) := by
  exact zstk h F V (zsr_c.mpr ⟨⟨z32_r _, by dsimp only; omega⟩, (zsr_c.mp (zsr_c.mp (zVr_sr V)).2).2⟩) (fun g => lv_iand F.2.1 F.2.2.1 hdg (by rw [← Int32.ofInt_toInt (Int32.ofInt x &&& Int32.ofInt y)]; exact g))
theorem zo_ior {x y : Int} (F : zFx b D cA cN k n0 Q p s m args meth c) (V : zVr b D cA cN k n0 L ((0, y) :: (0, x) :: r) n M s H locs cells slots ls) (hdg : decode (zb k) pc = .ok (.ior, 1)) (h : zP l b D cA cN k n0 Q (pc + 1) (L) ((0, zor x y) :: r) (n) (M)) : zGo l b D cA cN k Q p e s m args below meth c H locs cells slots (F0 m pc ls (((0, y) :: (0, x) :: r).map (zv b))) := by
  exact zstk h F V (zsr_c.mpr ⟨⟨z32_r _, by dsimp only; omega⟩, (zsr_c.mp (zsr_c.mp (zVr_sr V)).2).2⟩) (fun g => lv_ior F.2.1 F.2.2.1 hdg (by rw [← Int32.ofInt_toInt (Int32.ofInt x ||| Int32.ofInt y)]; exact g))
theorem zo_ixor {x y : Int} (F : zFx b D cA cN k n0 Q p s m args meth c) (V : zVr b D cA cN k n0 L ((0, y) :: (0, x) :: r) n M s H locs cells slots ls) (hdg : decode (zb k) pc = .ok (.ixor, 1)) (h : zP l b D cA cN k n0 Q (pc + 1) (L) ((0, zxor x y) :: r) (n) (M)) : zGo l b D cA cN k Q p e s m args below meth c H locs cells slots (F0 m pc ls (((0, y) :: (0, x) :: r).map (zv b))) := by
  exact zstk h F V (zsr_c.mpr ⟨⟨z32_r _, by dsimp only; omega⟩, (zsr_c.mp (zsr_c.mp (zVr_sr V)).2).2⟩) (fun g => lv_ixor F.2.1 F.2.2.1 hdg (by rw [← Int32.ofInt_toInt (Int32.ofInt x ^^^ Int32.ofInt y)]; exact g))
theorem zo_ishl {x y : Int} (F : zFx b D cA cN k n0 Q p s m args meth c) (V : zVr b D cA cN k n0 L ((0, y) :: (0, x) :: r) n M s H locs cells slots ls) (hdg : decode (zb k) pc = .ok (.ishl, 1)) (h : zP l b D cA cN k n0 Q (pc + 1) (L) ((0, zshl x y) :: r) (n) (M)) : zGo l b D cA cN k Q p e s m args below meth c H locs cells slots (F0 m pc ls (((0, y) :: (0, x) :: r).map (zv b))) := by
  exact zstk h F V (zsr_c.mpr ⟨⟨z32_r _, by dsimp only; omega⟩, (zsr_c.mp (zsr_c.mp (zVr_sr V)).2).2⟩) (fun g => lv_ishl F.2.1 F.2.2.1 hdg (by rw [← Int32.ofInt_toInt (Int32.ofInt x <<< (Int32.ofInt y &&& 31))]; exact g))
theorem zo_ishr {x y : Int} (F : zFx b D cA cN k n0 Q p s m args meth c) (V : zVr b D cA cN k n0 L ((0, y) :: (0, x) :: r) n M s H locs cells slots ls) (hdg : decode (zb k) pc = .ok (.ishr, 1)) (h : zP l b D cA cN k n0 Q (pc + 1) (L) ((0, zshr x y) :: r) (n) (M)) : zGo l b D cA cN k Q p e s m args below meth c H locs cells slots (F0 m pc ls (((0, y) :: (0, x) :: r).map (zv b))) := by
  exact zstk h F V (zsr_c.mpr ⟨⟨z32_r _, by dsimp only; omega⟩, (zsr_c.mp (zsr_c.mp (zVr_sr V)).2).2⟩) (fun g => lv_ishr F.2.1 F.2.2.1 hdg (by rw [← Int32.ofInt_toInt (Int32.ofInt x >>> (Int32.ofInt y &&& 31))]; exact g))
theorem zo_iushr {x y : Int} (F : zFx b D cA cN k n0 Q p s m args meth c) (V : zVr b D cA cN k n0 L ((0, y) :: (0, x) :: r) n M s H locs cells slots ls) (hdg : decode (zb k) pc = .ok (.iushr, 1)) (h : zP l b D cA cN k n0 Q (pc + 1) (L) ((0, zushr x y) :: r) (n) (M)) : zGo l b D cA cN k Q p e s m args below meth c H locs cells slots (F0 m pc ls (((0, y) :: (0, x) :: r).map (zv b))) := by
  exact zstk h F V (zsr_c.mpr ⟨⟨z32_r _, by dsimp only; omega⟩, (zsr_c.mp (zsr_c.mp (zVr_sr V)).2).2⟩) (fun g => lv_iushr F.2.1 F.2.2.1 hdg (Int32.ofInt_toInt _).symm g)
theorem zo_ladd {x y : Int} (F : zFx b D cA cN k n0 Q p s m args meth c) (V : zVr b D cA cN k n0 L ((1, y) :: (1, x) :: r) n M s H locs cells slots ls) (hdg : decode (zb k) pc = .ok (.ladd, 1)) (h : zP l b D cA cN k n0 Q (pc + 1) (L) ((1, zW (x + y)) :: r) (n) (M)) : zGo l b D cA cN k Q p e s m args below meth c H locs cells slots (F0 m pc ls (((1, y) :: (1, x) :: r).map (zv b))) := by
  exact zstk h F V (zsr_c.mpr ⟨⟨zW_r _, by dsimp only; omega⟩, (zsr_c.mp (zsr_c.mp (zVr_sr V)).2).2⟩) (fun g => lv_ladd F.2.1 F.2.2.1 hdg (by rw [← z64_add]; exact g))
theorem zo_lsub {x y : Int} (F : zFx b D cA cN k n0 Q p s m args meth c) (V : zVr b D cA cN k n0 L ((1, y) :: (1, x) :: r) n M s H locs cells slots ls) (hdg : decode (zb k) pc = .ok (.lsub, 1)) (h : zP l b D cA cN k n0 Q (pc + 1) (L) ((1, zW (x - y)) :: r) (n) (M)) : zGo l b D cA cN k Q p e s m args below meth c H locs cells slots (F0 m pc ls (((1, y) :: (1, x) :: r).map (zv b))) := by
  exact zstk h F V (zsr_c.mpr ⟨⟨zW_r _, by dsimp only; omega⟩, (zsr_c.mp (zsr_c.mp (zVr_sr V)).2).2⟩) (fun g => lv_lsub F.2.1 F.2.2.1 hdg (by rw [← z64_sub]; exact g))
theorem zo_lmul {x y : Int} (F : zFx b D cA cN k n0 Q p s m args meth c) (V : zVr b D cA cN k n0 L ((1, y) :: (1, x) :: r) n M s H locs cells slots ls) (hdg : decode (zb k) pc = .ok (.lmul, 1)) (h : zP l b D cA cN k n0 Q (pc + 1) (L) ((1, zW (x * y)) :: r) (n) (M)) : zGo l b D cA cN k Q p e s m args below meth c H locs cells slots (F0 m pc ls (((1, y) :: (1, x) :: r).map (zv b))) := by
  exact zstk h F V (zsr_c.mpr ⟨⟨zW_r _, by dsimp only; omega⟩, (zsr_c.mp (zsr_c.mp (zVr_sr V)).2).2⟩) (fun g => lv_lmul F.2.1 F.2.2.1 hdg (by rw [← z64_mul]; exact g))
theorem zo_ineg {x : Int} (F : zFx b D cA cN k n0 Q p s m args meth c) (V : zVr b D cA cN k n0 L ((0, x) :: r) n M s H locs cells slots ls) (hdg : decode (zb k) pc = .ok (.ineg, 1)) (h : zP l b D cA cN k n0 Q (pc + 1) (L) ((0, zw (-x)) :: r) (n) (M)) : zGo l b D cA cN k Q p e s m args below meth c H locs cells slots (F0 m pc ls (((0, x) :: r).map (zv b))) := by
  exact zstk h F V (zsr_c.mpr ⟨⟨zw_r _, by dsimp only; omega⟩, (zsr_c.mp (zVr_sr V)).2⟩) (fun g => lv_ineg F.2.1 F.2.2.1 hdg (by rw [← z32_neg]; exact g))
theorem zo_i2l {x : Int} (F : zFx b D cA cN k n0 Q p s m args meth c) (V : zVr b D cA cN k n0 L ((0, x) :: r) n M s H locs cells slots ls) (hdg : decode (zb k) pc = .ok (.i2l, 1)) (h : zP l b D cA cN k n0 Q (pc + 1) (L) ((1, x) :: r) (n) (M)) : zGo l b D cA cN k Q p e s m args below meth c H locs cells slots (F0 m pc ls (((0, x) :: r).map (zv b))) := by
  have hx : -2147483648 ≤ x ∧ x < 2147483648 := (zsr_c.mp (zVr_sr V)).1.1
  exact zstk h F V (zsr_c.mpr ⟨⟨⟨by dsimp only; omega, by dsimp only; omega⟩, by dsimp only; omega⟩, (zsr_c.mp (zVr_sr V)).2⟩) (fun g => lv_i2l F.2.1 F.2.2.1 hdg (z32_64 hx) g)
theorem zo_lcmp {x y : Int} (F : zFx b D cA cN k n0 Q p s m args meth c) (V : zVr b D cA cN k n0 L ((1, y) :: (1, x) :: r) n M s H locs cells slots ls) (hdg : decode (zb k) pc = .ok (.lcmp, 1)) (h : zP l b D cA cN k n0 Q (pc + 1) (L) ((0, zlcmp x y) :: r) (n) (M)) : zGo l b D cA cN k Q p e s m args below meth c H locs cells slots (F0 m pc ls (((1, y) :: (1, x) :: r).map (zv b))) := by
  have hy := (zsr_c.mp (zVr_sr V)).1.1
  have hx := (zsr_c.mp (zsr_c.mp (zVr_sr V)).2).1.1
  exact zstk h F V (zsr_c.mpr ⟨⟨zlcmp_r x y, by dsimp only; omega⟩, (zsr_c.mp (zsr_c.mp (zVr_sr V)).2).2⟩) (fun g => W.lcmp F.2.1 F.2.2.1 hdg (by rw [z64_cmp hx hy]; exact g))
theorem zo_dup {v : zV} (F : zFx b D cA cN k n0 Q p s m args meth c) (V : zVr b D cA cN k n0 L (v :: r) n M s H locs cells slots ls) (hdg : decode (zb k) pc = .ok (.dup, 1)) (hv : v.1 ≠ 1) (h : zP l b D cA cN k n0 Q (pc + 1) (L) (v :: v :: r) (n) (M)) : zGo l b D cA cN k Q p e s m args below meth c H locs cells slots (F0 m pc ls ((v :: r).map (zv b))) := by
  have h1 := zVr_sr V
  have hc : (zv b v).category = 1 := by rcases lv_cat (zv b v) with q | q; exact q; exact absurd ((zv_cat b v).mp q) hv
  exact zstk h F V (zsr_c.mpr ⟨(zsr_c.mp h1).1, h1⟩) (fun g => lv_dup F.2.1 F.2.2.1 hdg hc g)
theorem zo_dup2 {v w : zV} (F : zFx b D cA cN k n0 Q p s m args meth c) (V : zVr b D cA cN k n0 L (v :: w :: r) n M s H locs cells slots ls) (hdg : decode (zb k) pc = .ok (.dup2, 1)) (hv : v.1 ≠ 1) (hw : w.1 ≠ 1) (h : zP l b D cA cN k n0 Q (pc + 1) (L) (v :: w :: v :: w :: r) (n) (M)) : zGo l b D cA cN k Q p e s m args below meth c H locs cells slots (F0 m pc ls ((v :: w :: r).map (zv b))) := by
  have h1 := zVr_sr V
  have hc : (zv b v).category = 1 := by rcases lv_cat (zv b v) with q | q; exact q; exact absurd ((zv_cat b v).mp q) hv
  have hd : (zv b w).category = 1 := by rcases lv_cat (zv b w) with q | q; exact q; exact absurd ((zv_cat b w).mp q) hw
  exact zstk h F V (zsr_c.mpr ⟨(zsr_c.mp h1).1, zsr_c.mpr ⟨(zsr_c.mp (zsr_c.mp h1).2).1, h1⟩⟩) (fun g => lv_dup2_11 F.2.1 F.2.2.1 hdg hc hd g)
theorem zo_pop {v : zV} (F : zFx b D cA cN k n0 Q p s m args meth c) (V : zVr b D cA cN k n0 L (v :: r) n M s H locs cells slots ls) (hdg : decode (zb k) pc = .ok (.pop, 1)) (hv : v.1 ≠ 1) (h : zP l b D cA cN k n0 Q (pc + 1) (L) (r) (n) (M)) : zGo l b D cA cN k Q p e s m args below meth c H locs cells slots (F0 m pc ls ((v :: r).map (zv b))) := by
  have hc : (zv b v).category = 1 := by rcases lv_cat (zv b v) with q | q; exact q; exact absurd ((zv_cat b v).mp q) hv
  exact zstk h F V (zsr_c.mp (zVr_sr V)).2 (fun g => lv_pop F.2.1 F.2.2.1 hdg hc g)
theorem zo_icmp_eq {x y off : Int} {tgt : Nat} (F : zFx b D cA cN k n0 Q p s m args meth c) (V : zVr b D cA cN k n0 L ((0, y) :: (0, x) :: r) n M s H locs cells slots ls) (hdg : decode (zb k) pc = .ok (.if_icmp .eq off, 3)) (ht : (pc : Int) + off = (tgt : Int)) (ht1 : x = y → zP l b D cA cN k n0 Q (tgt) L (r) n M) (hf1 : ¬ x = y → zP l b D cA cN k n0 Q (pc + 3) L (r) n M) : zGo l b D cA cN k Q p e s m args below meth c H locs cells slots (F0 m pc ls (((0, y) :: (0, x) :: r).map (zv b))) := by
  have hy : -2147483648 ≤ y ∧ y < 2147483648 := (zsr_c.mp (zVr_sr V)).1.1
  have hx : -2147483648 ≤ x ∧ x < 2147483648 := (zsr_c.mp (zsr_c.mp (zVr_sr V)).2).1.1
  have hs := (zsr_c.mp (zsr_c.mp (zVr_sr V)).2).2
  have e1 := z32_eq hx hy
  have e2 := z32_lt hx hy
  have e3 := z32_le hy hx
  have e4 := z32_lt hy hx
  have e5 := z32_le hx hy
  refine lv_icmp_eq F.2.1 F.2.2.1 hdg ht (fun q => ?_) (fun q => ?_)
  · exact ht1 (by revert q; first | (intro q; first | exact e1.mp q | exact e2.mp q | exact e4.mp q | exact fun z => q (e1.mpr z) | exact (by have := e3.mp q; omega) | exact (by have := e5.mp q; omega))) p e s m args below meth c H locs cells slots ls F (zVr_st V hs)
  · exact hf1 (by revert q; first | (intro q; first | exact e1.mp q | exact fun z => q (e1.mpr z) | exact fun z => q (e2.mpr z) | exact fun z => q (e4.mpr z) | exact (Decidable.byContradiction fun z => q (fun w => z (e1.mp w))) | exact (Decidable.byContradiction fun z => q (e3.mpr (by omega))) | exact (Decidable.byContradiction fun z => q (e5.mpr (by omega))))) p e s m args below meth c H locs cells slots ls F (zVr_st V hs)
theorem zo_if_eq {x off : Int} {tgt : Nat} (F : zFx b D cA cN k n0 Q p s m args meth c) (V : zVr b D cA cN k n0 L ((0, x) :: r) n M s H locs cells slots ls) (hdg : decode (zb k) pc = .ok (.ifCond .eq off, 3)) (ht : (pc : Int) + off = (tgt : Int)) (ht1 : x = 0 → zP l b D cA cN k n0 Q (tgt) L (r) n M) (hf1 : ¬ x = 0 → zP l b D cA cN k n0 Q (pc + 3) L (r) n M) : zGo l b D cA cN k Q p e s m args below meth c H locs cells slots (F0 m pc ls (((0, x) :: r).map (zv b))) := by
  have hx : -2147483648 ≤ x ∧ x < 2147483648 := (zsr_c.mp (zVr_sr V)).1.1
  have hs := (zsr_c.mp (zVr_sr V)).2
  have h00 : (-2147483648 : Int) ≤ 0 ∧ (0 : Int) < 2147483648 := by decide
  have e1 := z32_eq hx h00
  have e2 := z32_lt hx h00
  have e3 := z32_le h00 hx
  have e4 := z32_lt h00 hx
  have e5 := z32_le hx h00
  refine lv_if_eq F.2.1 F.2.2.1 hdg ht (fun q => ?_) (fun q => ?_)
  · exact ht1 (by revert q; first | (intro q; first | exact e1.mp q | exact e2.mp q | exact e4.mp q | exact fun z => q (e1.mpr z) | exact (by have := e3.mp q; omega) | exact (by have := e5.mp q; omega))) p e s m args below meth c H locs cells slots ls F (zVr_st V hs)
  · exact hf1 (by revert q; first | (intro q; first | exact e1.mp q | exact fun z => q (e1.mpr z) | exact fun z => q (e2.mpr z) | exact fun z => q (e4.mpr z) | exact (Decidable.byContradiction fun z => q (fun w => z (e1.mp w))) | exact (Decidable.byContradiction fun z => q (e3.mpr (by omega))) | exact (Decidable.byContradiction fun z => q (e5.mpr (by omega))))) p e s m args below meth c H locs cells slots ls F (zVr_st V hs)
theorem zo_icmp_ne {x y off : Int} {tgt : Nat} (F : zFx b D cA cN k n0 Q p s m args meth c) (V : zVr b D cA cN k n0 L ((0, y) :: (0, x) :: r) n M s H locs cells slots ls) (hdg : decode (zb k) pc = .ok (.if_icmp .ne off, 3)) (ht : (pc : Int) + off = (tgt : Int)) (ht1 : ¬ x = y → zP l b D cA cN k n0 Q (tgt) L (r) n M) (hf1 : x = y → zP l b D cA cN k n0 Q (pc + 3) L (r) n M) : zGo l b D cA cN k Q p e s m args below meth c H locs cells slots (F0 m pc ls (((0, y) :: (0, x) :: r).map (zv b))) := by
  have hy : -2147483648 ≤ y ∧ y < 2147483648 := (zsr_c.mp (zVr_sr V)).1.1
  have hx : -2147483648 ≤ x ∧ x < 2147483648 := (zsr_c.mp (zsr_c.mp (zVr_sr V)).2).1.1
  have hs := (zsr_c.mp (zsr_c.mp (zVr_sr V)).2).2
  have e1 := z32_eq hx hy
  have e2 := z32_lt hx hy
  have e3 := z32_le hy hx
  have e4 := z32_lt hy hx
  have e5 := z32_le hx hy
  refine lv_icmp_ne F.2.1 F.2.2.1 hdg ht (fun q => ?_) (fun q => ?_)
  · exact ht1 (by revert q; first | (intro q; first | exact e1.mp q | exact e2.mp q | exact e4.mp q | exact fun z => q (e1.mpr z) | exact (by have := e3.mp q; omega) | exact (by have := e5.mp q; omega))) p e s m args below meth c H locs cells slots ls F (zVr_st V hs)
  · exact hf1 (by revert q; first | (intro q; first | exact e1.mp q | exact fun z => q (e1.mpr z) | exact fun z => q (e2.mpr z) | exact fun z => q (e4.mpr z) | exact (Decidable.byContradiction fun z => q (fun w => z (e1.mp w))) | exact (Decidable.byContradiction fun z => q (e3.mpr (by omega))) | exact (Decidable.byContradiction fun z => q (e5.mpr (by omega))))) p e s m args below meth c H locs cells slots ls F (zVr_st V hs)
theorem zo_if_ne {x off : Int} {tgt : Nat} (F : zFx b D cA cN k n0 Q p s m args meth c) (V : zVr b D cA cN k n0 L ((0, x) :: r) n M s H locs cells slots ls) (hdg : decode (zb k) pc = .ok (.ifCond .ne off, 3)) (ht : (pc : Int) + off = (tgt : Int)) (ht1 : ¬ x = 0 → zP l b D cA cN k n0 Q (tgt) L (r) n M) (hf1 : x = 0 → zP l b D cA cN k n0 Q (pc + 3) L (r) n M) : zGo l b D cA cN k Q p e s m args below meth c H locs cells slots (F0 m pc ls (((0, x) :: r).map (zv b))) := by
  have hx : -2147483648 ≤ x ∧ x < 2147483648 := (zsr_c.mp (zVr_sr V)).1.1
  have hs := (zsr_c.mp (zVr_sr V)).2
  have h00 : (-2147483648 : Int) ≤ 0 ∧ (0 : Int) < 2147483648 := by decide
  have e1 := z32_eq hx h00
  have e2 := z32_lt hx h00
  have e3 := z32_le h00 hx
  have e4 := z32_lt h00 hx
  have e5 := z32_le hx h00
  refine lv_if_ne F.2.1 F.2.2.1 hdg ht (fun q => ?_) (fun q => ?_)
  · exact ht1 (by revert q; first | (intro q; first | exact e1.mp q | exact e2.mp q | exact e4.mp q | exact fun z => q (e1.mpr z) | exact (by have := e3.mp q; omega) | exact (by have := e5.mp q; omega))) p e s m args below meth c H locs cells slots ls F (zVr_st V hs)
  · exact hf1 (by revert q; first | (intro q; first | exact e1.mp q | exact fun z => q (e1.mpr z) | exact fun z => q (e2.mpr z) | exact fun z => q (e4.mpr z) | exact (Decidable.byContradiction fun z => q (fun w => z (e1.mp w))) | exact (Decidable.byContradiction fun z => q (e3.mpr (by omega))) | exact (Decidable.byContradiction fun z => q (e5.mpr (by omega))))) p e s m args below meth c H locs cells slots ls F (zVr_st V hs)
theorem zo_icmp_lt {x y off : Int} {tgt : Nat} (F : zFx b D cA cN k n0 Q p s m args meth c) (V : zVr b D cA cN k n0 L ((0, y) :: (0, x) :: r) n M s H locs cells slots ls) (hdg : decode (zb k) pc = .ok (.if_icmp .lt off, 3)) (ht : (pc : Int) + off = (tgt : Int)) (ht1 : x < y → zP l b D cA cN k n0 Q (tgt) L (r) n M) (hf1 : ¬ x < y → zP l b D cA cN k n0 Q (pc + 3) L (r) n M) : zGo l b D cA cN k Q p e s m args below meth c H locs cells slots (F0 m pc ls (((0, y) :: (0, x) :: r).map (zv b))) := by
  have hy : -2147483648 ≤ y ∧ y < 2147483648 := (zsr_c.mp (zVr_sr V)).1.1
  have hx : -2147483648 ≤ x ∧ x < 2147483648 := (zsr_c.mp (zsr_c.mp (zVr_sr V)).2).1.1
  have hs := (zsr_c.mp (zsr_c.mp (zVr_sr V)).2).2
  have e1 := z32_eq hx hy
  have e2 := z32_lt hx hy
  have e3 := z32_le hy hx
  have e4 := z32_lt hy hx
  have e5 := z32_le hx hy
  refine lv_icmp_lt F.2.1 F.2.2.1 hdg ht (fun q => ?_) (fun q => ?_)
  · exact ht1 (by revert q; first | (intro q; first | exact e1.mp q | exact e2.mp q | exact e4.mp q | exact fun z => q (e1.mpr z) | exact (by have := e3.mp q; omega) | exact (by have := e5.mp q; omega))) p e s m args below meth c H locs cells slots ls F (zVr_st V hs)
  · exact hf1 (by revert q; first | (intro q; first | exact e1.mp q | exact fun z => q (e1.mpr z) | exact fun z => q (e2.mpr z) | exact fun z => q (e4.mpr z) | exact (Decidable.byContradiction fun z => q (fun w => z (e1.mp w))) | exact (Decidable.byContradiction fun z => q (e3.mpr (by omega))) | exact (Decidable.byContradiction fun z => q (e5.mpr (by omega))))) p e s m args below meth c H locs cells slots ls F (zVr_st V hs)
theorem zo_if_lt {x off : Int} {tgt : Nat} (F : zFx b D cA cN k n0 Q p s m args meth c) (V : zVr b D cA cN k n0 L ((0, x) :: r) n M s H locs cells slots ls) (hdg : decode (zb k) pc = .ok (.ifCond .lt off, 3)) (ht : (pc : Int) + off = (tgt : Int)) (ht1 : x < 0 → zP l b D cA cN k n0 Q (tgt) L (r) n M) (hf1 : ¬ x < 0 → zP l b D cA cN k n0 Q (pc + 3) L (r) n M) : zGo l b D cA cN k Q p e s m args below meth c H locs cells slots (F0 m pc ls (((0, x) :: r).map (zv b))) := by
  have hx : -2147483648 ≤ x ∧ x < 2147483648 := (zsr_c.mp (zVr_sr V)).1.1
  have hs := (zsr_c.mp (zVr_sr V)).2
  have h00 : (-2147483648 : Int) ≤ 0 ∧ (0 : Int) < 2147483648 := by decide
  have e1 := z32_eq hx h00
  have e2 := z32_lt hx h00
  have e3 := z32_le h00 hx
  have e4 := z32_lt h00 hx
  have e5 := z32_le hx h00
  refine lv_if_lt F.2.1 F.2.2.1 hdg ht (fun q => ?_) (fun q => ?_)
  · exact ht1 (by revert q; first | (intro q; first | exact e1.mp q | exact e2.mp q | exact e4.mp q | exact fun z => q (e1.mpr z) | exact (by have := e3.mp q; omega) | exact (by have := e5.mp q; omega))) p e s m args below meth c H locs cells slots ls F (zVr_st V hs)
  · exact hf1 (by revert q; first | (intro q; first | exact e1.mp q | exact fun z => q (e1.mpr z) | exact fun z => q (e2.mpr z) | exact fun z => q (e4.mpr z) | exact (Decidable.byContradiction fun z => q (fun w => z (e1.mp w))) | exact (Decidable.byContradiction fun z => q (e3.mpr (by omega))) | exact (Decidable.byContradiction fun z => q (e5.mpr (by omega))))) p e s m args below meth c H locs cells slots ls F (zVr_st V hs)
theorem zo_icmp_ge {x y off : Int} {tgt : Nat} (F : zFx b D cA cN k n0 Q p s m args meth c) (V : zVr b D cA cN k n0 L ((0, y) :: (0, x) :: r) n M s H locs cells slots ls) (hdg : decode (zb k) pc = .ok (.if_icmp .ge off, 3)) (ht : (pc : Int) + off = (tgt : Int)) (ht1 : ¬ x < y → zP l b D cA cN k n0 Q (tgt) L (r) n M) (hf1 : x < y → zP l b D cA cN k n0 Q (pc + 3) L (r) n M) : zGo l b D cA cN k Q p e s m args below meth c H locs cells slots (F0 m pc ls (((0, y) :: (0, x) :: r).map (zv b))) := by
  have hy : -2147483648 ≤ y ∧ y < 2147483648 := (zsr_c.mp (zVr_sr V)).1.1
  have hx : -2147483648 ≤ x ∧ x < 2147483648 := (zsr_c.mp (zsr_c.mp (zVr_sr V)).2).1.1
  have hs := (zsr_c.mp (zsr_c.mp (zVr_sr V)).2).2
  have e1 := z32_eq hx hy
  have e2 := z32_lt hx hy
  have e3 := z32_le hy hx
  have e4 := z32_lt hy hx
  have e5 := z32_le hx hy
  refine lv_icmp_ge F.2.1 F.2.2.1 hdg ht (fun q => ?_) (fun q => ?_)
  · exact ht1 (by revert q; first | (intro q; first | exact e1.mp q | exact e2.mp q | exact e4.mp q | exact fun z => q (e1.mpr z) | exact (by have := e3.mp q; omega) | exact (by have := e5.mp q; omega))) p e s m args below meth c H locs cells slots ls F (zVr_st V hs)
  · exact hf1 (by revert q; first | (intro q; first | exact e1.mp q | exact fun z => q (e1.mpr z) | exact fun z => q (e2.mpr z) | exact fun z => q (e4.mpr z) | exact (Decidable.byContradiction fun z => q (fun w => z (e1.mp w))) | exact (Decidable.byContradiction fun z => q (e3.mpr (by omega))) | exact (Decidable.byContradiction fun z => q (e5.mpr (by omega))))) p e s m args below meth c H locs cells slots ls F (zVr_st V hs)
theorem zo_if_ge {x off : Int} {tgt : Nat} (F : zFx b D cA cN k n0 Q p s m args meth c) (V : zVr b D cA cN k n0 L ((0, x) :: r) n M s H locs cells slots ls) (hdg : decode (zb k) pc = .ok (.ifCond .ge off, 3)) (ht : (pc : Int) + off = (tgt : Int)) (ht1 : ¬ x < 0 → zP l b D cA cN k n0 Q (tgt) L (r) n M) (hf1 : x < 0 → zP l b D cA cN k n0 Q (pc + 3) L (r) n M) : zGo l b D cA cN k Q p e s m args below meth c H locs cells slots (F0 m pc ls (((0, x) :: r).map (zv b))) := by
  have hx : -2147483648 ≤ x ∧ x < 2147483648 := (zsr_c.mp (zVr_sr V)).1.1
  have hs := (zsr_c.mp (zVr_sr V)).2
  have h00 : (-2147483648 : Int) ≤ 0 ∧ (0 : Int) < 2147483648 := by decide
  have e1 := z32_eq hx h00
  have e2 := z32_lt hx h00
  have e3 := z32_le h00 hx
  have e4 := z32_lt h00 hx
  have e5 := z32_le hx h00
  refine lv_if_ge F.2.1 F.2.2.1 hdg ht (fun q => ?_) (fun q => ?_)
  · exact ht1 (by revert q; first | (intro q; first | exact e1.mp q | exact e2.mp q | exact e4.mp q | exact fun z => q (e1.mpr z) | exact (by have := e3.mp q; omega) | exact (by have := e5.mp q; omega))) p e s m args below meth c H locs cells slots ls F (zVr_st V hs)
  · exact hf1 (by revert q; first | (intro q; first | exact e1.mp q | exact fun z => q (e1.mpr z) | exact fun z => q (e2.mpr z) | exact fun z => q (e4.mpr z) | exact (Decidable.byContradiction fun z => q (fun w => z (e1.mp w))) | exact (Decidable.byContradiction fun z => q (e3.mpr (by omega))) | exact (Decidable.byContradiction fun z => q (e5.mpr (by omega))))) p e s m args below meth c H locs cells slots ls F (zVr_st V hs)
theorem zo_icmp_gt {x y off : Int} {tgt : Nat} (F : zFx b D cA cN k n0 Q p s m args meth c) (V : zVr b D cA cN k n0 L ((0, y) :: (0, x) :: r) n M s H locs cells slots ls) (hdg : decode (zb k) pc = .ok (.if_icmp .gt off, 3)) (ht : (pc : Int) + off = (tgt : Int)) (ht1 : y < x → zP l b D cA cN k n0 Q (tgt) L (r) n M) (hf1 : ¬ y < x → zP l b D cA cN k n0 Q (pc + 3) L (r) n M) : zGo l b D cA cN k Q p e s m args below meth c H locs cells slots (F0 m pc ls (((0, y) :: (0, x) :: r).map (zv b))) := by
  have hy : -2147483648 ≤ y ∧ y < 2147483648 := (zsr_c.mp (zVr_sr V)).1.1
  have hx : -2147483648 ≤ x ∧ x < 2147483648 := (zsr_c.mp (zsr_c.mp (zVr_sr V)).2).1.1
  have hs := (zsr_c.mp (zsr_c.mp (zVr_sr V)).2).2
  have e1 := z32_eq hx hy
  have e2 := z32_lt hx hy
  have e3 := z32_le hy hx
  have e4 := z32_lt hy hx
  have e5 := z32_le hx hy
  refine lv_icmp_gt F.2.1 F.2.2.1 hdg ht (fun q => ?_) (fun q => ?_)
  · exact ht1 (by revert q; first | (intro q; first | exact e1.mp q | exact e2.mp q | exact e4.mp q | exact fun z => q (e1.mpr z) | exact (by have := e3.mp q; omega) | exact (by have := e5.mp q; omega))) p e s m args below meth c H locs cells slots ls F (zVr_st V hs)
  · exact hf1 (by revert q; first | (intro q; first | exact e1.mp q | exact fun z => q (e1.mpr z) | exact fun z => q (e2.mpr z) | exact fun z => q (e4.mpr z) | exact (Decidable.byContradiction fun z => q (fun w => z (e1.mp w))) | exact (Decidable.byContradiction fun z => q (e3.mpr (by omega))) | exact (Decidable.byContradiction fun z => q (e5.mpr (by omega))))) p e s m args below meth c H locs cells slots ls F (zVr_st V hs)
theorem zo_if_gt {x off : Int} {tgt : Nat} (F : zFx b D cA cN k n0 Q p s m args meth c) (V : zVr b D cA cN k n0 L ((0, x) :: r) n M s H locs cells slots ls) (hdg : decode (zb k) pc = .ok (.ifCond .gt off, 3)) (ht : (pc : Int) + off = (tgt : Int)) (ht1 : 0 < x → zP l b D cA cN k n0 Q (tgt) L (r) n M) (hf1 : ¬ 0 < x → zP l b D cA cN k n0 Q (pc + 3) L (r) n M) : zGo l b D cA cN k Q p e s m args below meth c H locs cells slots (F0 m pc ls (((0, x) :: r).map (zv b))) := by
  have hx : -2147483648 ≤ x ∧ x < 2147483648 := (zsr_c.mp (zVr_sr V)).1.1
  have hs := (zsr_c.mp (zVr_sr V)).2
  have h00 : (-2147483648 : Int) ≤ 0 ∧ (0 : Int) < 2147483648 := by decide
  have e1 := z32_eq hx h00
  have e2 := z32_lt hx h00
  have e3 := z32_le h00 hx
  have e4 := z32_lt h00 hx
  have e5 := z32_le hx h00
  refine lv_if_gt F.2.1 F.2.2.1 hdg ht (fun q => ?_) (fun q => ?_)
  · exact ht1 (by revert q; first | (intro q; first | exact e1.mp q | exact e2.mp q | exact e4.mp q | exact fun z => q (e1.mpr z) | exact (by have := e3.mp q; omega) | exact (by have := e5.mp q; omega))) p e s m args below meth c H locs cells slots ls F (zVr_st V hs)
  · exact hf1 (by revert q; first | (intro q; first | exact e1.mp q | exact fun z => q (e1.mpr z) | exact fun z => q (e2.mpr z) | exact fun z => q (e4.mpr z) | exact (Decidable.byContradiction fun z => q (fun w => z (e1.mp w))) | exact (Decidable.byContradiction fun z => q (e3.mpr (by omega))) | exact (Decidable.byContradiction fun z => q (e5.mpr (by omega))))) p e s m args below meth c H locs cells slots ls F (zVr_st V hs)
theorem zo_icmp_le {x y off : Int} {tgt : Nat} (F : zFx b D cA cN k n0 Q p s m args meth c) (V : zVr b D cA cN k n0 L ((0, y) :: (0, x) :: r) n M s H locs cells slots ls) (hdg : decode (zb k) pc = .ok (.if_icmp .le off, 3)) (ht : (pc : Int) + off = (tgt : Int)) (ht1 : ¬ y < x → zP l b D cA cN k n0 Q (tgt) L (r) n M) (hf1 : y < x → zP l b D cA cN k n0 Q (pc + 3) L (r) n M) : zGo l b D cA cN k Q p e s m args below meth c H locs cells slots (F0 m pc ls (((0, y) :: (0, x) :: r).map (zv b))) := by
  have hy : -2147483648 ≤ y ∧ y < 2147483648 := (zsr_c.mp (zVr_sr V)).1.1
  have hx : -2147483648 ≤ x ∧ x < 2147483648 := (zsr_c.mp (zsr_c.mp (zVr_sr V)).2).1.1
  have hs := (zsr_c.mp (zsr_c.mp (zVr_sr V)).2).2
  have e1 := z32_eq hx hy
  have e2 := z32_lt hx hy
  have e3 := z32_le hy hx
  have e4 := z32_lt hy hx
  have e5 := z32_le hx hy
  refine lv_icmp_le F.2.1 F.2.2.1 hdg ht (fun q => ?_) (fun q => ?_)
  · exact ht1 (by revert q; first | (intro q; first | exact e1.mp q | exact e2.mp q | exact e4.mp q | exact fun z => q (e1.mpr z) | exact (by have := e3.mp q; omega) | exact (by have := e5.mp q; omega))) p e s m args below meth c H locs cells slots ls F (zVr_st V hs)
  · exact hf1 (by revert q; first | (intro q; first | exact e1.mp q | exact fun z => q (e1.mpr z) | exact fun z => q (e2.mpr z) | exact fun z => q (e4.mpr z) | exact (Decidable.byContradiction fun z => q (fun w => z (e1.mp w))) | exact (Decidable.byContradiction fun z => q (e3.mpr (by omega))) | exact (Decidable.byContradiction fun z => q (e5.mpr (by omega))))) p e s m args below meth c H locs cells slots ls F (zVr_st V hs)
theorem zo_if_le {x off : Int} {tgt : Nat} (F : zFx b D cA cN k n0 Q p s m args meth c) (V : zVr b D cA cN k n0 L ((0, x) :: r) n M s H locs cells slots ls) (hdg : decode (zb k) pc = .ok (.ifCond .le off, 3)) (ht : (pc : Int) + off = (tgt : Int)) (ht1 : ¬ 0 < x → zP l b D cA cN k n0 Q (tgt) L (r) n M) (hf1 : 0 < x → zP l b D cA cN k n0 Q (pc + 3) L (r) n M) : zGo l b D cA cN k Q p e s m args below meth c H locs cells slots (F0 m pc ls (((0, x) :: r).map (zv b))) := by
  have hx : -2147483648 ≤ x ∧ x < 2147483648 := (zsr_c.mp (zVr_sr V)).1.1
  have hs := (zsr_c.mp (zVr_sr V)).2
  have h00 : (-2147483648 : Int) ≤ 0 ∧ (0 : Int) < 2147483648 := by decide
  have e1 := z32_eq hx h00
  have e2 := z32_lt hx h00
  have e3 := z32_le h00 hx
  have e4 := z32_lt h00 hx
  have e5 := z32_le hx h00
  refine lv_if_le F.2.1 F.2.2.1 hdg ht (fun q => ?_) (fun q => ?_)
  · exact ht1 (by revert q; first | (intro q; first | exact e1.mp q | exact e2.mp q | exact e4.mp q | exact fun z => q (e1.mpr z) | exact (by have := e3.mp q; omega) | exact (by have := e5.mp q; omega))) p e s m args below meth c H locs cells slots ls F (zVr_st V hs)
  · exact hf1 (by revert q; first | (intro q; first | exact e1.mp q | exact fun z => q (e1.mpr z) | exact fun z => q (e2.mpr z) | exact fun z => q (e4.mpr z) | exact (Decidable.byContradiction fun z => q (fun w => z (e1.mp w))) | exact (Decidable.byContradiction fun z => q (e3.mpr (by omega))) | exact (Decidable.byContradiction fun z => q (e5.mpr (by omega))))) p e s m args below meth c H locs cells slots ls F (zVr_st V hs)
theorem zo_ifnull {x off : Int} {tgt : Nat} (F : zFx b D cA cN k n0 Q p s m args meth c) (V : zVr b D cA cN k n0 L ((2, x) :: r) n M s H locs cells slots ls) (hdg : decode (zb k) pc = .ok (.ifnull off, 3)) (ht : (pc : Int) + off = (tgt : Int)) (ht1 : x ≤ 0 → zP l b D cA cN k n0 Q (tgt) L (r) n M) (hf1 : ¬ x ≤ 0 → zP l b D cA cN k n0 Q (pc + 3) L (r) n M) : zGo l b D cA cN k Q p e s m args below meth c H locs cells slots (F0 m pc ls (((2, x) :: r).map (zv b))) := by
  have hs := (zsr_c.mp (zVr_sr V)).2
  by_cases q : x ≤ 0
  · have e1 : zv b (2, x) = .null := by show (if x ≤ 0 then Value.null else Value.ref (b + x.toNat)) = _; rw [if_pos q]
    rw [List.map_cons, e1]
    exact lv_ifnullN F.2.1 F.2.2.1 hdg ht (ht1 q p e s m args below meth c H locs cells slots ls F (zVr_st V hs))
  · have e1 : zv b (2, x) = .ref (b + x.toNat) := by show (if x ≤ 0 then Value.null else Value.ref (b + x.toNat)) = _; rw [if_neg q]
    rw [List.map_cons, e1]
    exact lv_ifnull F.2.1 F.2.2.1 hdg (hf1 q p e s m args below meth c H locs cells slots ls F (zVr_st V hs))
theorem zo_goto {off : Int} {tgt : Nat} (F : zFx b D cA cN k n0 Q p s m args meth c) (V : zVr b D cA cN k n0 L (st) n M s H locs cells slots ls) (hdg : decode (zb k) pc = .ok (.goto off, 3)) (ht : (pc : Int) + off = (tgt : Int)) (h : zP l b D cA cN k n0 Q (tgt) (L) (st) (n) (M)) : zGo l b D cA cN k Q p e s m args below meth c H locs cells slots (F0 m pc ls ((st).map (zv b))) := by
  exact lv_goto F.2.1 F.2.2.1 hdg ht (h p e s m args below meth c H locs cells slots ls F V)
end ZR
end
section
/-! rows of the machine that touch the heap -/
theorem zKT_pos {a : Int} (h : (zKT a).1 ≠ 9) : 0 < a := by
  match a with
  | .ofNat 0 => exact absurd rfl h
  | .ofNat (j + 1) => exact Int.ofNat_lt.mpr (Nat.succ_pos j)
  | .negSucc j => exact absurd rfl h
theorem zv_ref (b : Nat) {a : Int} (h : 0 < a) : zv b (2, a) = .ref (b + a.toNat) := by
  show (if a ≤ 0 then Value.null else Value.ref (b + a.toNat)) = _
  rw [if_neg (by omega)]
theorem zcls_at : ∀ c, c < 10 → zcls[c]? = some (zcnm c, zTT c, znf c)
  | 0, _ | 1, _ | 2, _ | 3, _ | 4, _ | 5, _ | 6, _ | 7, _ | 8, _ | 9, _ => rfl
  | c + 10, h => absurd h (by omega)
theorem zlay_in : ∀ c, c < 10 → ∀ w ∈ u_ws (zcnm c) (zTT c) (znf c), w ∈ zwl
  | 0, _ => zlay_0 | 1, _ => zlay_1 | 2, _ => zlay_2 | 3, _ => zlay_3 | 4, _ => zlay_4 | 5, _ => zlay_5 | 6, _ => zlay_6 | 7, _ => zlay_7 | 8, _ => zlay_8 | 9, _ => zlay_9
  | c + 10, h => absurd h (by omega)
def zty (c : Nat) : Nat → FieldType := ([tyX0, tyX1, tyX2, tyX3, tyX4, tyX5, tyX6, tyX7, tyX8, tyX9] : List (Nat → FieldType)).getD c tyX0
theorem zty_ok : ∀ c, c < 10 → ∀ k, k < znf c → parseFieldDescriptor (zTT c k).2.2.1 = some (zty c k)
  | 0, _ => tyX0_ok | 1, _ => tyX1_ok | 2, _ => tyX2_ok | 3, _ => tyX3_ok | 4, _ => tyX4_ok | 5, _ => tyX5_ok | 6, _ => tyX6_ok | 7, _ => tyX7_ok | 8, _ => tyX8_ok | 9, _ => tyX9_ok
  | c + 10, h => absurd h (by omega)
theorem znm_ok : ∀ c, c < 10 → ∀ a, a < znf c → ∀ b, b < znf c → a ≠ b → (zTT c a).2.1 ≠ (zTT c b).2.1
  | 0, _ => nmX0 | 1, _ => nmX1 | 2, _ => nmX2 | 3, _ => nmX3 | 4, _ => nmX4 | 5, _ => nmX5 | 6, _ => nmX6 | 7, _ => nmX7 | 8, _ => nmX8 | 9, _ => nmX9
  | c + 10, h => absurd h (by omega)
/-- a field's kind by its type -/
def zdt (t : FieldType) : Nat := match t with
  | .int => 0
  | .boolean => 0
  | .long => 1
  | .object _ => 2
  | .array _ => 2
  | _ => 9
theorem zdt_ok : ∀ c, c < 10 → ∀ k, k < znf c → zdt (zty c k) = zft c k := by decide +kernel
theorem zfin_ok : ∀ c, c < 10 → ∀ k, k < znf c → (zTT c k).2.2.2 = zfin c k ∧ (zTT c k).1 = zcnm c := by decide +kernel
def zisb (t : FieldType) : Bool := match t with
  | .boolean => true
  | _ => false
theorem zboo_ok : ∀ c, c < 10 → ∀ k, k < znf c → zisb (zty c k) = zboo c k := by decide +kernel
theorem zdef (b : Nat) {t : FieldType} (h : zdt t < 3) : defaultValue t = zv b (zdt t, 0) := by
  cases t <;> first | rfl | (exact absurd h (by decide))
/-- what stands in a field: of its type -/
theorem znarrow {b : Nat} {t : FieldType} {x : Int} (h : zdt t < 3) (hb : zisb t = true → x = 0 ∨ x = 1) : narrow t (zv b (zdt t, x)) = zv b (zdt t, x) ∧ fits t (zv b (zdt t, x)) = true := by
  cases t with
  | int => exact ⟨rfl, rfl⟩
  | long => exact ⟨rfl, rfl⟩
  | boolean =>
    rcases hb rfl with rfl | rfl
    · exact ⟨by rfl, by rfl⟩
    · exact ⟨by rfl, by rfl⟩
  | object C =>
    show narrow _ (if x ≤ 0 then Value.null else Value.ref (b + x.toNat)) = (if x ≤ 0 then Value.null else Value.ref (b + x.toNat)) ∧ fits _ (if x ≤ 0 then Value.null else Value.ref (b + x.toNat)) = true
    split <;> exact ⟨rfl, rfl⟩
  | array C =>
    show narrow _ (if x ≤ 0 then Value.null else Value.ref (b + x.toNat)) = (if x ≤ 0 then Value.null else Value.ref (b + x.toNat)) ∧ fits _ (if x ≤ 0 then Value.null else Value.ref (b + x.toNat)) = true
    split <;> exact ⟨rfl, rfl⟩
  | _ => exact absurd h (by decide)
theorem zset_map {α : Type} (N k : Nat) (g : Nat → α) (v : α) : ((List.range N).map g).set k v = (List.range N).map (fun j => if j = k then v else g j) := by
  apply List.ext_getElem?
  intro i
  rw [List.getElem?_set, List.length_map, List.length_range, List.getElem?_map, List.getElem?_map]
  rcases Nat.lt_or_ge i N with h | h
  · rw [List.getElem?_range h]
    split
    · rename_i e; subst e; simp [h]
    · rename_i e; simp [Ne.symm e]
  · rw [List.getElem?_eq_none (by simpa using h)]
    split
    · rename_i e; subst e; simp [Nat.not_lt.mpr h]
    · rfl
section ZR2
variable {l : Launch} {b : Nat} {D : va_G} {cA cN : ClassId} {k : Nat} {n0 : Int} {Q : zQ} {pc nx : Nat} {L L' st st' r : List zV} {n : Int} {M M' : zM} {p : Program} {e : Env} {s : State} {m : MethodId} {args : Array Value} {below : List Frame} {meth : Method} {c : Code} {H H1 : Heap} {locs locs1 : List Loc} {cells slots : Nat} {ls : Array Slot}
theorem zVr_mem (V : zVr b D cA cN k n0 L st n M s H locs cells slots ls) (hR : zRel b D cA cN n M' H1) (hS : va_S (fun q => b + 1 ≤ q) s.heap H1 locs1) (hs : zsr n st') : zVr b D cA cN k n0 L st' n M' s H1 locs1 cells slots ls := by
  obtain ⟨a1, a2, a3, a4, -, -, a7, a8, a9, -⟩ := V
  exact ⟨a1, a2, a3, a4, hR, hS, a7, a8, a9, hs⟩
theorem zobj {a : Int} {ci : Nat} (h1 : 1 ≤ a) (h2 : a ≤ n) (hk : zKT a = (2, ci)) : (zws b cA cN n M)[a.toNat - 1]? = some (b + a.toNat, .inr (ci, (List.range (znf ci)).map (fun (j : Nat) => zv b (zft ci j, M a j)))) := by
  rw [zws_at h1 h2, hk]; rfl
theorem zarr {a : Int} (h1 : 1 ≤ a) (h2 : a ≤ n) (hk : (zKT a).1 = 0) : (zws b cA cN n M)[a.toNat - 1]? = some (b + a.toNat, .inl (cA, (zKT a).2, .inl (fun (j : Nat) => Int32.ofInt (M a j)))) := by
  rw [zws_at h1 h2]
  rcases hq : zKT a with ⟨u, v⟩
  rw [hq] at hk
  dsimp only at hk
  subst hk
  rfl
theorem zarq {a : Int} (h1 : 1 ≤ a) (h2 : a ≤ n) (hk : (zKT a).1 = 1) : (zws b cA cN n M)[a.toNat - 1]? = some (b + a.toNat, .inl (cN, (zKT a).2, .inr (.inr (.inr (.inr (fun (j : Nat) => if M a j ≤ 0 then none else some (b + (M a j).toNat))))))) := by
  rw [zws_at h1 h2]
  rcases hq : zKT a with ⟨u, v⟩
  rw [hq] at hk
  dsimp only at hk
  subst hk
  rfl
theorem zo_getfield {ci fk i : Nat} {a : Int} (F : zFx b D cA cN k n0 Q p s m args meth c) (V : zVr b D cA cN k n0 L ((2, a) :: r) n M s H locs cells slots ls) (hdg : decode (zb k) pc = .ok (.getfield i, 3)) (hw : Cond.fieldLink (zcnm (zoc k)) i (zcnm ci) (zTT ci fk).2.1 (zTT ci fk).2.2.1 ∈ zwl) (hc : ci < 10) (hf : fk < znf ci) (hk : zKT a = (2, ci)) (h : zP l b D cA cN k n0 Q (pc + 3) L ((zft ci fk, M a fk) :: r) n M) : zGo l b D cA cN k Q p e s m args below meth c H locs cells slots (F0 m pc ls (((2, a) :: r).map (zv b))) := by
  have hst := zsr_c.mp (zVr_sr V)
  have ha : 0 < a := zKT_pos (by rw [hk]; first | decide | exact (show (2 : Nat) ≠ 9 by decide))
  have hn : a ≤ n := hst.1.1.2
  obtain ⟨r1, r2, r3, r4⟩ := zVr_rel V
  have hv : ((List.range (znf ci)).map (fun (j : Nat) => zv b (zft ci j, M a j)))[fk]? = some (zv b (zft ci fk, M a fk)) := by rw [List.getElem?_map, List.getElem?_range hf]; rfl
  have hz : zr n (zft ci fk, M a fk) := by
    have := r3 a fk (by omega) hn (by omega)
    rw [hk] at this
    exact this
  refine zstk h F V (zsr_c.mpr ⟨⟨hz, zft_lt ci fk⟩, hst.2⟩) (fun g => ?_)
  rw [List.map_cons, zv_ref b ha]
  exact va_get F.2.1 F.2.2.1 F.2.2.2.2.2.2.2.2.1 (zlay_in ci hc) F.2.2.2.2.2.1 F.2.2.2.2.2.2.2.2.2.1.1 r2 (a.toNat - 1) (zobj (by omega) hn hk) (zcls_at ci hc) fk hf (F.2.2.2.2.2.2.2.2.1 _ hw) (fun x hx => by rw [(zfin_ok ci hc fk hf).2] at hx; exact hx) hv hdg g
theorem zo_putfield {ci fk i t : Nat} {a x : Int} (F : zFx b D cA cN k n0 Q p s m args meth c) (V : zVr b D cA cN k n0 L ((t, x) :: (2, a) :: r) n M s H locs cells slots ls) (hdg : decode (zb k) pc = .ok (.putfield i, 3)) (hw : Cond.fieldLink (zcnm (zoc k)) i (zcnm ci) (zTT ci fk).2.1 (zTT ci fk).2.2.1 ∈ zwl) (hc : ci < 10) (hf : fk < znf ci) (hfin : zfin ci fk = true → zini k = true ∧ ci = zoc k) (ht : zft ci fk = t) (hb : zboo ci fk = true → x = 0 ∨ x = 1) (hk : zKT a = (2, ci)) (h : zP l b D cA cN k n0 Q (pc + 3) L r n (zset M a fk x)) : zGo l b D cA cN k Q p e s m args below meth c H locs cells slots (F0 m pc ls (((t, x) :: (2, a) :: r).map (zv b))) := by
  subst ht
  have hst := zsr_c.mp (zVr_sr V)
  have hst2 := zsr_c.mp hst.2
  have ha : 0 < a := zKT_pos (by rw [hk]; first | decide | exact (show (2 : Nat) ≠ 9 by decide))
  have hn : a ≤ n := hst2.1.1.2
  obtain ⟨r1, r2, r3, r4⟩ := zVr_rel V
  have hd := zdt_ok ci hc fk hf
  have hna := znarrow (b := b) (t := zty ci fk) (x := x) (by rw [hd]; exact zft_lt ci fk) (fun q => hb (by rw [← zboo_ok ci hc fk hf]; exact q))
  rw [hd] at hna
  have hset : ∀ H1 : Heap, va_P D zcls ((zws b cA cN n M).set (a.toNat - 1) (b + a.toNat, .inr (ci, ((List.range (znf ci)).map (fun (j : Nat) => zv b (zft ci j, M a j))).set fk (zv b (zft ci fk, x))))) H1 → zRel b D cA cN n (zset M a fk x) H1 := by
    intro H1 hP1
    refine ⟨r1, ?_, zRM_set r3 (by rw [hk]; exact hst.1.1), zset_z r4 hn⟩
    rw [zws_set (M' := zset M a fk x) (by omega) hn ?_ (zset_row M a fk x)] at hP1
    · exact hP1
    · rw [hk, zset_map, zset_at]
      show Sum.inr _ = Sum.inr _
      congr 2
      apply List.map_congr_left
      intro j _
      by_cases q : j = fk
      · subst q; simp
      · rw [if_neg q]
        dsimp only
        rw [if_neg (by omega)]
  have hlen : fk < ((List.range (znf ci)).map (fun (j : Nat) => zv b (zft ci j, M a j))).length := by simpa using hf
  rw [List.map_cons, List.map_cons, zv_ref b ha]
  by_cases q : zfin ci fk = true
  · obtain ⟨q1, q2⟩ := hfin q
    exact va_putF F.2.1 F.2.2.1 F.2.2.2.2.2.2.2.2.1 (zlay_in ci hc) (zty ci) (zty_ok ci hc) (znm_ok ci hc) F.2.2.2.2.2.1 F.2.2.2.2.2.2.2.2.2.1.1 r2 zws_D (zVr_S V) (a.toNat - 1) (zobj (by omega) hn hk) (zcls_at ci hc) fk hf (F.2.2.2.2.2.2.2.2.1 _ hw) (fun x hx => by rw [(zfin_ok ci hc fk hf).2] at hx; exact hx) (by rw [(zfin_ok ci hc fk hf).1]; exact q) (F.2.2.2.2.2.2.1 q1) (by rw [(zfin_ok ci hc fk hf).2, q2]) (zty_ok ci hc fk hf) hna.1 hna.2 hlen hdg
      (fun H1 locs1 hP1 _ hS1 => h p e s m args below meth c H1 locs1 cells slots ls F (zVr_mem V (hset H1 hP1) hS1 hst2.2))
  · exact va_put F.2.1 F.2.2.1 F.2.2.2.2.2.2.2.2.1 (zlay_in ci hc) (zty ci) (zty_ok ci hc) (znm_ok ci hc) F.2.2.2.2.2.1 F.2.2.2.2.2.2.2.2.2.1.1 r2 zws_D (zVr_S V) (a.toNat - 1) (zobj (by omega) hn hk) (zcls_at ci hc) fk hf (F.2.2.2.2.2.2.2.2.1 _ hw) (fun x hx => by rw [(zfin_ok ci hc fk hf).2] at hx; exact hx) (by rw [(zfin_ok ci hc fk hf).1]; simpa using q) (zty_ok ci hc fk hf) hna.1 hna.2 hlen hdg
      (fun H1 locs1 hP1 _ hS1 => h p e s m args below meth c H1 locs1 cells slots ls F (zVr_mem V (hset H1 hP1) hS1 hst2.2))
theorem zo_iaload {a j : Int} (F : zFx b D cA cN k n0 Q p s m args meth c) (V : zVr b D cA cN k n0 L ((0, j) :: (2, a) :: r) n M s H locs cells slots ls) (hdg : decode (zb k) pc = .ok (.iaload, 1)) (hk : (zKT a).1 = 0) (h0 : 0 ≤ j) (h1 : j < (zKT a).2) (h : zP l b D cA cN k n0 Q (pc + 1) L ((0, M a j) :: r) n M) : zGo l b D cA cN k Q p e s m args below meth c H locs cells slots (F0 m pc ls (((0, j) :: (2, a) :: r).map (zv b))) := by
  have hst := zsr_c.mp (zVr_sr V)
  have hst2 := zsr_c.mp hst.2
  have ha : 0 < a := zKT_pos (by rw [hk]; first | decide | exact (show (2 : Nat) ≠ 9 by decide))
  have hn : a ≤ n := hst2.1.1.2
  obtain ⟨r1, r2, r3, r4⟩ := zVr_rel V
  have hz : zr n (0, M a j) := by
    have := r3 a j (by omega) hn h0
    unfold zmt at this
    rw [hk] at this
    exact this
  obtain ⟨hi, he⟩ := zcl_n h0 h1 hst.1.1
  refine zstk h F V (zsr_c.mpr ⟨⟨hz, by dsimp only; omega⟩, hst2.2⟩) (fun g => ?_)
  rw [List.map_cons, List.map_cons, zv_ref b ha]
  refine va_iald F.2.1 F.2.2.1 F.2.2.2.2.2.2.2.2.2.1.1 r2 (a.toNat - 1) 0 (zarr (by omega) hn hk) rfl hi hdg ?_
  rw [he, show ((j.toNat : Nat) : Int) = j by omega]
  exact g
theorem zo_iastore {a j x : Int} (F : zFx b D cA cN k n0 Q p s m args meth c) (V : zVr b D cA cN k n0 L ((0, x) :: (0, j) :: (2, a) :: r) n M s H locs cells slots ls) (hdg : decode (zb k) pc = .ok (.iastore, 1)) (hk : (zKT a).1 = 0) (h0 : 0 ≤ j) (h1 : j < (zKT a).2) (h : zP l b D cA cN k n0 Q (pc + 1) L r n (zset M a j x)) : zGo l b D cA cN k Q p e s m args below meth c H locs cells slots (F0 m pc ls (((0, x) :: (0, j) :: (2, a) :: r).map (zv b))) := by
  have hst := zsr_c.mp (zVr_sr V)
  have hst1 := zsr_c.mp hst.2
  have hst2 := zsr_c.mp hst1.2
  have ha : 0 < a := zKT_pos (by rw [hk]; first | decide | exact (show (2 : Nat) ≠ 9 by decide))
  have hn : a ≤ n := hst2.1.1.2
  obtain ⟨r1, r2, r3, r4⟩ := zVr_rel V
  obtain ⟨hi, he⟩ := zcl_n h0 h1 hst1.1.1
  rw [List.map_cons, List.map_cons, List.map_cons, zv_ref b ha]
  refine va_iast F.2.1 F.2.2.1 F.2.2.2.2.2.2.2.2.2.1.1 r2 zws_D (zVr_S V) (a.toNat - 1) 0 (zarr (by omega) hn hk) rfl hi hdg (fun H1 locs1 hP1 _ hS1 => ?_)
  refine h p e s m args below meth c H1 locs1 cells slots ls F (zVr_mem V ⟨r1, ?_, zRM_set r3 (by unfold zmt; rw [hk]; exact hst.1.1), zset_z r4 hn⟩ hS1 hst2.2)
  rw [zws_set (M' := zset M a j x) (by omega) hn ?_ (zset_row M a j x)] at hP1
  · exact hP1
  · rcases hq : zKT a with ⟨u, v⟩
    rw [hq] at hk
    dsimp only at hk
    subst hk
    show Sum.inl _ = Sum.inl _
    rw [he, zset_at]
    congr 4
    funext i
    unfold upd
    by_cases q : i = j.toNat
    · rw [if_pos q]
      dsimp only
      rw [if_pos (by omega)]
    · rw [if_neg q]
      dsimp only
      rw [if_neg (by omega)]
theorem zo_arraylength {a : Int} (F : zFx b D cA cN k n0 Q p s m args meth c) (V : zVr b D cA cN k n0 L ((2, a) :: r) n M s H locs cells slots ls) (hdg : decode (zb k) pc = .ok (.arraylength, 1)) (hk : (zKT a).1 = 0) (hl : (zKT a).2 < 2147483648) (h : zP l b D cA cN k n0 Q (pc + 1) L ((0, (zKT a).2) :: r) n M) : zGo l b D cA cN k Q p e s m args below meth c H locs cells slots (F0 m pc ls (((2, a) :: r).map (zv b))) := by
  have hst := zsr_c.mp (zVr_sr V)
  have ha : 0 < a := zKT_pos (by rw [hk]; first | decide | exact (show (2 : Nat) ≠ 9 by decide))
  have hn : a ≤ n := hst.1.1.2
  obtain ⟨r1, r2, r3, r4⟩ := zVr_rel V
  refine zstk h F V (zsr_c.mpr ⟨⟨⟨by dsimp only; omega, by dsimp only; omega⟩, by dsimp only; omega⟩, hst.2⟩) (fun g => ?_)
  rw [List.map_cons, zv_ref b ha]
  exact va_alen F.2.1 F.2.2.1 F.2.2.2.2.2.2.2.2.2.1.1 r2 (a.toNat - 1) 0 (zarr (by omega) hn hk) rfl rfl hdg g
theorem zo_aaload {a j : Int} (F : zFx b D cA cN k n0 Q p s m args meth c) (V : zVr b D cA cN k n0 L ((0, j) :: (2, a) :: r) n M s H locs cells slots ls) (hdg : decode (zb k) pc = .ok (.aaload, 1)) (hk : (zKT a).1 = 1) (h0 : 0 ≤ j) (h1 : j < (zKT a).2) (h : zP l b D cA cN k n0 Q (pc + 1) L ((2, M a j) :: r) n M) : zGo l b D cA cN k Q p e s m args below meth c H locs cells slots (F0 m pc ls (((0, j) :: (2, a) :: r).map (zv b))) := by
  have hst := zsr_c.mp (zVr_sr V)
  have hst2 := zsr_c.mp hst.2
  have ha : 0 < a := zKT_pos (by rw [hk]; first | decide | exact (show (2 : Nat) ≠ 9 by decide))
  have hn : a ≤ n := hst2.1.1.2
  obtain ⟨r1, r2, r3, r4⟩ := zVr_rel V
  have hz : zr n (2, M a j) := by
    have := r3 a j (by omega) hn h0
    unfold zmt at this
    rw [hk] at this
    exact this
  obtain ⟨hi, he⟩ := zcl_n h0 h1 hst.1.1
  refine zstk h F V (zsr_c.mpr ⟨⟨hz, by dsimp only; omega⟩, hst2.2⟩) (fun g => ?_)
  rw [List.map_cons, List.map_cons, zv_ref b ha]
  refine va_aldq F.2.1 F.2.2.1 F.2.2.2.2.2.2.2.2.2.1.1 r2 (a.toNat - 1) 1 (zarq (by omega) hn hk) rfl hi hdg ?_
  rw [he, show ((j.toNat : Nat) : Int) = j by omega]
  have e1 : va_rf (if M a j ≤ 0 then none else some (b + (M a j).toNat)) = zv b (2, M a j) := by
    show _ = (if M a j ≤ 0 then Value.null else Value.ref (b + (M a j).toNat))
    split <;> rfl
  rw [e1]
  exact g
theorem zo_aastore {a j x : Int} (F : zFx b D cA cN k n0 Q p s m args meth c) (V : zVr b D cA cN k n0 L ((2, x) :: (0, j) :: (2, a) :: r) n M s H locs cells slots ls) (hdg : decode (zb k) pc = .ok (.aastore, 1)) (hk : (zKT a).1 = 1) (h0 : 0 ≤ j) (h1 : j < (zKT a).2) (hx : zKT x = (2, 1)) (h : zP l b D cA cN k n0 Q (pc + 1) L r n (zset M a j x)) : zGo l b D cA cN k Q p e s m args below meth c H locs cells slots (F0 m pc ls (((2, x) :: (0, j) :: (2, a) :: r).map (zv b))) := by
  have hst := zsr_c.mp (zVr_sr V)
  have hst1 := zsr_c.mp hst.2
  have hst2 := zsr_c.mp hst1.2
  have ha : 0 < a := zKT_pos (by rw [hk]; first | decide | exact (show (2 : Nat) ≠ 9 by decide))
  have hx0 : 0 < x := zKT_pos (by rw [hx]; decide)
  have hn : a ≤ n := hst2.1.1.2
  have hxn : x ≤ n := hst.1.1.2
  obtain ⟨r1, r2, r3, r4⟩ := zVr_rel V
  obtain ⟨hi, he⟩ := zcl_n h0 h1 hst1.1.1
  rw [List.map_cons, List.map_cons, List.map_cons, zv_ref b ha, zv_ref b hx0]
  refine va_astq F.2.1 F.2.2.1 F.2.2.2.2.2.2.2.2.2.1.1 r2 zws_D (zVr_S V) (a.toNat - 1) 1 (x.toNat - 1) 1 (r := (zcnm 1, zTT 1, znf 1)) (zarq (by omega) hn hk) rfl (zobj (by omega) hxn hx) (zcls_at 1 (by decide)) hi hdg (fun H1 locs1 hP1 _ hS1 => ?_)
  refine h p e s m args below meth c H1 locs1 cells slots ls F (zVr_mem V ⟨r1, ?_, zRM_set r3 (by unfold zmt; rw [hk]; exact hst.1.1), zset_z r4 hn⟩ hS1 hst2.2)
  rw [zws_set (M' := zset M a j x) (by omega) hn ?_ (zset_row M a j x)] at hP1
  · exact hP1
  · rcases hq : zKT a with ⟨u, v⟩
    rw [hq] at hk
    dsimp only at hk
    subst hk
    show Sum.inl _ = Sum.inl _
    rw [he, zset_at]
    congr 7
    funext i
    unfold va_up
    by_cases q : i = j.toNat
    · rw [if_pos q]
      dsimp only
      have e2 : (i : Int) = j := by omega
      simp [e2, show ¬ x ≤ 0 by omega]
    · rw [if_neg q]
      dsimp only
      have e2 : ¬ (i : Int) = j := by omega
      simp [e2]
end ZR2
end
section
/-! making cells, copying, returns, tables of targets -/
theorem zsize {p : Program} {l : Launch} {e : Env} {R : Room} {s : State} {m : MethodId} {args : Array Value} {below : List Frame} {meth : Method} {c : Code} {H : Heap} {locs : List Loc} {cells slots : Nat} {Qs : State → Prop} {g : JFrame} (kk : H.size ≤ s.heap.size + cells → W p l e R s m args below meth c H locs cells slots Qs g) : W p l e R s m args below meth c H locs cells slots Qs g :=
  fun T hT X => kk (by rw [← hT]; exact X.heapSize) T hT X
theorem zfresh {b : Nat} {D : va_G} {cA cN : ClassId} {n n0 : Int} {M : zM} {q : Nat} {x : va_E} {H1 : Heap} {sz cells : Nat} (h0 : 0 ≤ n) (hP : va_P D zcls (zws b cA cN n M ++ [(q, x)]) H1) (hD : va_D (fun q => b + 1 ≤ q) (zws b cA cN n M ++ [(q, x)])) (hz : H1.size ≤ sz + (cells + 1)) (hs : (sz : Int) = b + 1 + n0) (hn : n = n0 + cells) : q = b + (n + 1).toNat := by
  have hl : (zws b cA cN n M).length = n.toNat := by simp [zws]
  have e1 : (zws b cA cN n M ++ [(q, x)])[n.toNat]? = some (q, x) := by rw [List.getElem?_append_right (by omega), hl]; simp
  have g1 : q < H1.size := (hP n.toNat _ e1).lt
  have g2 : b + 1 ≤ q := hD.2 n.toNat _ e1
  rcases Nat.lt_or_ge q (b + 1 + n.toNat) with g3 | g3
  · exfalso
    have e2 : (zws b cA cN n M ++ [(q, x)])[q - b - 1]? = some (q, zE b cA cN (zKT ((q - b - 1 : Nat) + 1)) (M ((q - b - 1 : Nat) + 1))) := by
      rw [List.getElem?_append_left (by omega)]
      have := zws_at (b := b) (cA := cA) (cN := cN) (n := n) (a := ((q - b - 1 : Nat) : Int) + 1) (M := M) (by omega) (by omega)
      rw [show (((q - b - 1 : Nat) : Int) + 1).toNat - 1 = q - b - 1 by omega, show b + (((q - b - 1 : Nat) : Int) + 1).toNat = q by omega] at this
      exact this
    have := hD.1 _ _ _ _ e1 e2 rfl
    omega
  · omega
section ZR3
variable {l : Launch} {b : Nat} {D : va_G} {cA cN : ClassId} {k : Nat} {n0 : Int} {Q : zQ} {pc nx : Nat} {L L' st st' r : List zV} {n : Int} {M M' : zM} {p : Program} {e : Env} {s : State} {m : MethodId} {args : Array Value} {below : List Frame} {meth : Method} {c : Code} {H H1 : Heap} {locs locs1 : List Loc} {cells slots : Nat} {ls : Array Slot}
theorem zsl_up {a : Int} (h : 0 ≤ a) : zsl (a + 1) = zsl a + zsz (zKT (a + 1)) := by
  match a, h with
  | .ofNat j, _ =>
    show ((zKl.take (((Int.ofNat j) + 1).toNat + 1)).map zsz).sum = ((zKl.take ((Int.ofNat j).toNat + 1)).map zsz).sum + zsz (zKl.getD (j + 1) (9, 0))
    have e1 : ((Int.ofNat j) + 1).toNat = j + 1 := rfl
    have e2 : (Int.ofNat j).toNat = j := rfl
    rw [e1, e2, List.take_add_one, List.map_append, List.sum_append, List.getD_eq_getElem?_getD]
    congr 1
    cases zKl[j + 1]? <;> simp [zsz]
theorem zVr_new {q : Nat × Nat} (V : zVr b D cA cN k n0 L st n M s H locs cells slots ls) (hK : zKT (n + 1) = q) (hc : cells + 1 ≤ zmc k) (hs : slots + zsz q ≤ zms k) (hP : va_P D zcls (zws b cA cN n M ++ [(b + (n + 1).toNat, zE b cA cN (zKT (n + 1)) (M (n + 1)))]) H1) (hS : va_S (fun q => b + 1 ≤ q) s.heap H1 locs) (hst : zsr n st') : zVr b D cA cN k n0 L ((2, n + 1) :: st') (n + 1) M s H1 locs (cells + 1) (slots + zsz q) ls := by
  obtain ⟨a1, a2, a3, a4, ⟨r1, r2, r3, r4⟩, a6, a7, a8, a9, -⟩ := V
  refine ⟨by omega, by rw [zsl_up r1, a2, hK]; omega, hc, hs, ⟨by omega, by rw [zws_push r1]; exact hP, ?_, fun a j h => r4 a j (by omega)⟩, hS, a7, a8, fun v hv => zr_up (by omega) (a9 v hv), zsr_c.mpr ⟨⟨⟨by dsimp only; omega, by dsimp only; omega⟩, by dsimp only; omega⟩, fun v hv => ⟨zr_up (by omega) (hst v hv).1, (hst v hv).2⟩⟩⟩
  intro a j h1 h2 h3
  by_cases q2 : a ≤ n
  · exact zr_up (by omega) (r3 a j h1 q2 h3)
  · rw [r4 a j (by omega)]
    exact zr_0 (by omega) _
theorem zo_new {ci i : Nat} (F : zFx b D cA cN k n0 Q p s m args meth c) (V : zVr b D cA cN k n0 L st n M s H locs cells slots ls) (hdg : decode (zb k) pc = .ok (.new i, 3)) (hw : Cond.classLink (zcnm (zoc k)) i (zcnm ci) ∈ zwl) (hc : ci < 10) (hk : zKT (n + 1) = (2, ci)) (h1 : n + 1 ≤ n0 + zmc k) (h2 : zsl (n + 1) ≤ zsl n0 + zms k) (h : zP l b D cA cN k n0 Q (pc + 3) L ((2, n + 1) :: st) (n + 1) M) : zGo l b D cA cN k Q p e s m args below meth c H locs cells slots (F0 m pc ls (st.map (zv b))) := by
  obtain ⟨a1, a2, a3, a4, ⟨r1, r2, r3, r4⟩, a6, a7, a8, a9, a10⟩ := id V
  have hc1 : cells + 1 ≤ zmc k := by omega
  have hs1 : slots + znf ci ≤ zms k := by rw [zsl_up r1, a2, hk] at h2; simp only [zsz] at h2; omega
  have hA : ∀ q, s.heap.size ≤ q → b + 1 ≤ q := fun q hq => by have := F.2.2.2.2.2.2.2.2.2.2.1; have := F.2.2.2.2.2.2.2.2.2.2.2.1; omega
  have hfs : ∀ j, j < znf ci → defaultValue (zty ci j) = vp_V ((List.range (znf ci)).map (fun (j : Nat) => zv b (zft ci j, 0))) j := by
    intro j hj
    have hd := zdt_ok ci hc j hj
    rw [zdef b (by rw [hd]; exact zft_lt ci j), hd]
    unfold vp_V
    rw [List.getD_eq_getElem?_getD, List.getElem?_map, List.getElem?_range hj]
    rfl
  refine va_new F.2.1 F.2.2.1 F.2.2.2.2.2.2.2.2.1 (zlay_in ci hc) (zty ci) (zty_ok ci hc) F.2.2.2.2.2.1 (F.2.2.2.2.2.2.2.2.1 _ hw) (F.2.2.2.2.2.2.2.2.1 _ (zinst_in ci hc)) (F.2.2.2.2.2.2.2.2.1 _ (zinw_in ci (by omega))) F.2.2.2.2.2.2.2.2.2.1.1 r2 zws_D a6 hA (zcls_at ci hc) hfs hc1 hs1 hdg (fun q H1 hP1 hD1 hS1 => ?_)
  refine zsize (fun hz => ?_)
  have hq := zfresh r1 hP1 hD1 hz F.2.2.2.2.2.2.2.2.2.2.1 a1
  subst hq
  have hM : M (n + 1) = fun _ => 0 := by funext j; exact r4 (n + 1) j (by omega)
  have hE : zE b cA cN (zKT (n + 1)) (M (n + 1)) = .inr (ci, (List.range (znf ci)).map (fun (j : Nat) => zv b (zft ci j, 0))) := by rw [hk, hM]; rfl
  rw [← hE] at hP1
  have := h p e s m args below meth c H1 locs (cells + 1) (slots + znf ci) ls F (zVr_new V hk hc1 hs1 hP1 hS1 a10)
  rw [List.map_cons, zv_ref b (by omega)] at this
  exact this
theorem zo_newarray {x : Int} (F : zFx b D cA cN k n0 Q p s m args meth c) (V : zVr b D cA cN k n0 L ((0, x) :: r) n M s H locs cells slots ls) (hdg : decode (zb k) pc = .ok (.newarray .int, 2)) (hk : zKT (n + 1) = (0, x.toNat)) (hx : 0 ≤ x) (hx2 : x ≤ 1000) (h1 : n + 1 ≤ n0 + zmc k) (h2 : zsl (n + 1) ≤ zsl n0 + zms k) (h : zP l b D cA cN k n0 Q (pc + 2) L ((2, n + 1) :: r) (n + 1) M) : zGo l b D cA cN k Q p e s m args below meth c H locs cells slots (F0 m pc ls (((0, x) :: r).map (zv b))) := by
  obtain ⟨a1, a2, a3, a4, ⟨r1, r2, r3, r4⟩, a6, a7, a8, a9, a10⟩ := id V
  have hc1 : cells + 1 ≤ zmc k := by omega
  have hs1 : slots + x.toNat ≤ zms k := by rw [zsl_up r1, a2, hk] at h2; simp only [zsz] at h2; omega
  have hA : ∀ q, s.heap.size ≤ q → b + 1 ≤ q := fun q hq => by have := F.2.2.2.2.2.2.2.2.2.2.1; have := F.2.2.2.2.2.2.2.2.2.2.2.1; omega
  have e1 : (Int32.ofInt x).toInt = x := z32_ti ⟨by omega, by omega⟩
  have e2 : (Int32.ofInt x).toNatClampNeg = x.toNat := by show (Int32.ofInt x).toInt.toNat = _; rw [e1]
  have e3 : ¬ Int32.ofInt x < 0 := by rw [Int32.lt_iff_toInt_lt, e1]; simp; omega
  have hK := F.2.2.2.2.2.2.2.2.2.1.1
  refine va_newa (atype := .int) (ty := .int) (a0 := (x.toNat, .inl (fun _ => 0))) F.2.1 F.2.2.1 (F.2.2.2.2.2.2.2.2.1 _ zmi_5) rfl hK r2 zws_D a6 hA (fun _ => rfl) e3 e2 (by show x.toNat * 4 ≤ 536870912; omega) hc1 hs1 hdg (fun q cA' H1 hK1 hP1 hD1 hS1 => ?_)
  have hcc : cA' = cA := by
    have g1 : s.vm.findClass ("[" ++ FieldType.int.toString) = some cA' := (hK1.2 2 _ rfl).2
    have g2 : s.vm.findClass ("[" ++ FieldType.int.toString) = some cA := (hK.2 0 _ rfl).2
    exact Option.some.inj (g1.symm.trans g2)
  subst hcc
  refine zsize (fun hz => ?_)
  have hq := zfresh r1 hP1 hD1 hz F.2.2.2.2.2.2.2.2.2.2.1 a1
  subst hq
  have hM : M (n + 1) = fun _ => 0 := by funext j; exact r4 (n + 1) j (by omega)
  have hE : zE b cA' cN (zKT (n + 1)) (M (n + 1)) = .inl (cA', x.toNat, .inl (fun _ => 0)) := by rw [hk, hM]; rfl
  rw [← hE] at hP1
  have := h p e s m args below meth c H1 locs (cells + 1) (slots + x.toNat) ls F (zVr_new V hk hc1 hs1 hP1 hS1 (zsr_c.mp a10).2)
  rw [List.map_cons, zv_ref b (by omega)] at this
  exact this
theorem zo_anewarray {x : Int} {i : Nat} (F : zFx b D cA cN k n0 Q p s m args meth c) (V : zVr b D cA cN k n0 L ((0, x) :: r) n M s H locs cells slots ls) (hdg : decode (zb k) pc = .ok (.anewarray i, 3)) (hw : Cond.classLink (zcnm (zoc k)) i "TieOffice$Net" ∈ zwl) (hk : zKT (n + 1) = (1, x.toNat)) (hx : 0 ≤ x) (hx2 : x ≤ 1000) (h1 : n + 1 ≤ n0 + zmc k) (h2 : zsl (n + 1) ≤ zsl n0 + zms k) (h : zP l b D cA cN k n0 Q (pc + 3) L ((2, n + 1) :: r) (n + 1) M) : zGo l b D cA cN k Q p e s m args below meth c H locs cells slots (F0 m pc ls (((0, x) :: r).map (zv b))) := by
  obtain ⟨a1, a2, a3, a4, ⟨r1, r2, r3, r4⟩, a6, a7, a8, a9, a10⟩ := id V
  have hc1 : cells + 1 ≤ zmc k := by omega
  have hs1 : slots + x.toNat ≤ zms k := by rw [zsl_up r1, a2, hk] at h2; simp only [zsz] at h2; omega
  have hA : ∀ q, s.heap.size ≤ q → b + 1 ≤ q := fun q hq => by have := F.2.2.2.2.2.2.2.2.2.2.1; have := F.2.2.2.2.2.2.2.2.2.2.2.1; omega
  have e1 : (Int32.ofInt x).toInt = x := z32_ti ⟨by omega, by omega⟩
  have e2 : (Int32.ofInt x).toNatClampNeg = x.toNat := by show (Int32.ofInt x).toInt.toNat = _; rw [e1]
  have e3 : ¬ Int32.ofInt x < 0 := by rw [Int32.lt_iff_toInt_lt, e1]; simp; omega
  have hK := F.2.2.2.2.2.2.2.2.2.1.1
  refine va_newq F.2.1 F.2.2.1 F.2.2.2.2.2.1 (F.2.2.2.2.2.2.2.2.1 _ hw) F.2.2.2.2.2.2.2.2.2.1.2.1 hK r2 zws_D a6 hA e3 e2 (by omega) hc1 hs1 hdg (fun q cA' H1 hK1 hP1 hD1 hS1 => ?_)
  have hcc : cA' = cN := by
    obtain ⟨_, _, _, _, _, g1⟩ := (hK1.2 2 _ rfl).2
    obtain ⟨_, _, _, _, _, g2⟩ := (hK.2 1 _ rfl).2
    exact Option.some.inj (g1.symm.trans g2)
  subst hcc
  refine zsize (fun hz => ?_)
  have hq := zfresh r1 hP1 hD1 hz F.2.2.2.2.2.2.2.2.2.2.1 a1
  subst hq
  have hM : M (n + 1) = fun _ => 0 := by funext j; exact r4 (n + 1) j (by omega)
  have hE : zE b cA cA' (zKT (n + 1)) (M (n + 1)) = .inl (cA', x.toNat, .inr (.inr (.inr (.inr (fun _ => none))))) := by rw [hk, hM]; rfl
  rw [← hE] at hP1
  have := h p e s m args below meth c H1 locs (cells + 1) (slots + x.toNat) ls F (zVr_new V hk hc1 hs1 hP1 hS1 (zsr_c.mp a10).2)
  rw [List.map_cons, zv_ref b (by omega)] at this
  exact this
theorem zo_arraycopy {i : Nat} {q sp d dp x : Int} (F : zFx b D cA cN k n0 Q p s m args meth c) (V : zVr b D cA cN k n0 L ((0, x) :: (0, dp) :: (2, d) :: (0, sp) :: (2, q) :: r) n M s H locs cells slots ls) (hdg : decode (zb k) pc = .ok (.invokestatic i, 3)) (hw : Cond.methodLink (zcnm (zoc k)) i arraycopyName ∈ zwl) (h1 : (zKT q).1 = 0) (h2 : (zKT d).1 = 0) (h3 : 0 ≤ sp) (h4 : 0 ≤ dp) (h5 : 0 ≤ x) (h6 : sp + x ≤ (zKT q).2) (h7 : dp + x ≤ (zKT d).2) (h8 : zcats r ≤ 8) (h9 : 1 ≤ zfr k) (h10 : 26 ≤ zlo k) (h : zP l b D cA cN k n0 Q (pc + 3) L r n (zcopy M q sp d dp x)) : zGo l b D cA cN k Q p e s m args below meth c H locs cells slots (F0 m pc ls (((0, x) :: (0, dp) :: (2, d) :: (0, sp) :: (2, q) :: r).map (zv b))) := by
  have t0 := zsr_c.mp (zVr_sr V)
  have t1 := zsr_c.mp t0.2
  have t2 := zsr_c.mp t1.2
  have t3 := zsr_c.mp t2.2
  have t4 := zsr_c.mp t3.2
  have hq : 0 < q := zKT_pos (by rw [h1]; decide)
  have hd : 0 < d := zKT_pos (by rw [h2]; decide)
  have hqn : q ≤ n := t4.1.1.2
  have hdn : d ≤ n := t2.1.1.2
  obtain ⟨r1, r2, r3, r4⟩ := zVr_rel V
  have u1 : (Int32.ofInt x).toInt = x := z32_ti t0.1.1
  have u2 : (Int32.ofInt dp).toInt = dp := z32_ti t1.1.1
  have u3 : (Int32.ofInt sp).toInt = sp := z32_ti t3.1.1
  have c1 : (Int32.ofInt x).toNatClampNeg = x.toNat := by show (Int32.ofInt x).toInt.toNat = _; rw [u1]
  have c2 : (Int32.ofInt dp).toNatClampNeg = dp.toNat := by show (Int32.ofInt dp).toInt.toNat = _; rw [u2]
  have c3 : (Int32.ofInt sp).toNatClampNeg = sp.toNat := by show (Int32.ofInt sp).toInt.toNat = _; rw [u3]
  rw [List.map_cons, List.map_cons, List.map_cons, List.map_cons, List.map_cons, zv_ref b hq, zv_ref b hd]
  refine va_copyi (ty := .int) F.2.1 F.2.2.1 (F.2.2.2.1.trans (zVr_lv V).1.symm) F.2.2.2.2.2.1 (F.2.2.2.2.2.2.2.2.1 _ hw) (F.2.2.2.2.2.2.2.2.1 _ zmi_3) (F.2.2.2.2.2.2.2.2.1 _ zmi_2) (F.2.2.2.2.2.2.2.2.1 _ zmi_4) F.2.2.2.2.2.2.2.2.2.1.1 r2 zws_D (zVr_S V) (q.toNat - 1) (d.toNat - 1) 0 0 (zarr (by omega) hqn h1) (zarr (by omega) hdn h2) rfl rfl rfl
    (by rw [Int32.lt_iff_toInt_lt, u3]; simp; omega) (by rw [Int32.lt_iff_toInt_lt, u2]; simp; omega) (by rw [Int32.lt_iff_toInt_lt, u1]; simp; omega) (by rw [c3, c1]; omega) (by rw [c2, c1]; omega) (fun _ _ => rfl) h9 (by rw [zcats_eq]; show zcats r + (7 + 11) ≤ zlo k; omega) hdg (fun H1 locs1 hP1 _ hS1 => ?_)
  have hrow : ∀ c, c ≠ d → zcopy M q sp d dp x c = M c := by
    intro c hc
    funext j
    unfold zcopy
    rw [if_neg (fun z => hc z.1)]
  refine h p e s m args below meth c H1 locs1 cells slots ls F (zVr_mem V ⟨r1, ?_, ?_, ?_⟩ hS1 t4.2)
  · rw [zws_set (M' := zcopy M q sp d dp x) (by omega) hdn ?_ hrow] at hP1
    · exact hP1
    · rcases hk : zKT d with ⟨u, v⟩
      rw [hk] at h2
      dsimp only at h2
      subst h2
      show Sum.inl _ = Sum.inl _
      rw [c1, c2, c3]
      congr 4
      funext j
      unfold va_cpy zcopy
      by_cases z : dp.toNat ≤ j ∧ j < dp.toNat + x.toNat
      · rw [if_pos z, if_pos ⟨rfl, by omega, by omega⟩]
        dsimp only
        rw [show ((sp.toNat + (j - dp.toNat) : Nat) : Int) = sp + ((j : Int) - dp) by omega]
      · rw [if_neg z, if_neg (by omega)]
  · intro c j g1 g2 g3
    unfold zcopy
    by_cases z : c = d ∧ dp ≤ j ∧ j < dp + x
    · rw [if_pos z]
      have y := r3 q (sp + (j - dp)) (by omega) hqn (by omega)
      unfold zmt at y ⊢
      rw [h1] at y
      rw [z.1, h2]
      exact y
    · rw [if_neg z]
      exact r3 c j g1 g2 g3
  · intro c j g
    rw [hrow c (by omega)]
    exact r4 c j g
theorem zo_abs {i : Nat} {x : Int} (F : zFx b D cA cN k n0 Q p s m args meth c) (V : zVr b D cA cN k n0 L ((0, x) :: r) n M s H locs cells slots ls) (hdg : decode (zb k) pc = .ok (.invokestatic i, 3)) (hw : Cond.methodLink (zcnm (zoc k)) i Lib.Math.abs.name ∈ zwl) (h8 : zcats r ≤ 8) (h9 : 1 ≤ zfr k) (h10 : 21 ≤ zlo k) (h : zP l b D cA cN k n0 Q (pc + 3) L ((0, if 0 ≤ x then x else zw (0 - x)) :: r) n M) : zGo l b D cA cN k Q p e s m args below meth c H locs cells slots (F0 m pc ls (((0, x) :: r).map (zv b))) := by
  have hx : -2147483648 ≤ x ∧ x < 2147483648 := (zsr_c.mp (zVr_sr V)).1.1
  have hz : -2147483648 ≤ (if 0 ≤ x then x else zw (0 - x)) ∧ (if 0 ≤ x then x else zw (0 - x)) < 2147483648 := by
    split
    · exact hx
    · exact zw_r _
  refine zstk h F V (zsr_c.mpr ⟨⟨hz, by dsimp only; omega⟩, (zsr_c.mp (zVr_sr V)).2⟩) (fun g => ?_)
  refine va_mabs F.2.1 F.2.2.1 (F.2.2.2.1.trans (zVr_lv V).1.symm) F.2.2.2.2.2.1 (F.2.2.2.2.2.2.2.2.1 _ hw) (F.2.2.2.2.2.2.2.2.1 _ zmi_6) (F.2.2.2.2.2.2.2.2.1 _ zmi_7) (F.2.2.2.2.2.2.2.2.1 _ zmi_8) h9 (by rw [zcats_eq]; show zcats r + 13 ≤ zlo k; omega) V.2.2.1 V.2.2.2.1 hdg ?_
  have e1 : Int32.ofInt (if 0 ≤ x then x else zw (0 - x)) = (if 0 ≤ Int32.ofInt x then Int32.ofInt x else 0 - Int32.ofInt x) := by
    have : (0 : Int32) ≤ Int32.ofInt x ↔ 0 ≤ x := z32_le (x := 0) (y := x) (by decide) hx
    by_cases q : 0 ≤ x
    · rw [if_pos q, if_pos (this.mpr q)]
    · rw [if_neg q, if_neg (fun z => q (this.mp z)), z32_sub]; rfl
  rw [List.map_cons] at g
  show W _ _ _ _ _ _ _ _ _ _ _ _ _ _ _ (F0 m (pc + 3) ls (.int (if 0 ≤ Int32.ofInt x then Int32.ofInt x else 0 - Int32.ofInt x) :: _))
  rw [← e1]
  exact g
theorem zo_objInit {i : Nat} {a : Int} (F : zFx b D cA cN k n0 Q p s m args meth c) (V : zVr b D cA cN k n0 L ((2, a) :: r) n M s H locs cells slots ls) (hdg : decode (zb k) pc = .ok (.invokespecial i, 3)) (hw : Cond.methodLink (zcnm (zoc k)) i objectInit ∈ zwl) (ha : 0 < a) (h8 : zcats r ≤ 8) (h9 : 1 ≤ zfr k) (h10 : 20 ≤ zlo k) (h : zP l b D cA cN k n0 Q (pc + 3) L r n M) : zGo l b D cA cN k Q p e s m args below meth c H locs cells slots (F0 m pc ls (((2, a) :: r).map (zv b))) := by
  rw [List.map_cons, zv_ref b ha]
  refine W.objInit F.2.1 F.2.2.1 F.2.2.2.2.2.1 (F.2.2.2.2.2.2.2.2.1 _ hw) (F.2.2.2.2.2.2.2.2.1 _ zmi_0) (F.2.2.2.2.2.2.2.2.1 _ zmi_1) rfl ((zVr_lv V).1.trans F.2.2.2.1.symm) rfl hdg h9 (by rw [zcats_eq]; show 2 * 0 + zcats r + 12 ≤ zlo k; omega) ?_
  exact h p e s m args below meth c H locs cells slots ls F (zVr_st V (zsr_c.mp (zVr_sr V)).2)
theorem zsw_in {K : Nat → Prop} {x : Int} : ∀ (ts : List Nat) (lo : Int) (d j : Nat) (t : Nat), zsw K x lo ts d → x = lo + j → ts[j]? = some t → K t
  | [], _, _, _, _, _, _, h => by simp at h
  | u :: ts, lo, d, 0, t, h, hx, hj => by
    cases hj
    exact h.1 (by omega)
  | u :: ts, lo, d, j + 1, t, h, hx, hj => zsw_in ts (lo + 1) d j t (h.2 (by omega)) (by omega) (by simpa using hj)
theorem zsw_out {K : Nat → Prop} {x : Int} : ∀ (ts : List Nat) (lo : Int) (d : Nat), zsw K x lo ts d → (x < lo ∨ lo + ts.length ≤ x) → K d
  | [], _, _, h, _ => h
  | u :: ts, lo, d, h, hx => zsw_out ts (lo + 1) d (h.2 (by simp only [List.length_cons] at hx; omega)) (by simp only [List.length_cons] at hx; omega)
theorem zo_table {d lo hi x : Int} {offs : Array Int} {len : Nat} (F : zFx b D cA cN k n0 Q p s m args meth c) (V : zVr b D cA cN k n0 L ((0, x) :: r) n M s H locs cells slots ls) (hdg : decode (zb k) pc = .ok (.tableswitch d lo hi offs, len)) (hd : 0 ≤ (pc : Int) + d) (hlh : lo ≤ hi) (hsz : (offs.size : Int) = hi - lo + 1) (ho : (offs.toList.all (fun o => decide (0 ≤ (pc : Int) + o))) = true) (h : zsw (fun t => zP l b D cA cN k n0 Q t L r n M) x lo (offs.toList.map (fun o => ((pc : Int) + o).toNat)) ((pc : Int) + d).toNat) : zGo l b D cA cN k Q p e s m args below meth c H locs cells slots (F0 m pc ls (((0, x) :: r).map (zv b))) := by
  have hx : -2147483648 ≤ x ∧ x < 2147483648 := (zsr_c.mp (zVr_sr V)).1.1
  have e1 : (Int32.ofInt x).toInt = x := z32_ti hx
  by_cases hin : lo ≤ x ∧ x ≤ hi
  · have hj : (x - lo).toNat < offs.size := by omega
    have e2 : offs[((Int32.ofInt x).toInt - lo).toNat]? = some offs[(x - lo).toNat] := by rw [e1]; exact Array.getElem?_eq_getElem hj
    have e3 : (offs.toList.map (fun o => ((pc : Int) + o).toNat))[(x - lo).toNat]? = some ((pc : Int) + offs[(x - lo).toNat]).toNat := by
      rw [List.getElem?_map, Array.getElem?_toList, Array.getElem?_eq_getElem hj]; rfl
    have e4 : 0 ≤ (pc : Int) + offs[(x - lo).toNat] := by
      have := List.all_eq_true.mp ho offs[(x - lo).toNat] (by simp)
      exact of_decide_eq_true this
    exact lv_tableIn F.2.1 F.2.2.1 hdg (by rw [e1]; omega) (by rw [e1]; omega) e2 (by omega) (zsw_in _ lo _ (x - lo).toNat _ h (by omega) e3 p e s m args below meth c H locs cells slots ls F (zVr_st V (zsr_c.mp (zVr_sr V)).2))
  · refine lv_tableOut F.2.1 F.2.2.1 hdg (by rw [e1]; omega) (tgt := ((pc : Int) + d).toNat) (by omega) ?_
    exact zsw_out _ lo _ h (by rw [List.length_map, Array.length_toList]; omega) p e s m args below meth c H locs cells slots ls F (zVr_st V (zsr_c.mp (zVr_sr V)).2)
end ZR3
end
section
/-! returns and calls -/
theorem zrt_ok : ∀ k, k < 166 → (zrt k = 0 ∧ zrt0 k = some .int) ∨ (zrt k = 1 ∧ zrt0 k = some .long) ∨ (zrt k = 2 ∧ zrt0 k = none) ∨ (zrt k = 3 ∧ zrt0 k = some .boolean) := by decide +kernel
theorem zms_ok : ∀ k, k < 166 → zmc k = 0 → zms k = 0 := by decide +kernel
theorem znm_i1 : ∀ k, k < 166 → zcnm (zoc k) = (zy k).cls := by decide +kernel
theorem znm_i2 : ∀ k, k < 166 → zoc k < 12 := by decide +kernel
theorem znm_i3 : ∀ k, k < 166 → zini k = true → (zy k).name = "<init>" := by decide +kernel
theorem znm_i4 : ∀ k, k < 166 → plainName (zy k).cls = true := by decide +kernel
theorem znm_in : ∀ k, k < 166 → zcnm (zoc k) = (zy k).cls ∧ zoc k < 12 ∧ (zini k = true → (zy k).name = "<init>") ∧ plainName (zy k).cls = true := fun k h => ⟨znm_i1 k h, znm_i2 k h, znm_i3 k h, znm_i4 k h⟩
theorem zcls_ne : ∀ k, k < 166 → (zy k).cls ≠ "java/lang/invoke/MethodHandle" ∧ (zy k).cls ≠ "java/lang/invoke/VarHandle" := by decide +kernel
section ZR4
variable {l : Launch} {b : Nat} {D : va_G} {cA cN : ClassId} {k : Nat} {n0 : Int} {Q : zQ} {pc nx : Nat} {L L' st st' r : List zV} {n : Int} {M M' : zM} {p : Program} {e : Env} {s : State} {m : MethodId} {args : Array Value} {below : List Frame} {meth : Method} {c : Code} {H H1 : Heap} {locs locs1 : List Loc} {cells slots : Nat} {ls : Array Slot}
theorem zend (F : zFx b D cA cN k n0 Q p s m args meth c) (V : zVr b D cA cN k n0 L st n M s H locs cells slots ls) {x : Int} (hq : Q x n M) : cells = zmc k ∧ slots = zms k := by
  obtain ⟨a1, a2, a3, a4, -⟩ := V
  have h := F.2.2.2.2.2.2.2.2.2.2.2.2 x n M hq
  unfold zal at h
  split at h
  · rename_i e1
    have := zms_ok k F.1 e1
    constructor <;> omega
  · rename_i c1 e1
    obtain ⟨h1, h2⟩ := h
    constructor <;> omega
theorem zo_ireturn {x : Int} (F : zFx b D cA cN k n0 Q p s m args meth c) (V : zVr b D cA cN k n0 L [(0, x)] n M s H locs cells slots ls) (hdg : decode (zb k) pc = .ok (.ireturn, 1)) (hrt : zrt k = 0) (hq : Q x n M) : zGo l b D cA cN k Q p e s m args below meth c H locs cells slots (F0 m pc ls (([(0, x)] : List zV).map (zv b))) := by
  obtain ⟨e1, e2⟩ := zend F V hq
  subst e1; subst e2
  have hr : meth.sig.returnType = some .int := by
    rw [F.2.2.2.2.1]
    rcases zrt_ok k F.1 with h | h | h | h <;> first | exact h.2 | (exfalso; omega)
  have hx : -2147483648 ≤ x ∧ x < 2147483648 := (zsr_c.mp (zVr_sr V)).1.1
  have hlocks := F.2.2.2.2.2.2.2.1
  refine W.iret (v := Int32.ofInt x) F.2.1 F.2.2.1 hr (fun t ht hW => ?_) (zVr_S V).2.2 hdg
  unfold zQc
  rw [hrt]
  exact ⟨⟨Int32.ofInt x, (n, M), rfl, by dsimp only; rw [z32_ti hx]; exact hq, by dsimp only; rw [ht]; exact zVr_rel V⟩, (zVr_S V).F ht⟩
theorem zo_zreturn {x : Int} (F : zFx b D cA cN k n0 Q p s m args meth c) (V : zVr b D cA cN k n0 L [(0, x)] n M s H locs cells slots ls) (hdg : decode (zb k) pc = .ok (.ireturn, 1)) (hrt : zrt k = 3) (h01 : x = 0 ∨ x = 1) (hq : Q x n M) : zGo l b D cA cN k Q p e s m args below meth c H locs cells slots (F0 m pc ls (([(0, x)] : List zV).map (zv b))) := by
  obtain ⟨e1, e2⟩ := zend F V hq
  subst e1; subst e2
  have hr : meth.sig.returnType = some .boolean := by
    rw [F.2.2.2.2.1]
    rcases zrt_ok k F.1 with h | h | h | h <;> first | exact h.2 | (exfalso; omega)
  have hx : -2147483648 ≤ x ∧ x < 2147483648 := (zsr_c.mp (zVr_sr V)).1.1
  have hlocks := F.2.2.2.2.2.2.2.1
  refine W.zret (v := Int32.ofInt x) F.2.1 F.2.2.1 hr (by rcases h01 with rfl | rfl <;> rfl) (fun t ht hW => ?_) (zVr_S V).2.2 hdg
  unfold zQc
  rw [hrt]
  exact ⟨⟨Int32.ofInt x, (n, M), rfl, by dsimp only; rw [z32_ti hx]; exact hq, by dsimp only; rw [ht]; exact zVr_rel V⟩, (zVr_S V).F ht⟩
theorem zo_lreturn {x : Int} (F : zFx b D cA cN k n0 Q p s m args meth c) (V : zVr b D cA cN k n0 L [(1, x)] n M s H locs cells slots ls) (hdg : decode (zb k) pc = .ok (.lreturn, 1)) (hrt : zrt k = 1) (hq : Q x n M) : zGo l b D cA cN k Q p e s m args below meth c H locs cells slots (F0 m pc ls (([(1, x)] : List zV).map (zv b))) := by
  obtain ⟨e1, e2⟩ := zend F V hq
  subst e1; subst e2
  have hr : meth.sig.returnType = some .long := by
    rw [F.2.2.2.2.1]
    rcases zrt_ok k F.1 with h | h | h | h <;> first | exact h.2 | (exfalso; omega)
  have hx : -9223372036854775808 ≤ x ∧ x < 9223372036854775808 := (zsr_c.mp (zVr_sr V)).1.1
  have hlocks := F.2.2.2.2.2.2.2.1
  refine W.lret (v := Int64.ofInt x) F.2.1 F.2.2.1 hr (fun t ht hW => ?_) (zVr_S V).2.2 hdg
  unfold zQc
  rw [hrt]
  exact ⟨⟨Int64.ofInt x, (n, M), rfl, by dsimp only; rw [z64_ti hx]; exact hq, by dsimp only; rw [ht]; exact zVr_rel V⟩, (zVr_S V).F ht⟩
theorem zo_return (F : zFx b D cA cN k n0 Q p s m args meth c) (V : zVr b D cA cN k n0 L [] n M s H locs cells slots ls) (hdg : decode (zb k) pc = .ok (.return_, 1)) (hrt : zrt k = 2) (hq : Q 0 n M) : zGo l b D cA cN k Q p e s m args below meth c H locs cells slots (F0 m pc ls (([] : List zV).map (zv b))) := by
  obtain ⟨e1, e2⟩ := zend F V hq
  subst e1; subst e2
  have hr : meth.sig.returnType = none := by
    rw [F.2.2.2.2.1]
    rcases zrt_ok k F.1 with h | h | h | h <;> first | exact h.2 | (exfalso; omega)
  have hlocks := F.2.2.2.2.2.2.2.1
  refine W.vret F.2.1 F.2.2.1 hr (fun t ht hW => ?_) (zVr_S V).2.2 hdg
  unfold zQc
  rw [hrt]
  exact ⟨⟨(n, M), rfl, hq, by dsimp only; rw [ht]; exact zVr_rel V⟩, (zVr_S V).F ht⟩
end ZR4
/-- the values of a call in the callee's locals -/
theorem zlv_pad (b : Nat) : ∀ (m i : Nat), zlv b i (zpad m []) = []
  | 0, i => rfl
  | m + 1, i => by simp only [zpad, zlv]; exact zlv_pad b m (i + 1)
theorem zlv_ent (b : Nat) : ∀ (As : List zV) (m i : Nat), (∀ v ∈ As, v.1 < 3) → (zspr As).length ≤ m → zlv b i (zpad m (zspr As)) = lv_args i (As.map (zv b))
  | [], m, i, _, _ => by simp only [zspr, List.map_nil, lv_args]; exact zlv_pad b m i
  | v :: As, m, i, h, hm => by
    have hv := h v List.mem_cons_self
    have hr := fun w hw => h w (List.mem_cons_of_mem _ hw)
    unfold zspr at hm ⊢
    by_cases q : v.1 = 1
    · rw [if_pos q] at hm ⊢
      simp only [List.length_cons] at hm
      obtain ⟨m', rfl⟩ : ∃ m', m = m' + 2 := ⟨m - 2, by omega⟩
      simp only [zpad, zlv, List.map_cons, lv_args]
      rw [if_neg (by omega), if_pos trivial, if_pos ((zv_cat b v).mpr q), zlv_ent b As m' (i + 1 + 1) hr (by omega)]
    · rw [if_neg q] at hm ⊢
      simp only [List.length_cons] at hm
      obtain ⟨m', rfl⟩ : ∃ m', m = m' + 1 := ⟨m - 1, by omega⟩
      simp only [zpad, zlv, List.map_cons, lv_args]
      rw [if_neg (by omega), if_neg (fun z => q ((zv_cat b v).mp z)), zlv_ent b As m' (i + 1) hr (by omega)]
theorem zspr_len (b : Nat) : ∀ (As : List zV), (lg_sl (As.map (zv b))).length = (zspr As).length
  | [] => rfl
  | v :: As => by
    have ih := zspr_len b As
    unfold lg_sl at ih ⊢
    unfold zspr
    rw [List.map_cons, List.flatMap_cons, List.length_append, ih]
    by_cases q : v.1 = 1
    · rw [if_pos q, if_pos ((zv_cat b v).mpr q)]; simp; omega
    · rw [if_neg q, if_neg (fun z => q ((zv_cat b v).mp z))]; simp; omega
theorem zpad_len : ∀ (m : Nat) (l : List zV), l.length ≤ m → (zpad m l).length = m
  | 0, l, h => by simpa [zpad] using h
  | m + 1, [], _ => by simp [zpad, zpad_len m [] (by simp)]
  | m + 1, v :: l, h => by simp [zpad, zpad_len m l (by simpa using h)]
theorem zpad_r {n : Int} : ∀ (m : Nat) (l : List zV), (∀ v ∈ l, zr n v) → ∀ v ∈ zpad m l, zr n v
  | 0, l, h => h
  | m + 1, [], h => fun v hv => (List.mem_cons.mp hv).elim (fun q => by rw [q]; trivial) (zpad_r m [] h v)
  | m + 1, w :: l, h => fun v hv => (List.mem_cons.mp hv).elim (fun q => by rw [q]; exact h w List.mem_cons_self) (zpad_r m l (fun x hx => h x (List.mem_cons_of_mem _ hx)) v)
theorem zspr_r {n : Int} : ∀ (As : List zV), (∀ v ∈ As, zr n v) → ∀ v ∈ zspr As, zr n v
  | [], h => h
  | w :: As, h => fun v hv => by
    have ih := zspr_r As (fun x hx => h x (List.mem_cons_of_mem _ hx)) v
    unfold zspr at hv
    split at hv
    · rcases List.mem_cons.mp hv with q | hv
      · rw [q]; exact h w List.mem_cons_self
      · rcases List.mem_cons.mp hv with q | hv
        · rw [q]; trivial
        · exact ih hv
    · rcases List.mem_cons.mp hv with q | hv
      · rw [q]; exact h w List.mem_cons_self
      · exact ih hv
def zPc (b : Nat) (D : va_G) (cA cN : ClassId) (As : List zV) (n : Int) (M : zM) : Array Value → State → Prop := va_Pc (As.map (zv b)) (fun U => (U.heap.size : Int) = b + 1 + n ∧ zRel b D cA cN n M U.heap ∧ zKs D cA cN U)
theorem zMet {l : Launch} {b : Nat} {D : va_G} {cA cN : ClassId} {k : Nat} {Q : zQ} {As : List zV} {n : Int} {M : zM} (hk : k < 166) (h : zP l b D cA cN k n Q 0 (zpad (zml k) (zspr As)) [] n M) (hlen : (zspr As).length ≤ zml k) (hr : zsr n As) (hQ : ∀ r n' M', Q r n' M' → zal k n n') (hn : 0 ≤ n) :
    Met l (zy k) (zwd k) (zrm k) (zPc b D cA cN As n M) (zQc b D cA cN k Q) (zmc k) (zms k) (fun q => b + 1 ≤ q) := by
  refine Met.ofW (cc := zb k) (maxL := zml k) (ret := zrt0 k) (znm_in k hk).2.2.2 rfl ?_
  intro p e s m args below meth c s₁ B hml hv
  obtain ⟨rfl, hsz, hR, hK⟩ := hv
  have hl := lv_entry (As.map (zv b)) (n := zml k) (by rw [zspr_len]; exact hlen)
  rw [lg_entry_eq]
  generalize (lg_sl (As.map (zv b)) ++ List.replicate (zml k - (lg_sl (As.map (zv b))).length) Slot.unset).toArray = ls at hl ⊢
  have hts := atoms_spec (ws := zwd k) B.pre
  refine h p e s m _ below meth c s.heap [] 0 0 ls ⟨hk, B.exec, B.bytes, hml, B.returns, ?_, ?_, B.notSynchronized, fun w hw => hts w (List.mem_cons_of_mem _ hw), hK, hsz, hn, hQ⟩ ⟨by omega, by omega, Nat.zero_le _, Nat.zero_le _, hR, va_S.rf, ?_, zpad_len _ _ hlen, zpad_r _ _ (zspr_r As (fun v hv => (hr v hv).1)), fun v hv => by cases hv⟩
  · rw [(znm_in k hk).1]; exact findClass_of_methodNamed B.named
  · intro q
    rw [(name_of_methodNamed B.named B.method).1]
    exact (znm_in k hk).2.2.1 q
  · rw [zlv_ent b As (zml k) 0 (fun v hv => (hr v hv).2) hlen]
    exact hl
theorem zNW_nest : ∀ w ∈ zNW, ∃ a i x h, w = Cond.methodLinkNest a i x h := by
  intro w hw
  obtain ⟨e, he, rfl⟩ := List.mem_map.mp hw
  have := (List.mem_filter.mp he).2
  unfold zMw
  rw [if_neg (by simpa using this)]
  exact ⟨_, _, _, _, rfl⟩
theorem zKs_warm {D : va_G} {cA cN : ClassId} {s U : State} (hW : s.WarmedH U.vm) (h : zKs D cA cN s) : zKs D cA cN U :=
  ⟨va_K.moved hW.alike h.1, va_AO.moved hW.alike h.2.1, fun w hw => by
    obtain ⟨a, i, x, y, rfl⟩ := zNW_nest w hw
    exact va_Nw.warmM hW (h.2.2 _ hw)⟩
theorem zPc_blind {b : Nat} {D : va_G} {cA cN : ClassId} {As : List zV} {n : Int} {M : zM} : FrameBlind (zPc b D cA cN As n M) := by
  intro a U g mk q
  obtain ⟨q0, q1, q2, q3, q4, q5⟩ := q
  exact ⟨q0, q1, q2, va_K.moved (u := U) (U := U.calling g mk a) (Vm.Alike.refl U.vm) q3, va_AO.moved (u := U) (U := U.calling g mk a) (Vm.Alike.refl U.vm) q4, fun w hw => by
    obtain ⟨_, _, _, _, rfl⟩ := zNW_nest w hw
    exact va_Nw.same (u := U) (U := U.calling g mk a) rfl rfl (q5 _ hw)⟩
theorem zwd_good {k : Nat} (hk : k < 166) : GoodIn zwl (zwd k) := by
  have g : ∀ w ∈ zwl, w ∈ zwl ∧ ((w.onTables && w.keeps) = true ∨ ∃ ty, w = .arrayClass ty) := fun w hw => ⟨hw, good_of_word (List.mem_filter.mp hw).2⟩
  intro w hw
  rcases List.mem_cons.mp hw with rfl | hw
  · exact g _ (zcw_in k hk)
  · exact g w hw
theorem zpp_ok : ∀ (m : Nat) (acc st As r : List zV), zpp m acc st = some (As, r) → ∃ pre, As = pre ++ acc ∧ st = pre.reverse ++ r ∧ pre.length = m
  | 0, acc, st, As, r, h => by
    simp only [zpp, Option.some.injEq, Prod.mk.injEq] at h
    exact ⟨[], h.1.symm, h.2, rfl⟩
  | m + 1, acc, [], As, r, h => by simp [zpp] at h
  | m + 1, acc, v :: st, As, r, h => by
    simp only [zpp] at h
    obtain ⟨pre, h1, h2, h3⟩ := zpp_ok m (v :: acc) st As r h
    exact ⟨pre ++ [v], by rw [h1]; simp, by rw [h2]; simp, by simp [h3]⟩
end
section
/-! calls -/
theorem zML_in : ∀ e ∈ zML, e.2.2.2.2 < 3 → zMw e ∈ zwl := by
  intro e he h3
  have h0 : e ∈ zML0 := List.mem_filter.mpr ⟨he, by simpa using h3⟩
  have hl : zML0.length ≤ 150 := by decide +kernel
  obtain ⟨i, hi⟩ := List.getElem?_of_mem h0
  have hlt : i < zML0.length := (List.getElem?_eq_some_iff.mp hi).1
  have key : ∀ q, q ≤ i → i < q + 50 → e ∈ (zML0.drop q).take 50 := by
    intro q h1 h2
    refine List.mem_of_getElem? (i := i - q) ?_
    rw [List.getElem?_take_of_lt (by omega), List.getElem?_drop, show q + (i - q) = i by omega]
    exact hi
  rcases Nat.lt_or_ge i 50 with a | a
  · exact zat_ok zML_a0 _ (List.mem_map_of_mem (key 0 (by omega) (by omega)))
  · rcases Nat.lt_or_ge i 100 with c | c
    · exact zat_ok zML_a1 _ (List.mem_map_of_mem (key 50 (by omega) (by omega)))
    · exact zat_ok zML_a2 _ (List.mem_map_of_mem (key 100 (by omega) (by omega)))
theorem zML_n : ∀ e ∈ zML, ¬ e.2.2.2.2 < 3 → zMw e ∈ zNW := fun e he h => List.mem_map_of_mem (List.mem_filter.mpr ⟨he, by simpa using h⟩)
/-- of a link: the method is there; how many parameters it has -/
def zpar (k : Nat) : Nat := ((parseMethodDescriptor (zy k).desc).map (fun d => d.parameters.length)).getD 99
theorem zML_ok : ∀ e ∈ zML, e.2.2.1 < 166 ∧ (parseMethodDescriptor (zy e.2.2.1).desc).map (fun d => d.parameters.length) = some (if zsta e.2.2.1 then e.2.2.2.1 else e.2.2.2.1 - 1) ∧ (e.2.2.2.2 = 0 → zsta e.2.2.1 = false ∧ (e.2.2.1 ∈ zst ∨ e.2.2.1 ∈ zsp)) ∧ (e.2.2.2.2 = 1 → zsta e.2.2.1 = true) ∧ (e.2.2.2.2 = 2 → zsta e.2.2.1 = false ∧ (zy e.2.2.1).name = "<init>" ∧ zrt0 e.2.2.1 = none) ∧ (e.2.2.2.2 = 3 → zsta e.2.2.1 = false ∧ (zy e.2.2.1).name = "<init>" ∧ zrt0 e.2.2.1 = none) ∧ (e.2.2.2.2 = 4 → zsta e.2.2.1 = true) ∧ (e.2.2.2.2 = 0 ∨ e.2.2.2.2 = 2 ∨ e.2.2.2.2 = 3 → zoc e.2.2.1 < 10) := by decide +kernel
theorem zsel_in {k : Nat} (h : k ∈ zst ∨ k ∈ zsp) : Cond.selects (zy k).cls (zy k) (zy k) ∈ zwl := by
  rcases h with h | h
  · exact zat_ok zst_a (zsw_ k) (List.mem_map_of_mem h)
  · exact zpv_ok zsp_a k h
theorem zrecv_0 {k' : Nat} {As : List zV} (h : zrecv 0 k' As) : ∃ a As', As = (2, a) :: As' ∧ zKT a = (2, zoc k') := by
  unfold zrecv at h
  split at h <;> first | exact ⟨_, _, rfl, h⟩ | contradiction | (rename_i q; cases q) | exact h.elim
theorem zrecv_i {kd k' : Nat} {As : List zV} (hk : kd = 2 ∨ kd = 3) (h : zrecv kd k' As) : ∃ a As', As = (2, a) :: As' ∧ 0 < a := by
  rcases hk with rfl | rfl <;> unfold zrecv at h <;> split at h <;> first | exact ⟨_, _, rfl, h⟩ | contradiction | (rename_i q; cases q) | exact h.elim
section ZR5
variable {l : Launch} {b : Nat} {D : va_G} {cA cN : ClassId} {k k' : Nat} {n0 : Int} {Q : zQ} {pc nx : Nat} {L L' st st' r As : List zV} {n : Int} {M M' : zM} {p : Program} {e : Env} {s : State} {m : MethodId} {args : Array Value} {below : List Frame} {meth : Method} {c : Code} {H H1 : Heap} {locs locs1 : List Loc} {cells slots : Nat} {ls : Array Slot}
abbrev zQn (l : Launch) (b : Nat) (D : va_G) (cA cN : ClassId) (k : Nat) (n0 : Int) (Q : zQ) (nx : Nat) (L : List zV) (k' : Nat) (n : Int) (r : List zV) : zQ := fun x n' M' => zal k' n n' ∧ zP l b D cA cN k n0 Q nx L (zpush (zrt k') x r) n' M'
/-- behind a call -/
theorem zVr_call {x : Int} {n' : Int} (V : zVr b D cA cN k n0 L st n M s H locs cells slots ls) (ha : zal k' n n') (hk' : k' < 166) (hf : zfitc k n0 k' n) (hR : zRel b D cA cN n' M' H1) (hS : va_S (fun q => b + 1 ≤ q) s.heap H1 locs1) (hr : zsr n r) (hp : zsr n' (zpush (zrt k') x [])) : zVr b D cA cN k n0 L (zpush (zrt k') x r) n' M' s H1 locs1 (cells + zmc k') (slots + zms k') ls := by
  obtain ⟨a1, a2, a3, a4, a5, a6, a7, a8, a9, a10⟩ := V
  have hz := zms_ok k' hk'
  have q1 : n ≤ n' ∧ n' = n + zmc k' ∧ zsl n' = zsl n + zms k' ∧ cells + zmc k' ≤ zmc k ∧ slots + zms k' ≤ zms k := by
    unfold zal at ha
    unfold zfitc at hf
    split at ha
    · rename_i e1
      have e2 := hz e1
      subst ha
      refine ⟨by omega, by omega, by omega, by omega, by omega⟩
    · rename_i c1 e1
      rw [e1] at hf
      dsimp only at hf
      refine ⟨by omega, by omega, by omega, by omega, by omega⟩
  obtain ⟨q1, q2, q3, q4, q5⟩ := q1
  refine ⟨by omega, by omega, q4, q5, hR, hS, a7, a8, fun v hv => zr_up q1 (a9 v hv), ?_⟩
  have hr' : zsr n' r := fun v hv => ⟨zr_up q1 (hr v hv).1, (hr v hv).2⟩
  unfold zpush at hp ⊢
  split at hp
  · exact zsr_c.mpr ⟨(zsr_c.mp hp).1, hr'⟩
  · exact zsr_c.mpr ⟨(zsr_c.mp hp).1, hr'⟩
  · exact hr'
  · exact zsr_c.mpr ⟨(zsr_c.mp hp).1, hr'⟩
/-- the run of a call gives the frame behind it -/
theorem zcont (F : zFx b D cA cN k n0 Q p s m args meth c) (V : zVr b D cA cN k n0 L st n M s H locs cells slots ls) (hk' : k' < 166) (hf : zfitc k n0 k' n) (hr : zsr n r) {a : Array Value} {st0 : List Value} (hrun : va_Run p l e (zrm k) s m args below meth c H locs cells slots (zmc k') (zms k') (F0 m pc ls st0) (r.map (zv b)) (zQc b D cA cN k' (zQn l b D cA cN k n0 Q (pc + 3) L k' n r) a) (fun q => b + 1 ≤ q)) : zGo l b D cA cN k Q p e s m args below meth c H locs cells slots (F0 m pc ls st0) := by
  rcases zrt_ok k' hk' with ⟨h0, -⟩ | ⟨h0, -⟩ | ⟨h0, -⟩ | ⟨h0, -⟩
  · unfold zQc at hrun
    rw [h0] at hrun
    refine va_calli hrun (zVr_S V) (fun q _ h => h) (fun q h => h) (fun x u t H1 locs1 ht _ hp hB _ _ hS1 => ?_)
    try dsimp only at hp hB
    rw [ht] at hB
    have := hp.2 p e s m args below meth c H1 locs1 _ _ ls F (zVr_call V hp.1 hk' hf hB hS1 hr (by rw [h0]; exact zsr_c.mpr ⟨⟨z32_r x, by dsimp only; omega⟩, fun v hv => by cases hv⟩))
    rw [h0] at this
    have e1 : zv b (0, x.toInt) = .int x := by show Value.int (Int32.ofInt x.toInt) = _; rw [Int32.ofInt_toInt]
    rw [← e1]
    exact this
  · unfold zQc at hrun
    rw [h0] at hrun
    refine va_calll hrun (zVr_S V) (fun q _ h => h) (fun q h => h) (fun x u t H1 locs1 ht _ hp hB _ _ hS1 => ?_)
    try dsimp only at hp hB
    rw [ht] at hB
    have := hp.2 p e s m args below meth c H1 locs1 _ _ ls F (zVr_call V hp.1 hk' hf hB hS1 hr (by rw [h0]; exact zsr_c.mpr ⟨⟨z64_r x, by dsimp only; omega⟩, fun v hv => by cases hv⟩))
    rw [h0] at this
    have e1 : zv b (1, x.toInt) = .long x := by show Value.long (Int64.ofInt x.toInt) = _; rw [Int64.ofInt_toInt]
    rw [← e1]
    exact this
  · unfold zQc at hrun
    rw [h0] at hrun
    refine va_callv hrun (zVr_S V) (fun q _ h => h) (fun q h => h) (fun u t H1 locs1 ht _ hp hB _ _ hS1 => ?_)
    try dsimp only at hp hB
    rw [ht] at hB
    have := hp.2 p e s m args below meth c H1 locs1 _ _ ls F (zVr_call V hp.1 hk' hf hB hS1 hr (by rw [h0]; exact fun v hv => by cases hv))
    rw [h0] at this
    exact this
  · unfold zQc at hrun
    rw [h0] at hrun
    refine va_calli hrun (zVr_S V) (fun q _ h => h) (fun q h => h) (fun x u t H1 locs1 ht _ hp hB _ _ hS1 => ?_)
    try dsimp only at hp hB
    rw [ht] at hB
    have := hp.2 p e s m args below meth c H1 locs1 _ _ ls F (zVr_call V hp.1 hk' hf hB hS1 hr (by rw [h0]; exact zsr_c.mpr ⟨⟨z32_r x, by dsimp only; omega⟩, fun v hv => by cases hv⟩))
    rw [h0] at this
    have e1 : zv b (0, x.toInt) = .int x := by show Value.int (Int32.ofInt x.toInt) = _; rw [Int32.ofInt_toInt]
    rw [← e1]
    exact this
theorem zPre (F : zFx b D cA cN k n0 Q p s m args meth c) (V : zVr b D cA cN k n0 L st n M s H locs cells slots ls) {U : State} (hU : U.heap = H) (hW : s.WarmedH U.vm) (hz : H.size ≤ s.heap.size + cells) : zPc b D cA cN As n M (As.map (zv b)).toArray U := by
  refine ⟨rfl, ?_, by rw [hU]; exact zVr_rel V, zKs_warm hW F.2.2.2.2.2.2.2.2.2.1⟩
  obtain ⟨a1, a2, a3, a4, ⟨r1, r2, r3, r4⟩, a6, -⟩ := V
  have hs := F.2.2.2.2.2.2.2.2.2.2.1
  have hn0 := F.2.2.2.2.2.2.2.2.2.2.2.1
  rw [hU]
  have g1 : b + n.toNat + 1 ≤ H.size := by
    by_cases q : n = 0
    · have := a6.1; omega
    · have := (r2 _ _ (zws_at (a := n) (by omega) (by omega))).lt
      dsimp only at this
      omega
  omega
theorem zfit (V : zVr b D cA cN k n0 L st n M s H locs cells slots ls) (hk' : k' < 166) (hf : zfitc k n0 k' n) : cells + zmc k' ≤ (zrm k).cells ∧ slots + zms k' ≤ (zrm k).slots := by
  obtain ⟨a1, a2, a3, a4, -⟩ := V
  have hz := zms_ok k' hk'
  show cells + zmc k' ≤ zmc k ∧ slots + zms k' ≤ zms k
  unfold zfitc at hf
  split at hf
  · rename_i e1
    have := hz e1
    constructor <;> omega
  · rename_i c1 e1
    constructor <;> omega
theorem zo_call {i na kd : Nat} (F : zFx b D cA cN k n0 Q p s m args meth c) (V : zVr b D cA cN k n0 L (As.reverse ++ r) n M s H locs cells slots ls) (hna : As.length = na) (hm : (zoc k, i, k', na, kd) ∈ zML)
    (hdg : (kd = 0 ∧ decode (zb k) pc = .ok (.invokevirtual i, 3)) ∨ ((kd = 1 ∨ kd = 4) ∧ decode (zb k) pc = .ok (.invokestatic i, 3)) ∨ ((kd = 2 ∨ kd = 3) ∧ decode (zb k) pc = .ok (.invokespecial i, 3)))
    (hrc : zrecv kd k' As) (h8 : zcats r ≤ 8) (hlen : (zspr As).length ≤ zml k') (hfr : zfr k' + 1 ≤ zfr k) (hlo : 8 + (zml k' + 11) + zlo k' ≤ zlo k) (hf : zfitc k n0 k' n)
    (h : zP l b D cA cN k' n (zQn l b D cA cN k n0 Q (pc + 3) L k' n r) 0 (zpad (zml k') (zspr As)) [] n M) : zGo l b D cA cN k Q p e s m args below meth c H locs cells slots (F0 m pc ls ((As.reverse ++ r).map (zv b))) := by
  obtain ⟨g1, g2, g3, g4, g5, g6, g7, g8⟩ := zML_ok _ hm
  dsimp only at g1 g2 g3 g4 g5 g6 g7 g8
  have hsr : zsr n (As.reverse ++ r) := zVr_sr V
  have hA : zsr n As := fun v hv => hsr v (List.mem_append_left _ (List.mem_reverse.mpr hv))
  have hr : zsr n r := fun v hv => hsr v (List.mem_append_right _ hv)
  have hMet := zMet g1 h hlen hA (fun _ _ _ q => q.1) (zVr_rel V).1
  have hts := F.2.2.2.2.2.2.2.2.1
  have hin : (Cond.initialized (zy k').cls).before args s = true := by
    have := hts _ (zinw_in (zoc k') (znm_in k' g1).2.1)
    unfold zinw at this
    rwa [(znm_in k' g1).1] at this
  have hst : ((As.reverse ++ r).map (zv b)) = (As.map (zv b)).reverse ++ r.map (zv b) := by rw [List.map_append, List.map_reverse]
  have hW8 : 2 * (F0 m pc ls ((As.map (zv b)).reverse ++ r.map (zv b))).monitorRoom + ((r.map (zv b)).map fun v => v.category).sum ≤ 8 := by rw [zcats_eq]; show 2 * 0 + zcats r ≤ 8; omega
  have hroom : (zrm k').frames + 1 ≤ (zrm k).frames ∧ 8 + (zml k' + 11) + (zrm k').locals ≤ (zrm k).locals := ⟨hfr, hlo⟩
  have S : CallFix p m c (zb k) (zml k) s args zwl (zcnm (zoc k)) := ⟨F.2.1, F.2.2.1, F.2.2.2.1, F.2.2.2.2.2.1, hts⟩
  rw [hst]
  refine zsize (fun hz => ?_)
  refine zcont F V g1 hf hr (a := (As.map (zv b)).toArray) ?_
  rcases hdg with ⟨rfl, hdg⟩ | ⟨hkd, hdg⟩ | ⟨hkd, hdg⟩
  · -- virtual
    obtain ⟨a, As', rfl, hka⟩ := zrecv_0 hrc
    · have ha : 0 < a := zKT_pos (by rw [hka]; exact (show (2 : Nat) ≠ 9 by decide))
      have han : a ≤ n := (hA (2, a) List.mem_cons_self).1.2
      have hw : (Cond.methodLink (zcnm (zoc k)) i (zy k')).before args s = true := hts _ (zML_in _ hm (by dsimp only; omega))
      have hoc := g8 (Or.inl rfl)
      have hi2 : (Cond.instanceMethod (zy k')).before args s = true := by
        have := hts _ (znw_in k' g1)
        unfold znw at this
        rwa [(g3 rfl).1] at this
      have cw : CallW (zrm k) s args (zcnm (zoc k)) (zy k').cls i (zy k') (zb k') (zml k') (zrt0 k') (zwd k') (zrm k') (zmc k') (zms k') As'.length :=
        ⟨callB_of As'.length hts (zwd_good g1) rfl rfl rfl hin hw ⟨(zcls_ne k' g1).1, (zcls_ne k' g1).2, by rw [g2, (g3 rfl).1, ← hna]; rfl⟩ hroom, hi2, hts _ (zsel_in (g3 rfl).2)⟩
      have hrv := va_recv F.2.2.2.2.2.2.2.2.2.1.1 (zVr_rel V).2.1 (zcls_at _ hoc) (zobj (by omega) han hka)
      have run := va_runV (e := e) (below := below) (meth := meth) (locs := locs) (As := As'.map (zv b)) (rest := r.map (zv b)) (b := b + a.toNat) S hMet cw ⟨zPc_blind, by rw [← (znm_in k' g1).1]; exact hrv, fun U hU hW => by
          have := zPre (As := (2, a) :: As') F V hU hW hz
          rw [List.map_cons, zv_ref b ha] at this
          exact this⟩ (g := F0 m pc ls ((((2, a) :: As').map (zv b)).reverse ++ r.map (zv b))) rfl (by rw [List.length_map]) (zVr_lv V).1 (by rw [List.map_cons, zv_ref b ha]; simp) hW8 hdg (zfit V g1 hf)
      rw [List.map_cons, zv_ref b ha] at run ⊢
      exact run
  · -- static
    have hst2 : zsta k' = true := hkd.elim g4 g7
    have hs2 : (Cond.static (zy k')).before args s = true := by
      have := hts _ (znw_in k' g1)
      unfold znw at this
      rwa [hst2] at this
    have hn2 : (parseMethodDescriptor (zy k').desc).map (fun d => d.parameters.length) = some As.length := by rw [g2, hst2, hna]; rfl
    have hp2 : PreS s H (zPc b D cA cN As n M) (As.map (zv b)) := ⟨zPc_blind, fun U hU hW => zPre F V hU hW hz⟩
    rcases hkd with rfl | rfl
    · have hw : (Cond.methodLink (zcnm (zoc k)) i (zy k')).before args s = true := hts _ (zML_in _ hm (by dsimp only; omega))
      exact va_runS (As := As.map (zv b)) (rest := r.map (zv b)) (n := As.length) S hMet ⟨callB_of As.length hts (zwd_good g1) rfl rfl rfl hin hw ⟨(zcls_ne k' g1).1, (zcls_ne k' g1).2, hn2⟩ hroom, hs2⟩ hp2 rfl (by rw [List.length_map]) (zVr_lv V).1 rfl hW8 hdg (zfit V g1 hf)
    · have hw : va_Nw (.methodLinkNest (zcnm (zoc k)) i (zy k') "TieOffice") s := F.2.2.2.2.2.2.2.2.2.1.2.2 _ (zML_n _ hm (by dsimp only; omega))
      exact va_runSN (As := As.map (zv b)) (rest := r.map (zv b)) (n := As.length) S hMet ⟨va_cnB As.length hts (zwd_good g1) rfl rfl rfl hw hin ⟨(zcls_ne k' g1).1, (zcls_ne k' g1).2, hn2⟩ hroom, hs2, trivial⟩ hp2 rfl (by rw [List.length_map]) (zVr_lv V).1 rfl hW8 hdg (zfit V g1 hf)
  · -- constructors
    have hst2 : zsta k' = false ∧ (zy k').name = "<init>" ∧ zrt0 k' = none := hkd.elim g5 g6
    have hi2 : (Cond.instanceMethod (zy k')).before args s = true := by
      have := hts _ (znw_in k' g1)
      unfold znw at this
      rwa [hst2.1] at this
    obtain ⟨a, As', rfl, ha⟩ := zrecv_i hkd hrc
    · have hn2 : (parseMethodDescriptor (zy k').desc).map (fun d => d.parameters.length) = some As'.length := by rw [g2, hst2.1, ← hna]; rfl
      have hp2 : PreS s H (zPc b D cA cN ((2, a) :: As') n M) (.ref (b + a.toNat) :: As'.map (zv b)) := ⟨zPc_blind, fun U hU hW => by
          have := zPre (As := (2, a) :: As') F V hU hW hz
          rw [List.map_cons, zv_ref b ha] at this
          exact this⟩
      have hwd : zwd k' = Cond.code (zy k') (zb k') (zml k') none :: zwl := by unfold zwd; rw [hst2.2.2]
      rcases hkd with rfl | rfl
      · have hw : (Cond.methodLink (zcnm (zoc k)) i (zy k')).before args s = true := hts _ (zML_in _ hm (by dsimp only; omega))
        have run := va_runI (e := e) (below := below) (meth := meth) (locs := locs) (As := As'.map (zv b)) (rest := r.map (zv b)) (b := b + a.toNat) (n := As'.length) S hMet ⟨callB_of As'.length hts (zwd_good g1) hwd rfl rfl hin hw ⟨(zcls_ne k' g1).1, (zcls_ne k' g1).2, hn2⟩ hroom, hst2.2.1, hi2⟩ hp2 (g := F0 m pc ls ((((2, a) :: As').map (zv b)).reverse ++ r.map (zv b))) rfl (by rw [List.length_map]) (zVr_lv V).1 (by rw [List.map_cons, zv_ref b ha]; simp) hW8 hdg (zfit V g1 hf)
        rw [List.map_cons, zv_ref b ha] at run ⊢
        exact run
      · have hw : va_Nw (.methodLinkNest (zcnm (zoc k)) i (zy k') "TieOffice") s := F.2.2.2.2.2.2.2.2.2.1.2.2 _ (zML_n _ hm (by dsimp only; omega))
        have run := va_runIN (e := e) (below := below) (meth := meth) (locs := locs) (As := As'.map (zv b)) (rest := r.map (zv b)) (b := b + a.toNat) (n := As'.length) S hMet ⟨va_cnB As'.length hts (zwd_good g1) hwd rfl rfl hw hin ⟨(zcls_ne k' g1).1, (zcls_ne k' g1).2, hn2⟩ hroom, hst2.2.1, hi2⟩ hp2 (g := F0 m pc ls ((((2, a) :: As').map (zv b)).reverse ++ r.map (zv b))) rfl (by rw [List.length_map]) (zVr_lv V).1 (by rw [List.map_cons, zv_ref b ha]; simp) hW8 hdg (zfit V g1 hf)
        rw [List.map_cons, zv_ref b ha] at run ⊢
        exact run
end ZR5
end
section
/-! the real machine keeps the clean rules -/
theorem zW_mono {p : Program} {l : Launch} {e : Env} {R : Room} {s : State} {m : MethodId} {args : Array Value} {below : List Frame} {meth : Method} {c : Code} {H : Heap} {locs : List Loc} {cells slots : Nat} {Q1 Q2 : State → Prop} {g : JFrame} (hq : ∀ t, Q1 t → Q2 t) (h : W p l e R s m args below meth c H locs cells slots Q1 g) : W p l e R s m args below meth c H locs cells slots Q2 g := by
  intro T hT X
  obtain ⟨t, a1, b1⟩ := h T hT X
  exact ⟨t, a1, hq t b1⟩
theorem zQc_mono {b : Nat} {D : va_G} {cA cN : ClassId} {k : Nat} {Q Q' : zQ} (hq : ∀ r n' M', Q r n' M' → Q' r n' M') {a : Array Value} {st : State} {o : Outcome} {t : State} (h : zQc b D cA cN k Q a st o t) : zQc b D cA cN k Q' a st o t := by
  unfold zQc at *
  generalize zrt k = q at *
  match q with
  | 0 =>
    obtain ⟨⟨r, u, h1, h2, h3⟩, h4⟩ := h
    exact ⟨⟨r, u, h1, hq _ _ _ h2, h3⟩, h4⟩
  | 1 =>
    obtain ⟨⟨r, u, h1, h2, h3⟩, h4⟩ := h
    exact ⟨⟨r, u, h1, hq _ _ _ h2, h3⟩, h4⟩
  | 2 =>
    obtain ⟨⟨u, h1, h2, h3⟩, h4⟩ := h
    exact ⟨⟨u, h1, hq _ _ _ h2, h3⟩, h4⟩
  | q + 3 =>
    obtain ⟨⟨r, u, h1, h2, h3⟩, h4⟩ := h
    exact ⟨⟨r, u, h1, hq _ _ _ h2, h3⟩, h4⟩
theorem zP_mo (l : Launch) (b : Nat) (D : va_G) (cA cN : ClassId) : zmo (zP l b D cA cN) := by
  intro k n0 Q Q' pc L st n M hq h p e s m args below meth c H locs cells slots ls F V
  obtain ⟨f1, f2, f3, f4, f5, f6, f7, f8, f9, f10, f11, f12, f13⟩ := F
  refine zW_mono (fun t ht => ?_) (h p e s m args below meth c H locs cells slots ls ⟨f1, f2, f3, f4, f5, f6, f7, f8, f9, f10, f11, f12, fun r n' M' q => f13 r n' M' (hq r n' M' q)⟩ V)
  obtain ⟨o, h1, h2, h3, h4⟩ := ht
  exact ⟨o, h1, h2, zQc_mono hq h3, h4⟩
theorem zfl_in {c i ci fk : Nat} (h : zfl c i = some (ci, fk)) : (c, i, ci, fk) ∈ zFL := by
  unfold zfl at h
  obtain ⟨e, h1, h2⟩ := Option.map_eq_some_iff.mp h
  have h3 := List.find?_some h1
  have h4 := List.mem_of_find?_eq_some h1
  simp only [Bool.and_eq_true, beq_iff_eq] at h3
  obtain ⟨a1, a2, a3⟩ := e
  dsimp only at h2 h3
  rw [← h3.1, ← h3.2, ← h2]
  exact h4
theorem zmlk_in {c i k' na kd : Nat} (h : zmlk c i = some (k', na, kd)) : (c, i, k', na, kd) ∈ zML := by
  unfold zmlk at h
  obtain ⟨e, h1, h2⟩ := Option.map_eq_some_iff.mp h
  have h3 := List.find?_some h1
  have h4 := List.mem_of_find?_eq_some h1
  simp only [Bool.and_eq_true, beq_iff_eq] at h3
  obtain ⟨a1, a2, a3⟩ := e
  dsimp only at h2 h3
  rw [← h3.1, ← h3.2, ← h2]
  exact h4
theorem zckl_in {c i ci : Nat} (h : zckl c i = some ci) : (c, i, ci) ∈ zCK := by
  unfold zckl at h
  obtain ⟨e, h1, h2⟩ := Option.map_eq_some_iff.mp h
  have h3 := List.find?_some h1
  have h4 := List.mem_of_find?_eq_some h1
  simp only [Bool.and_eq_true, beq_iff_eq] at h3
  obtain ⟨a1, a2, a3⟩ := e
  dsimp only at h2 h3
  rw [← h3.1, ← h3.2, ← h2]
  exact h4
theorem zcil_in {c i : Nat} {v : Int} (h : zcil c i = some v) : (c, i, v) ∈ zCI := by
  unfold zcil at h
  obtain ⟨e, h1, h2⟩ := Option.map_eq_some_iff.mp h
  have h3 := List.find?_some h1
  have h4 := List.mem_of_find?_eq_some h1
  simp only [Bool.and_eq_true, beq_iff_eq] at h3
  obtain ⟨a1, a2, a3⟩ := e
  dsimp only at h2 h3
  rw [← h3.1, ← h3.2, ← h2]
  exact h4
theorem zcjl_in {c i : Nat} {v : Int} (h : zcjl c i = some v) : (c, i, v) ∈ zCJ := by
  unfold zcjl at h
  obtain ⟨e, h1, h2⟩ := Option.map_eq_some_iff.mp h
  have h3 := List.find?_some h1
  have h4 := List.mem_of_find?_eq_some h1
  simp only [Bool.and_eq_true, beq_iff_eq] at h3
  obtain ⟨a1, a2, a3⟩ := e
  dsimp only at h2 h3
  rw [← h3.1, ← h3.2, ← h2]
  exact h4
theorem zFL_r : ∀ e ∈ zFL, e.2.2.1 < 10 ∧ e.2.2.2 < znf e.2.2.1 := by decide +kernel
theorem zCK_r : ∀ e ∈ zCK, e.2.2 < 10 := by decide +kernel
theorem zCI_r : ∀ e ∈ zCI, -2147483648 ≤ e.2.2 ∧ e.2.2 < 2147483648 := by decide +kernel
theorem zCJ_r : ∀ e ∈ zCJ, -9223372036854775808 ≤ e.2.2 ∧ e.2.2 < 9223372036854775808 := by decide +kernel
theorem zKl_r : ∀ q ∈ zKl, q.2 ≤ 1000 := by decide +kernel
theorem zKT_r (a : Int) : (zKT a).2 ≤ 1000 := by
  unfold zKT
  split
  · rename_i j
    rw [List.getD_eq_getElem?_getD]
    cases h : zKl[j]? with
    | none => simp
    | some q => exact zKl_r q (List.mem_of_getElem? h)
  · simp
/-- a jump -/
theorem zjmp_ok {op pc len : Nat} {off : Int} : (zjmp op pc len off = zno) ∨ (0 ≤ (pc : Int) + off ∧ zjmp op pc len off = (op, pc + len, [((pc : Int) + off).toNat], 0)) := by
  unfold zjmp
  split
  · exact Or.inr ⟨‹_›, rfl⟩
  · exact Or.inl rfl
theorem zno_F {k : Nat} {n0 : Int} {K : zJ} {C : zCt} {Q : zQ} {L st : List zV} {n : Int} {M : zM} (h : zwI k n0 K C Q zno L st n M) : False := by
  unfold zwI zstep at h
  exact h
section ZA
variable {l : Launch} {b : Nat} {D : va_G} {cA cN : ClassId} {k : Nat} {n0 : Int} {Q : zQ} {pc nx : Nat} {L st : List zV} {n : Int} {M : zM} {p : Program} {e : Env} {s : State} {m : MethodId} {args : Array Value} {below : List Frame} {meth : Method} {c : Code} {H : Heap} {locs : List Loc} {cells slots : Nat} {ls : Array Slot} {i : Nat} {fi : Fin 4} {v off : Int}
theorem za_iconst (F : zFx b D cA cN k n0 Q p s m args meth c) (V : zVr b D cA cN k n0 L st n M s H locs cells slots ls) (hdg : decode (zb k) pc = .ok (.iconst v, 1)) (hv : -1 ≤ v ∧ v ≤ 5) (h : zwI k n0 (zP l b D cA cN k n0 Q) (zent (zP l b D cA cN)) Q (0, pc + 1, [], v) L st n M) : zGo l b D cA cN k Q p e s m args below meth c H locs cells slots (F0 m pc ls (st.map (zv b))) := by
  unfold zwI zstep at h
  exact zo_iconst F V hdg hv h.2
theorem za_bipush (F : zFx b D cA cN k n0 Q p s m args meth c) (V : zVr b D cA cN k n0 L st n M s H locs cells slots ls) (hdg : decode (zb k) pc = .ok (.bipush v, 2)) (hv : -128 ≤ v ∧ v ≤ 127) (h : zwI k n0 (zP l b D cA cN k n0 Q) (zent (zP l b D cA cN)) Q (0, pc + 2, [], v) L st n M) : zGo l b D cA cN k Q p e s m args below meth c H locs cells slots (F0 m pc ls (st.map (zv b))) := by
  unfold zwI zstep at h
  exact zo_bipush F V hdg hv h.2
theorem za_sipush (F : zFx b D cA cN k n0 Q p s m args meth c) (V : zVr b D cA cN k n0 L st n M s H locs cells slots ls) (hdg : decode (zb k) pc = .ok (.sipush v, 3)) (hv : -32768 ≤ v ∧ v ≤ 32767) (h : zwI k n0 (zP l b D cA cN k n0 Q) (zent (zP l b D cA cN)) Q (0, pc + 3, [], v) L st n M) : zGo l b D cA cN k Q p e s m args below meth c H locs cells slots (F0 m pc ls (st.map (zv b))) := by
  unfold zwI zstep at h
  exact zo_sipush F V hdg hv h.2
theorem za_ldc (F : zFx b D cA cN k n0 Q p s m args meth c) (V : zVr b D cA cN k n0 L st n M s H locs cells slots ls) (hdg : decode (zb k) pc = .ok (.ldc i, 2)) (hv : zcil (zoc k) i = some v) (h : zwI k n0 (zP l b D cA cN k n0 Q) (zent (zP l b D cA cN)) Q (0, pc + 2, [], v) L st n M) : zGo l b D cA cN k Q p e s m args below meth c H locs cells slots (F0 m pc ls (st.map (zv b))) := by
  unfold zwI zstep at h
  exact zo_ldc F V hdg (zat_ok zCI_a _ (List.mem_map_of_mem (f := fun e : Nat × Nat × Int => Cond.constant (zcnm e.1) e.2.1 (Int32.ofInt e.2.2)) (zcil_in hv))) (zCI_r _ (zcil_in hv)) h.2
theorem za_ldcw (F : zFx b D cA cN k n0 Q p s m args meth c) (V : zVr b D cA cN k n0 L st n M s H locs cells slots ls) (hdg : decode (zb k) pc = .ok (.ldc_w i, 3)) (hv : zcil (zoc k) i = some v) (h : zwI k n0 (zP l b D cA cN k n0 Q) (zent (zP l b D cA cN)) Q (0, pc + 3, [], v) L st n M) : zGo l b D cA cN k Q p e s m args below meth c H locs cells slots (F0 m pc ls (st.map (zv b))) := by
  unfold zwI zstep at h
  exact zo_ldcw F V hdg (zat_ok zCI_a _ (List.mem_map_of_mem (f := fun e : Nat × Nat × Int => Cond.constant (zcnm e.1) e.2.1 (Int32.ofInt e.2.2)) (zcil_in hv))) (zCI_r _ (zcil_in hv)) h.2
theorem za_ldc2 (F : zFx b D cA cN k n0 Q p s m args meth c) (V : zVr b D cA cN k n0 L st n M s H locs cells slots ls) (hdg : decode (zb k) pc = .ok (.ldc2_w i, 3)) (hv : zcjl (zoc k) i = some v) (h : zwI k n0 (zP l b D cA cN k n0 Q) (zent (zP l b D cA cN)) Q (1, pc + 3, [], v) L st n M) : zGo l b D cA cN k Q p e s m args below meth c H locs cells slots (F0 m pc ls (st.map (zv b))) := by
  unfold zwI zstep at h
  exact zo_ldc2 F V hdg (zat_ok zCJ_a _ (List.mem_map_of_mem (f := fun e : Nat × Nat × Int => Cond.constantLong (zcnm e.1) e.2.1 (Int64.ofInt e.2.2)) (zcjl_in hv))) (zCJ_r _ (zcjl_in hv)) h.2
theorem za_lconst {f2 : Fin 2} (F : zFx b D cA cN k n0 Q p s m args meth c) (V : zVr b D cA cN k n0 L st n M s H locs cells slots ls) (hdg : decode (zb k) pc = .ok (.lconst f2, 1)) (h : zwI k n0 (zP l b D cA cN k n0 Q) (zent (zP l b D cA cN)) Q (1, pc + 1, [], ((f2 : Nat) : Int)) L st n M) : zGo l b D cA cN k Q p e s m args below meth c H locs cells slots (F0 m pc ls (st.map (zv b))) := by
  unfold zwI zstep at h
  exact zo_lconst F V hdg h.2
theorem za_iload (F : zFx b D cA cN k n0 Q p s m args meth c) (V : zVr b D cA cN k n0 L st n M s H locs cells slots ls) (hdg : decode (zb k) pc = .ok (.iload i, 2)) (h : zwI k n0 (zP l b D cA cN k n0 Q) (zent (zP l b D cA cN)) Q (2, pc + 2, [i], 0) L st n M) : zGo l b D cA cN k Q p e s m args below meth c H locs cells slots (F0 m pc ls (st.map (zv b))) := by
  replace h : (match (generalizing := false) (match (generalizing := false) znth L ((i)) with | some (0, x) => some (True, L, (0, x) :: st, n, M) | _ => none : Option (Prop × List zV × List zV × Int × zM)) with | some (g, L2, st2, n2, M2) => g ∧ zP l b D cA cN k n0 Q (pc + 2) L2 st2 n2 M2 | none => False) := h
  split at h
  · rename_i heq
    split at heq <;> first | (cases heq; exact zo_iload F V hdg (by assumption) h.2) | (cases heq; done)
  · exact h.elim
theorem za_iloadn (F : zFx b D cA cN k n0 Q p s m args meth c) (V : zVr b D cA cN k n0 L st n M s H locs cells slots ls) (hdg : decode (zb k) pc = .ok (.iload_n fi, 1)) (h : zwI k n0 (zP l b D cA cN k n0 Q) (zent (zP l b D cA cN)) Q (2, pc + 1, [(fi : Nat)], 0) L st n M) : zGo l b D cA cN k Q p e s m args below meth c H locs cells slots (F0 m pc ls (st.map (zv b))) := by
  replace h : (match (generalizing := false) (match (generalizing := false) znth L (((fi : Nat))) with | some (0, x) => some (True, L, (0, x) :: st, n, M) | _ => none : Option (Prop × List zV × List zV × Int × zM)) with | some (g, L2, st2, n2, M2) => g ∧ zP l b D cA cN k n0 Q (pc + 1) L2 st2 n2 M2 | none => False) := h
  split at h
  · rename_i heq
    split at heq <;> first | (cases heq; exact zo_iloadn F V hdg (by assumption) h.2) | (cases heq; done)
  · exact h.elim
theorem za_lload (F : zFx b D cA cN k n0 Q p s m args meth c) (V : zVr b D cA cN k n0 L st n M s H locs cells slots ls) (hdg : decode (zb k) pc = .ok (.lload i, 2)) (h : zwI k n0 (zP l b D cA cN k n0 Q) (zent (zP l b D cA cN)) Q (3, pc + 2, [i], 0) L st n M) : zGo l b D cA cN k Q p e s m args below meth c H locs cells slots (F0 m pc ls (st.map (zv b))) := by
  replace h : (match (generalizing := false) (match (generalizing := false) znth L ((i)) with | some (1, x) => some (True, L, (1, x) :: st, n, M) | _ => none : Option (Prop × List zV × List zV × Int × zM)) with | some (g, L2, st2, n2, M2) => g ∧ zP l b D cA cN k n0 Q (pc + 2) L2 st2 n2 M2 | none => False) := h
  split at h
  · rename_i heq
    split at heq <;> first | (cases heq; exact zo_lload F V hdg (by assumption) h.2) | (cases heq; done)
  · exact h.elim
theorem za_lloadn (F : zFx b D cA cN k n0 Q p s m args meth c) (V : zVr b D cA cN k n0 L st n M s H locs cells slots ls) (hdg : decode (zb k) pc = .ok (.lload_n fi, 1)) (h : zwI k n0 (zP l b D cA cN k n0 Q) (zent (zP l b D cA cN)) Q (3, pc + 1, [(fi : Nat)], 0) L st n M) : zGo l b D cA cN k Q p e s m args below meth c H locs cells slots (F0 m pc ls (st.map (zv b))) := by
  replace h : (match (generalizing := false) (match (generalizing := false) znth L (((fi : Nat))) with | some (1, x) => some (True, L, (1, x) :: st, n, M) | _ => none : Option (Prop × List zV × List zV × Int × zM)) with | some (g, L2, st2, n2, M2) => g ∧ zP l b D cA cN k n0 Q (pc + 1) L2 st2 n2 M2 | none => False) := h
  split at h
  · rename_i heq
    split at heq <;> first | (cases heq; exact zo_lloadn F V hdg (by assumption) h.2) | (cases heq; done)
  · exact h.elim
theorem za_aload (F : zFx b D cA cN k n0 Q p s m args meth c) (V : zVr b D cA cN k n0 L st n M s H locs cells slots ls) (hdg : decode (zb k) pc = .ok (.aload i, 2)) (h : zwI k n0 (zP l b D cA cN k n0 Q) (zent (zP l b D cA cN)) Q (4, pc + 2, [i], 0) L st n M) : zGo l b D cA cN k Q p e s m args below meth c H locs cells slots (F0 m pc ls (st.map (zv b))) := by
  replace h : (match (generalizing := false) (match (generalizing := false) znth L ((i)) with | some (2, x) => some (0 < x, L, (2, x) :: st, n, M) | _ => none : Option (Prop × List zV × List zV × Int × zM)) with | some (g, L2, st2, n2, M2) => g ∧ zP l b D cA cN k n0 Q (pc + 2) L2 st2 n2 M2 | none => False) := h
  split at h
  · rename_i heq
    split at heq <;> first | (cases heq; exact zo_aload F V hdg (by assumption) h.1 h.2) | (cases heq; done)
  · exact h.elim
theorem za_aloadn (F : zFx b D cA cN k n0 Q p s m args meth c) (V : zVr b D cA cN k n0 L st n M s H locs cells slots ls) (hdg : decode (zb k) pc = .ok (.aload_n fi, 1)) (h : zwI k n0 (zP l b D cA cN k n0 Q) (zent (zP l b D cA cN)) Q (4, pc + 1, [(fi : Nat)], 0) L st n M) : zGo l b D cA cN k Q p e s m args below meth c H locs cells slots (F0 m pc ls (st.map (zv b))) := by
  replace h : (match (generalizing := false) (match (generalizing := false) znth L (((fi : Nat))) with | some (2, x) => some (0 < x, L, (2, x) :: st, n, M) | _ => none : Option (Prop × List zV × List zV × Int × zM)) with | some (g, L2, st2, n2, M2) => g ∧ zP l b D cA cN k n0 Q (pc + 1) L2 st2 n2 M2 | none => False) := h
  split at h
  · rename_i heq
    split at heq <;> first | (cases heq; exact zo_aloadn F V hdg (by assumption) h.1 h.2) | (cases heq; done)
  · exact h.elim
theorem za_istore (F : zFx b D cA cN k n0 Q p s m args meth c) (V : zVr b D cA cN k n0 L st n M s H locs cells slots ls) (hdg : decode (zb k) pc = .ok (.istore i, 2)) (h : zwI k n0 (zP l b D cA cN k n0 Q) (zent (zP l b D cA cN)) Q (5, pc + 2, [i], 0) L st n M) : zGo l b D cA cN k Q p e s m args below meth c H locs cells slots (F0 m pc ls (st.map (zv b))) := by
  replace h : (match (generalizing := false) (match (generalizing := false) znth L ((i)), st with | some _, (0, x) :: r => some (True, zst1 L ((i)) (0, x), r, n, M) | _, _ => none : Option (Prop × List zV × List zV × Int × zM)) with | some (g, L2, st2, n2, M2) => g ∧ zP l b D cA cN k n0 Q (pc + 2) L2 st2 n2 M2 | none => False) := h
  split at h
  · rename_i heq
    split at heq <;> first | (cases heq; exact zo_istore F V hdg (by assumption) h.2) | (cases heq; done)
  · exact h.elim
theorem za_istoren (F : zFx b D cA cN k n0 Q p s m args meth c) (V : zVr b D cA cN k n0 L st n M s H locs cells slots ls) (hdg : decode (zb k) pc = .ok (.istore_n fi, 1)) (h : zwI k n0 (zP l b D cA cN k n0 Q) (zent (zP l b D cA cN)) Q (5, pc + 1, [(fi : Nat)], 0) L st n M) : zGo l b D cA cN k Q p e s m args below meth c H locs cells slots (F0 m pc ls (st.map (zv b))) := by
  replace h : (match (generalizing := false) (match (generalizing := false) znth L (((fi : Nat))), st with | some _, (0, x) :: r => some (True, zst1 L (((fi : Nat))) (0, x), r, n, M) | _, _ => none : Option (Prop × List zV × List zV × Int × zM)) with | some (g, L2, st2, n2, M2) => g ∧ zP l b D cA cN k n0 Q (pc + 1) L2 st2 n2 M2 | none => False) := h
  split at h
  · rename_i heq
    split at heq <;> first | (cases heq; exact zo_istoren F V hdg (by assumption) h.2) | (cases heq; done)
  · exact h.elim
theorem za_lstore (F : zFx b D cA cN k n0 Q p s m args meth c) (V : zVr b D cA cN k n0 L st n M s H locs cells slots ls) (hdg : decode (zb k) pc = .ok (.lstore i, 2)) (h : zwI k n0 (zP l b D cA cN k n0 Q) (zent (zP l b D cA cN)) Q (6, pc + 2, [i], 0) L st n M) : zGo l b D cA cN k Q p e s m args below meth c H locs cells slots (F0 m pc ls (st.map (zv b))) := by
  replace h : (match (generalizing := false) (match (generalizing := false) znth L ((i) + 1), st with | some _, (1, x) :: r => some (True, zst2 L ((i)) (1, x), r, n, M) | _, _ => none : Option (Prop × List zV × List zV × Int × zM)) with | some (g, L2, st2, n2, M2) => g ∧ zP l b D cA cN k n0 Q (pc + 2) L2 st2 n2 M2 | none => False) := h
  split at h
  · rename_i heq
    split at heq <;> first | (cases heq; exact zo_lstore F V hdg (by assumption) h.2) | (cases heq; done)
  · exact h.elim
theorem za_lstoren (F : zFx b D cA cN k n0 Q p s m args meth c) (V : zVr b D cA cN k n0 L st n M s H locs cells slots ls) (hdg : decode (zb k) pc = .ok (.lstore_n fi, 1)) (h : zwI k n0 (zP l b D cA cN k n0 Q) (zent (zP l b D cA cN)) Q (6, pc + 1, [(fi : Nat)], 0) L st n M) : zGo l b D cA cN k Q p e s m args below meth c H locs cells slots (F0 m pc ls (st.map (zv b))) := by
  replace h : (match (generalizing := false) (match (generalizing := false) znth L (((fi : Nat)) + 1), st with | some _, (1, x) :: r => some (True, zst2 L (((fi : Nat))) (1, x), r, n, M) | _, _ => none : Option (Prop × List zV × List zV × Int × zM)) with | some (g, L2, st2, n2, M2) => g ∧ zP l b D cA cN k n0 Q (pc + 1) L2 st2 n2 M2 | none => False) := h
  split at h
  · rename_i heq
    split at heq <;> first | (cases heq; exact zo_lstoren F V hdg (by assumption) h.2) | (cases heq; done)
  · exact h.elim
theorem za_astore (F : zFx b D cA cN k n0 Q p s m args meth c) (V : zVr b D cA cN k n0 L st n M s H locs cells slots ls) (hdg : decode (zb k) pc = .ok (.astore i, 2)) (h : zwI k n0 (zP l b D cA cN k n0 Q) (zent (zP l b D cA cN)) Q (7, pc + 2, [i], 0) L st n M) : zGo l b D cA cN k Q p e s m args below meth c H locs cells slots (F0 m pc ls (st.map (zv b))) := by
  replace h : (match (generalizing := false) (match (generalizing := false) znth L ((i)), st with | some _, (2, x) :: r => some (0 < x, zst1 L ((i)) (2, x), r, n, M) | _, _ => none : Option (Prop × List zV × List zV × Int × zM)) with | some (g, L2, st2, n2, M2) => g ∧ zP l b D cA cN k n0 Q (pc + 2) L2 st2 n2 M2 | none => False) := h
  split at h
  · rename_i heq
    split at heq <;> first | (cases heq; exact zo_astore F V hdg (by assumption) h.1 h.2) | (cases heq; done)
  · exact h.elim
theorem za_astoren (F : zFx b D cA cN k n0 Q p s m args meth c) (V : zVr b D cA cN k n0 L st n M s H locs cells slots ls) (hdg : decode (zb k) pc = .ok (.astore_n fi, 1)) (h : zwI k n0 (zP l b D cA cN k n0 Q) (zent (zP l b D cA cN)) Q (7, pc + 1, [(fi : Nat)], 0) L st n M) : zGo l b D cA cN k Q p e s m args below meth c H locs cells slots (F0 m pc ls (st.map (zv b))) := by
  replace h : (match (generalizing := false) (match (generalizing := false) znth L (((fi : Nat))), st with | some _, (2, x) :: r => some (0 < x, zst1 L (((fi : Nat))) (2, x), r, n, M) | _, _ => none : Option (Prop × List zV × List zV × Int × zM)) with | some (g, L2, st2, n2, M2) => g ∧ zP l b D cA cN k n0 Q (pc + 1) L2 st2 n2 M2 | none => False) := h
  split at h
  · rename_i heq
    split at heq <;> first | (cases heq; exact zo_astoren F V hdg (by assumption) h.1 h.2) | (cases heq; done)
  · exact h.elim
theorem za_iinc (F : zFx b D cA cN k n0 Q p s m args meth c) (V : zVr b D cA cN k n0 L st n M s H locs cells slots ls) (hdg : decode (zb k) pc = .ok (.iinc i v, 3)) (h : zwI k n0 (zP l b D cA cN k n0 Q) (zent (zP l b D cA cN)) Q (8, pc + 3, [i], v) L st n M) : zGo l b D cA cN k Q p e s m args below meth c H locs cells slots (F0 m pc ls (st.map (zv b))) := by
  replace h : (match (generalizing := false) (match (generalizing := false) znth L ((i)) with | some (0, x) => some (True, zst1 L ((i)) (0, zw (x + (v))), st, n, M) | _ => none : Option (Prop × List zV × List zV × Int × zM)) with | some (g, L2, st2, n2, M2) => g ∧ zP l b D cA cN k n0 Q (pc + 3) L2 st2 n2 M2 | none => False) := h
  split at h
  · rename_i heq
    split at heq <;> first | (cases heq; exact zo_iinc F V hdg (by assumption) h.2) | (cases heq; done)
  · exact h.elim
theorem za_iadd (F : zFx b D cA cN k n0 Q p s m args meth c) (V : zVr b D cA cN k n0 L st n M s H locs cells slots ls) (hdg : decode (zb k) pc = .ok (.iadd, 1)) (h : zwI k n0 (zP l b D cA cN k n0 Q) (zent (zP l b D cA cN)) Q (50, pc + 1, [], 0) L st n M) : zGo l b D cA cN k Q p e s m args below meth c H locs cells slots (F0 m pc ls (st.map (zv b))) := by
  replace h : (match (generalizing := false) (match (generalizing := false) st with | (0, y) :: (0, x) :: r => some (True, L, (0, zw (x + y)) :: r, n, M) | _ => none : Option (Prop × List zV × List zV × Int × zM)) with | some (g, L2, st2, n2, M2) => g ∧ zP l b D cA cN k n0 Q (pc + 1) L2 st2 n2 M2 | none => False) := h
  split at h
  · rename_i heq
    split at heq <;> first | (cases heq; exact zo_iadd F V hdg h.2) | (cases heq; done)
  · exact h.elim
theorem za_isub (F : zFx b D cA cN k n0 Q p s m args meth c) (V : zVr b D cA cN k n0 L st n M s H locs cells slots ls) (hdg : decode (zb k) pc = .ok (.isub, 1)) (h : zwI k n0 (zP l b D cA cN k n0 Q) (zent (zP l b D cA cN)) Q (51, pc + 1, [], 0) L st n M) : zGo l b D cA cN k Q p e s m args below meth c H locs cells slots (F0 m pc ls (st.map (zv b))) := by
  replace h : (match (generalizing := false) (match (generalizing := false) st with | (0, y) :: (0, x) :: r => some (True, L, (0, zw (x - y)) :: r, n, M) | _ => none : Option (Prop × List zV × List zV × Int × zM)) with | some (g, L2, st2, n2, M2) => g ∧ zP l b D cA cN k n0 Q (pc + 1) L2 st2 n2 M2 | none => False) := h
  split at h
  · rename_i heq
    split at heq <;> first | (cases heq; exact zo_isub F V hdg h.2) | (cases heq; done)
  · exact h.elim
theorem za_imul (F : zFx b D cA cN k n0 Q p s m args meth c) (V : zVr b D cA cN k n0 L st n M s H locs cells slots ls) (hdg : decode (zb k) pc = .ok (.imul, 1)) (h : zwI k n0 (zP l b D cA cN k n0 Q) (zent (zP l b D cA cN)) Q (52, pc + 1, [], 0) L st n M) : zGo l b D cA cN k Q p e s m args below meth c H locs cells slots (F0 m pc ls (st.map (zv b))) := by
  replace h : (match (generalizing := false) (match (generalizing := false) st with | (0, y) :: (0, x) :: r => some (True, L, (0, zw (x * y)) :: r, n, M) | _ => none : Option (Prop × List zV × List zV × Int × zM)) with | some (g, L2, st2, n2, M2) => g ∧ zP l b D cA cN k n0 Q (pc + 1) L2 st2 n2 M2 | none => False) := h
  split at h
  · rename_i heq
    split at heq <;> first | (cases heq; exact zo_imul F V hdg h.2) | (cases heq; done)
  · exact h.elim
theorem za_iand (F : zFx b D cA cN k n0 Q p s m args meth c) (V : zVr b D cA cN k n0 L st n M s H locs cells slots ls) (hdg : decode (zb k) pc = .ok (.iand, 1)) (h : zwI k n0 (zP l b D cA cN k n0 Q) (zent (zP l b D cA cN)) Q (53, pc + 1, [], 0) L st n M) : zGo l b D cA cN k Q p e s m args below meth c H locs cells slots (F0 m pc ls (st.map (zv b))) := by
  replace h : (match (generalizing := false) (match (generalizing := false) st with | (0, y) :: (0, x) :: r => some (True, L, (0, zand x y) :: r, n, M) | _ => none : Option (Prop × List zV × List zV × Int × zM)) with | some (g, L2, st2, n2, M2) => g ∧ zP l b D cA cN k n0 Q (pc + 1) L2 st2 n2 M2 | none => False) := h
  split at h
  · rename_i heq
    split at heq <;> first | (cases heq; exact zo_iand F V hdg h.2) | (cases heq; done)
  · exact h.elim
theorem za_ior (F : zFx b D cA cN k n0 Q p s m args meth c) (V : zVr b D cA cN k n0 L st n M s H locs cells slots ls) (hdg : decode (zb k) pc = .ok (.ior, 1)) (h : zwI k n0 (zP l b D cA cN k n0 Q) (zent (zP l b D cA cN)) Q (54, pc + 1, [], 0) L st n M) : zGo l b D cA cN k Q p e s m args below meth c H locs cells slots (F0 m pc ls (st.map (zv b))) := by
  replace h : (match (generalizing := false) (match (generalizing := false) st with | (0, y) :: (0, x) :: r => some (True, L, (0, zor x y) :: r, n, M) | _ => none : Option (Prop × List zV × List zV × Int × zM)) with | some (g, L2, st2, n2, M2) => g ∧ zP l b D cA cN k n0 Q (pc + 1) L2 st2 n2 M2 | none => False) := h
  split at h
  · rename_i heq
    split at heq <;> first | (cases heq; exact zo_ior F V hdg h.2) | (cases heq; done)
  · exact h.elim
theorem za_ixor (F : zFx b D cA cN k n0 Q p s m args meth c) (V : zVr b D cA cN k n0 L st n M s H locs cells slots ls) (hdg : decode (zb k) pc = .ok (.ixor, 1)) (h : zwI k n0 (zP l b D cA cN k n0 Q) (zent (zP l b D cA cN)) Q (55, pc + 1, [], 0) L st n M) : zGo l b D cA cN k Q p e s m args below meth c H locs cells slots (F0 m pc ls (st.map (zv b))) := by
  replace h : (match (generalizing := false) (match (generalizing := false) st with | (0, y) :: (0, x) :: r => some (True, L, (0, zxor x y) :: r, n, M) | _ => none : Option (Prop × List zV × List zV × Int × zM)) with | some (g, L2, st2, n2, M2) => g ∧ zP l b D cA cN k n0 Q (pc + 1) L2 st2 n2 M2 | none => False) := h
  split at h
  · rename_i heq
    split at heq <;> first | (cases heq; exact zo_ixor F V hdg h.2) | (cases heq; done)
  · exact h.elim
theorem za_ishl (F : zFx b D cA cN k n0 Q p s m args meth c) (V : zVr b D cA cN k n0 L st n M s H locs cells slots ls) (hdg : decode (zb k) pc = .ok (.ishl, 1)) (h : zwI k n0 (zP l b D cA cN k n0 Q) (zent (zP l b D cA cN)) Q (56, pc + 1, [], 0) L st n M) : zGo l b D cA cN k Q p e s m args below meth c H locs cells slots (F0 m pc ls (st.map (zv b))) := by
  replace h : (match (generalizing := false) (match (generalizing := false) st with | (0, y) :: (0, x) :: r => some (True, L, (0, zshl x y) :: r, n, M) | _ => none : Option (Prop × List zV × List zV × Int × zM)) with | some (g, L2, st2, n2, M2) => g ∧ zP l b D cA cN k n0 Q (pc + 1) L2 st2 n2 M2 | none => False) := h
  split at h
  · rename_i heq
    split at heq <;> first | (cases heq; exact zo_ishl F V hdg h.2) | (cases heq; done)
  · exact h.elim
theorem za_ishr (F : zFx b D cA cN k n0 Q p s m args meth c) (V : zVr b D cA cN k n0 L st n M s H locs cells slots ls) (hdg : decode (zb k) pc = .ok (.ishr, 1)) (h : zwI k n0 (zP l b D cA cN k n0 Q) (zent (zP l b D cA cN)) Q (57, pc + 1, [], 0) L st n M) : zGo l b D cA cN k Q p e s m args below meth c H locs cells slots (F0 m pc ls (st.map (zv b))) := by
  replace h : (match (generalizing := false) (match (generalizing := false) st with | (0, y) :: (0, x) :: r => some (True, L, (0, zshr x y) :: r, n, M) | _ => none : Option (Prop × List zV × List zV × Int × zM)) with | some (g, L2, st2, n2, M2) => g ∧ zP l b D cA cN k n0 Q (pc + 1) L2 st2 n2 M2 | none => False) := h
  split at h
  · rename_i heq
    split at heq <;> first | (cases heq; exact zo_ishr F V hdg h.2) | (cases heq; done)
  · exact h.elim
theorem za_iushr (F : zFx b D cA cN k n0 Q p s m args meth c) (V : zVr b D cA cN k n0 L st n M s H locs cells slots ls) (hdg : decode (zb k) pc = .ok (.iushr, 1)) (h : zwI k n0 (zP l b D cA cN k n0 Q) (zent (zP l b D cA cN)) Q (58, pc + 1, [], 0) L st n M) : zGo l b D cA cN k Q p e s m args below meth c H locs cells slots (F0 m pc ls (st.map (zv b))) := by
  replace h : (match (generalizing := false) (match (generalizing := false) st with | (0, y) :: (0, x) :: r => some (True, L, (0, zushr x y) :: r, n, M) | _ => none : Option (Prop × List zV × List zV × Int × zM)) with | some (g, L2, st2, n2, M2) => g ∧ zP l b D cA cN k n0 Q (pc + 1) L2 st2 n2 M2 | none => False) := h
  split at h
  · rename_i heq
    split at heq <;> first | (cases heq; exact zo_iushr F V hdg h.2) | (cases heq; done)
  · exact h.elim
theorem za_ladd (F : zFx b D cA cN k n0 Q p s m args meth c) (V : zVr b D cA cN k n0 L st n M s H locs cells slots ls) (hdg : decode (zb k) pc = .ok (.ladd, 1)) (h : zwI k n0 (zP l b D cA cN k n0 Q) (zent (zP l b D cA cN)) Q (60, pc + 1, [], 0) L st n M) : zGo l b D cA cN k Q p e s m args below meth c H locs cells slots (F0 m pc ls (st.map (zv b))) := by
  replace h : (match (generalizing := false) (match (generalizing := false) st with | (1, y) :: (1, x) :: r => some (True, L, (1, zW (x + y)) :: r, n, M) | _ => none : Option (Prop × List zV × List zV × Int × zM)) with | some (g, L2, st2, n2, M2) => g ∧ zP l b D cA cN k n0 Q (pc + 1) L2 st2 n2 M2 | none => False) := h
  split at h
  · rename_i heq
    split at heq <;> first | (cases heq; exact zo_ladd F V hdg h.2) | (cases heq; done)
  · exact h.elim
theorem za_lsub (F : zFx b D cA cN k n0 Q p s m args meth c) (V : zVr b D cA cN k n0 L st n M s H locs cells slots ls) (hdg : decode (zb k) pc = .ok (.lsub, 1)) (h : zwI k n0 (zP l b D cA cN k n0 Q) (zent (zP l b D cA cN)) Q (61, pc + 1, [], 0) L st n M) : zGo l b D cA cN k Q p e s m args below meth c H locs cells slots (F0 m pc ls (st.map (zv b))) := by
  replace h : (match (generalizing := false) (match (generalizing := false) st with | (1, y) :: (1, x) :: r => some (True, L, (1, zW (x - y)) :: r, n, M) | _ => none : Option (Prop × List zV × List zV × Int × zM)) with | some (g, L2, st2, n2, M2) => g ∧ zP l b D cA cN k n0 Q (pc + 1) L2 st2 n2 M2 | none => False) := h
  split at h
  · rename_i heq
    split at heq <;> first | (cases heq; exact zo_lsub F V hdg h.2) | (cases heq; done)
  · exact h.elim
theorem za_lmul (F : zFx b D cA cN k n0 Q p s m args meth c) (V : zVr b D cA cN k n0 L st n M s H locs cells slots ls) (hdg : decode (zb k) pc = .ok (.lmul, 1)) (h : zwI k n0 (zP l b D cA cN k n0 Q) (zent (zP l b D cA cN)) Q (62, pc + 1, [], 0) L st n M) : zGo l b D cA cN k Q p e s m args below meth c H locs cells slots (F0 m pc ls (st.map (zv b))) := by
  replace h : (match (generalizing := false) (match (generalizing := false) st with | (1, y) :: (1, x) :: r => some (True, L, (1, zW (x * y)) :: r, n, M) | _ => none : Option (Prop × List zV × List zV × Int × zM)) with | some (g, L2, st2, n2, M2) => g ∧ zP l b D cA cN k n0 Q (pc + 1) L2 st2 n2 M2 | none => False) := h
  split at h
  · rename_i heq
    split at heq <;> first | (cases heq; exact zo_lmul F V hdg h.2) | (cases heq; done)
  · exact h.elim
theorem za_ineg (F : zFx b D cA cN k n0 Q p s m args meth c) (V : zVr b D cA cN k n0 L st n M s H locs cells slots ls) (hdg : decode (zb k) pc = .ok (.ineg, 1)) (h : zwI k n0 (zP l b D cA cN k n0 Q) (zent (zP l b D cA cN)) Q (11, pc + 1, [], 0) L st n M) : zGo l b D cA cN k Q p e s m args below meth c H locs cells slots (F0 m pc ls (st.map (zv b))) := by
  replace h : (match (generalizing := false) (match (generalizing := false) st with | (0, x) :: r => some (True, L, (0, zw (-x)) :: r, n, M) | _ => none : Option (Prop × List zV × List zV × Int × zM)) with | some (g, L2, st2, n2, M2) => g ∧ zP l b D cA cN k n0 Q (pc + 1) L2 st2 n2 M2 | none => False) := h
  split at h
  · rename_i heq
    split at heq <;> first | (cases heq; exact zo_ineg F V hdg h.2) | (cases heq; done)
  · exact h.elim
theorem za_i2l (F : zFx b D cA cN k n0 Q p s m args meth c) (V : zVr b D cA cN k n0 L st n M s H locs cells slots ls) (hdg : decode (zb k) pc = .ok (.i2l, 1)) (h : zwI k n0 (zP l b D cA cN k n0 Q) (zent (zP l b D cA cN)) Q (12, pc + 1, [], 0) L st n M) : zGo l b D cA cN k Q p e s m args below meth c H locs cells slots (F0 m pc ls (st.map (zv b))) := by
  replace h : (match (generalizing := false) (match (generalizing := false) st with | (0, x) :: r => some (True, L, (1, x) :: r, n, M) | _ => none : Option (Prop × List zV × List zV × Int × zM)) with | some (g, L2, st2, n2, M2) => g ∧ zP l b D cA cN k n0 Q (pc + 1) L2 st2 n2 M2 | none => False) := h
  split at h
  · rename_i heq
    split at heq <;> first | (cases heq; exact zo_i2l F V hdg h.2) | (cases heq; done)
  · exact h.elim
theorem za_lcmp (F : zFx b D cA cN k n0 Q p s m args meth c) (V : zVr b D cA cN k n0 L st n M s H locs cells slots ls) (hdg : decode (zb k) pc = .ok (.lcmp, 1)) (h : zwI k n0 (zP l b D cA cN k n0 Q) (zent (zP l b D cA cN)) Q (13, pc + 1, [], 0) L st n M) : zGo l b D cA cN k Q p e s m args below meth c H locs cells slots (F0 m pc ls (st.map (zv b))) := by
  replace h : (match (generalizing := false) (match (generalizing := false) st with | (1, y) :: (1, x) :: r => some (True, L, (0, zlcmp x y) :: r, n, M) | _ => none : Option (Prop × List zV × List zV × Int × zM)) with | some (g, L2, st2, n2, M2) => g ∧ zP l b D cA cN k n0 Q (pc + 1) L2 st2 n2 M2 | none => False) := h
  split at h
  · rename_i heq
    split at heq <;> first | (cases heq; exact zo_lcmp F V hdg h.2) | (cases heq; done)
  · exact h.elim
theorem za_dup (F : zFx b D cA cN k n0 Q p s m args meth c) (V : zVr b D cA cN k n0 L st n M s H locs cells slots ls) (hdg : decode (zb k) pc = .ok (.dup, 1)) (h : zwI k n0 (zP l b D cA cN k n0 Q) (zent (zP l b D cA cN)) Q (18, pc + 1, [], 0) L st n M) : zGo l b D cA cN k Q p e s m args below meth c H locs cells slots (F0 m pc ls (st.map (zv b))) := by
  replace h : (match (generalizing := false) (match (generalizing := false) st with | (0, x) :: r => some (True, L, (0, x) :: (0, x) :: r, n, M) | (2, x) :: r => some (True, L, (2, x) :: (2, x) :: r, n, M) | _ => none : Option (Prop × List zV × List zV × Int × zM)) with | some (g, L2, st2, n2, M2) => g ∧ zP l b D cA cN k n0 Q (pc + 1) L2 st2 n2 M2 | none => False) := h
  split at h
  · rename_i heq
    split at heq <;> first | (cases heq; exact zo_dup F V hdg (by dsimp only; omega) h.2) | (cases heq; done)
  · exact h.elim
theorem za_dup2 (F : zFx b D cA cN k n0 Q p s m args meth c) (V : zVr b D cA cN k n0 L st n M s H locs cells slots ls) (hdg : decode (zb k) pc = .ok (.dup2, 1)) (h : zwI k n0 (zP l b D cA cN k n0 Q) (zent (zP l b D cA cN)) Q (19, pc + 1, [], 0) L st n M) : zGo l b D cA cN k Q p e s m args below meth c H locs cells slots (F0 m pc ls (st.map (zv b))) := by
  replace h : (match (generalizing := false) (match (generalizing := false) st with | (0, x) :: (2, a) :: r => some (True, L, (0, x) :: (2, a) :: (0, x) :: (2, a) :: r, n, M) | _ => none : Option (Prop × List zV × List zV × Int × zM)) with | some (g, L2, st2, n2, M2) => g ∧ zP l b D cA cN k n0 Q (pc + 1) L2 st2 n2 M2 | none => False) := h
  split at h
  · rename_i heq
    split at heq <;> first | (cases heq; exact zo_dup2 F V hdg (by dsimp only; omega) (by dsimp only; omega) h.2) | (cases heq; done)
  · exact h.elim
theorem za_pop (F : zFx b D cA cN k n0 Q p s m args meth c) (V : zVr b D cA cN k n0 L st n M s H locs cells slots ls) (hdg : decode (zb k) pc = .ok (.pop, 1)) (h : zwI k n0 (zP l b D cA cN k n0 Q) (zent (zP l b D cA cN)) Q (20, pc + 1, [], 0) L st n M) : zGo l b D cA cN k Q p e s m args below meth c H locs cells slots (F0 m pc ls (st.map (zv b))) := by
  replace h : (match (generalizing := false) (match (generalizing := false) st with | (0, _) :: r => some (True, L, r, n, M) | _ => none : Option (Prop × List zV × List zV × Int × zM)) with | some (g, L2, st2, n2, M2) => g ∧ zP l b D cA cN k n0 Q (pc + 1) L2 st2 n2 M2 | none => False) := h
  split at h
  · rename_i heq
    split at heq <;> first | (cases heq; exact zo_pop F V hdg (by dsimp only; omega) h.2) | (cases heq; done)
  · exact h.elim
theorem za_iaload (F : zFx b D cA cN k n0 Q p s m args meth c) (V : zVr b D cA cN k n0 L st n M s H locs cells slots ls) (hdg : decode (zb k) pc = .ok (.iaload, 1)) (h : zwI k n0 (zP l b D cA cN k n0 Q) (zent (zP l b D cA cN)) Q (26, pc + 1, [], 0) L st n M) : zGo l b D cA cN k Q p e s m args below meth c H locs cells slots (F0 m pc ls (st.map (zv b))) := by
  replace h : (match (generalizing := false) (match (generalizing := false) st with | (0, j) :: (2, a) :: r => some ((zKT a).1 = 0 ∧ 0 ≤ j ∧ j < (zKT a).2, L, (0, M a j) :: r, n, M) | _ => none : Option (Prop × List zV × List zV × Int × zM)) with | some (g, L2, st2, n2, M2) => g ∧ zP l b D cA cN k n0 Q (pc + 1) L2 st2 n2 M2 | none => False) := h
  split at h
  · rename_i heq
    split at heq <;> first | (cases heq; exact zo_iaload F V hdg h.1.1 h.1.2.1 h.1.2.2 h.2) | (cases heq; done)
  · exact h.elim
theorem za_iastore (F : zFx b D cA cN k n0 Q p s m args meth c) (V : zVr b D cA cN k n0 L st n M s H locs cells slots ls) (hdg : decode (zb k) pc = .ok (.iastore, 1)) (h : zwI k n0 (zP l b D cA cN k n0 Q) (zent (zP l b D cA cN)) Q (27, pc + 1, [], 0) L st n M) : zGo l b D cA cN k Q p e s m args below meth c H locs cells slots (F0 m pc ls (st.map (zv b))) := by
  replace h : (match (generalizing := false) (match (generalizing := false) st with | (0, x) :: (0, j) :: (2, a) :: r => some ((zKT a).1 = 0 ∧ 0 ≤ j ∧ j < (zKT a).2, L, r, n, zset M a j x) | _ => none : Option (Prop × List zV × List zV × Int × zM)) with | some (g, L2, st2, n2, M2) => g ∧ zP l b D cA cN k n0 Q (pc + 1) L2 st2 n2 M2 | none => False) := h
  split at h
  · rename_i heq
    split at heq <;> first | (cases heq; exact zo_iastore F V hdg h.1.1 h.1.2.1 h.1.2.2 h.2) | (cases heq; done)
  · exact h.elim
theorem za_aaload (F : zFx b D cA cN k n0 Q p s m args meth c) (V : zVr b D cA cN k n0 L st n M s H locs cells slots ls) (hdg : decode (zb k) pc = .ok (.aaload, 1)) (h : zwI k n0 (zP l b D cA cN k n0 Q) (zent (zP l b D cA cN)) Q (28, pc + 1, [], 0) L st n M) : zGo l b D cA cN k Q p e s m args below meth c H locs cells slots (F0 m pc ls (st.map (zv b))) := by
  replace h : (match (generalizing := false) (match (generalizing := false) st with | (0, j) :: (2, a) :: r => some ((zKT a).1 = 1 ∧ 0 ≤ j ∧ j < (zKT a).2, L, (2, M a j) :: r, n, M) | _ => none : Option (Prop × List zV × List zV × Int × zM)) with | some (g, L2, st2, n2, M2) => g ∧ zP l b D cA cN k n0 Q (pc + 1) L2 st2 n2 M2 | none => False) := h
  split at h
  · rename_i heq
    split at heq <;> first | (cases heq; exact zo_aaload F V hdg h.1.1 h.1.2.1 h.1.2.2 h.2) | (cases heq; done)
  · exact h.elim
theorem za_aastore (F : zFx b D cA cN k n0 Q p s m args meth c) (V : zVr b D cA cN k n0 L st n M s H locs cells slots ls) (hdg : decode (zb k) pc = .ok (.aastore, 1)) (h : zwI k n0 (zP l b D cA cN k n0 Q) (zent (zP l b D cA cN)) Q (29, pc + 1, [], 0) L st n M) : zGo l b D cA cN k Q p e s m args below meth c H locs cells slots (F0 m pc ls (st.map (zv b))) := by
  replace h : (match (generalizing := false) (match (generalizing := false) st with | (2, x) :: (0, j) :: (2, a) :: r => some ((zKT a).1 = 1 ∧ 0 ≤ j ∧ j < (zKT a).2 ∧ zKT x = (2, 1), L, r, n, zset M a j x) | _ => none : Option (Prop × List zV × List zV × Int × zM)) with | some (g, L2, st2, n2, M2) => g ∧ zP l b D cA cN k n0 Q (pc + 1) L2 st2 n2 M2 | none => False) := h
  split at h
  · rename_i heq
    split at heq <;> first | (cases heq; exact zo_aastore F V hdg h.1.1 h.1.2.1 h.1.2.2.1 h.1.2.2.2 h.2) | (cases heq; done)
  · exact h.elim
theorem za_arraylength (F : zFx b D cA cN k n0 Q p s m args meth c) (V : zVr b D cA cN k n0 L st n M s H locs cells slots ls) (hdg : decode (zb k) pc = .ok (.arraylength, 1)) (h : zwI k n0 (zP l b D cA cN k n0 Q) (zent (zP l b D cA cN)) Q (30, pc + 1, [], 0) L st n M) : zGo l b D cA cN k Q p e s m args below meth c H locs cells slots (F0 m pc ls (st.map (zv b))) := by
  replace h : (match (generalizing := false) (match (generalizing := false) st with | (2, a) :: r => some ((zKT a).1 = 0, L, (0, (zKT a).2) :: r, n, M) | _ => none : Option (Prop × List zV × List zV × Int × zM)) with | some (g, L2, st2, n2, M2) => g ∧ zP l b D cA cN k n0 Q (pc + 1) L2 st2 n2 M2 | none => False) := h
  split at h
  · rename_i heq
    split at heq <;> first | (cases heq; exact zo_arraylength F V hdg h.1 (Nat.lt_of_le_of_lt (zKT_r _) (by decide)) h.2) | (cases heq; done)
  · exact h.elim
theorem za_getfield {ci fk : Nat} (F : zFx b D cA cN k n0 Q p s m args meth c) (V : zVr b D cA cN k n0 L st n M s H locs cells slots ls) (hdg : decode (zb k) pc = .ok (.getfield i, 3)) (hv : zfl (zoc k) i = some (ci, fk)) (h : zwI k n0 (zP l b D cA cN k n0 Q) (zent (zP l b D cA cN)) Q (21, pc + 3, [ci, fk], 0) L st n M) : zGo l b D cA cN k Q p e s m args below meth c H locs cells slots (F0 m pc ls (st.map (zv b))) := by
  replace h : (match (generalizing := false) (match (generalizing := false) st with | (2, a) :: r => some (zKT a = (2, (ci)), L, (zft ((ci)) ((fk)), M a ((fk))) :: r, n, M) | _ => none : Option (Prop × List zV × List zV × Int × zM)) with | some (g, L2, st2, n2, M2) => g ∧ zP l b D cA cN k n0 Q (pc + 3) L2 st2 n2 M2 | none => False) := h
  split at h
  · rename_i heq
    split at heq <;> first | (cases heq; exact zo_getfield F V hdg (zat_ok zFL_a _ (List.mem_map_of_mem (f := zFw) (zfl_in hv))) (zFL_r _ (zfl_in hv)).1 (zFL_r _ (zfl_in hv)).2 h.1 h.2) | (cases heq; done)
  · exact h.elim
theorem za_putfield24 {ci fk : Nat} (F : zFx b D cA cN k n0 Q p s m args meth c) (V : zVr b D cA cN k n0 L st n M s H locs cells slots ls) (hdg : decode (zb k) pc = .ok (.putfield i, 3)) (hv : zfl (zoc k) i = some (ci, fk)) (hfin : zfin ci fk = true → zini k = true ∧ ci = zoc k) (hft : zft ci fk = 1) (hb : ∀ x : Int, zboo ci fk = true → x = 0 ∨ x = 1) (h : zwI k n0 (zP l b D cA cN k n0 Q) (zent (zP l b D cA cN)) Q (24, pc + 3, [ci, fk], 0) L st n M) : zGo l b D cA cN k Q p e s m args below meth c H locs cells slots (F0 m pc ls (st.map (zv b))) := by
  replace h : (match (generalizing := false) (match (generalizing := false) st with | (1, x) :: (2, a) :: r => some (zKT a = (2, (ci)), L, r, n, zset M a ((fk)) x) | _ => none : Option (Prop × List zV × List zV × Int × zM)) with | some (g, L2, st2, n2, M2) => g ∧ zP l b D cA cN k n0 Q (pc + 3) L2 st2 n2 M2 | none => False) := h
  split at h
  · rename_i heq
    split at heq <;> first | (cases heq; exact zo_putfield F V hdg (zat_ok zFL_a _ (List.mem_map_of_mem (f := zFw) (zfl_in hv))) (zFL_r _ (zfl_in hv)).1 (zFL_r _ (zfl_in hv)).2 hfin hft (hb _) h.1 h.2) | (cases heq; done)
  · exact h.elim
theorem za_putfield25 {ci fk : Nat} (F : zFx b D cA cN k n0 Q p s m args meth c) (V : zVr b D cA cN k n0 L st n M s H locs cells slots ls) (hdg : decode (zb k) pc = .ok (.putfield i, 3)) (hv : zfl (zoc k) i = some (ci, fk)) (hfin : zfin ci fk = true → zini k = true ∧ ci = zoc k) (hft : zft ci fk = 2) (hb : ∀ x : Int, zboo ci fk = true → x = 0 ∨ x = 1) (h : zwI k n0 (zP l b D cA cN k n0 Q) (zent (zP l b D cA cN)) Q (25, pc + 3, [ci, fk], 0) L st n M) : zGo l b D cA cN k Q p e s m args below meth c H locs cells slots (F0 m pc ls (st.map (zv b))) := by
  replace h : (match (generalizing := false) (match (generalizing := false) st with | (2, x) :: (2, a) :: r => some (zKT a = (2, (ci)) ∧ 0 < x, L, r, n, zset M a ((fk)) x) | _ => none : Option (Prop × List zV × List zV × Int × zM)) with | some (g, L2, st2, n2, M2) => g ∧ zP l b D cA cN k n0 Q (pc + 3) L2 st2 n2 M2 | none => False) := h
  split at h
  · rename_i heq
    split at heq <;> first | (cases heq; exact zo_putfield F V hdg (zat_ok zFL_a _ (List.mem_map_of_mem (f := zFw) (zfl_in hv))) (zFL_r _ (zfl_in hv)).1 (zFL_r _ (zfl_in hv)).2 hfin hft (hb _) h.1.1 h.2) | (cases heq; done)
  · exact h.elim
theorem za_putfield23 {ci fk : Nat} (F : zFx b D cA cN k n0 Q p s m args meth c) (V : zVr b D cA cN k n0 L st n M s H locs cells slots ls) (hdg : decode (zb k) pc = .ok (.putfield i, 3)) (hv : zfl (zoc k) i = some (ci, fk)) (hfin : zfin ci fk = true → zini k = true ∧ ci = zoc k) (hft : zft ci fk = 0) (h : zwI k n0 (zP l b D cA cN k n0 Q) (zent (zP l b D cA cN)) Q (23, pc + 3, [ci, fk], 0) L st n M) : zGo l b D cA cN k Q p e s m args below meth c H locs cells slots (F0 m pc ls (st.map (zv b))) := by
  replace h : (match (generalizing := false) (match (generalizing := false) st with | (0, x) :: (2, a) :: r => some (zKT a = (2, (ci)) ∧ (x = 0 ∨ x = 1), L, r, n, zset M a ((fk)) x) | _ => none : Option (Prop × List zV × List zV × Int × zM)) with | some (g, L2, st2, n2, M2) => g ∧ zP l b D cA cN k n0 Q (pc + 3) L2 st2 n2 M2 | none => False) := h
  split at h
  · rename_i heq
    split at heq <;> first | (cases heq; exact zo_putfield F V hdg (zat_ok zFL_a _ (List.mem_map_of_mem (f := zFw) (zfl_in hv))) (zFL_r _ (zfl_in hv)).1 (zFL_r _ (zfl_in hv)).2 hfin hft (fun _ => h.1.2) h.1.1 h.2) | (cases heq; done)
  · exact h.elim
theorem za_putfield22 {ci fk : Nat} (F : zFx b D cA cN k n0 Q p s m args meth c) (V : zVr b D cA cN k n0 L st n M s H locs cells slots ls) (hdg : decode (zb k) pc = .ok (.putfield i, 3)) (hv : zfl (zoc k) i = some (ci, fk)) (hfin : zfin ci fk = true → zini k = true ∧ ci = zoc k) (hft : zft ci fk = 0) (hb : ∀ x : Int, zboo ci fk = true → x = 0 ∨ x = 1) (h : zwI k n0 (zP l b D cA cN k n0 Q) (zent (zP l b D cA cN)) Q (22, pc + 3, [ci, fk], 0) L st n M) : zGo l b D cA cN k Q p e s m args below meth c H locs cells slots (F0 m pc ls (st.map (zv b))) := by
  replace h : (match (generalizing := false) (match (generalizing := false) st with | (0, x) :: (2, a) :: r => some (zKT a = (2, (ci)), L, r, n, zset M a ((fk)) x) | _ => none : Option (Prop × List zV × List zV × Int × zM)) with | some (g, L2, st2, n2, M2) => g ∧ zP l b D cA cN k n0 Q (pc + 3) L2 st2 n2 M2 | none => False) := h
  split at h
  · rename_i heq
    split at heq <;> first | (cases heq; exact zo_putfield F V hdg (zat_ok zFL_a _ (List.mem_map_of_mem (f := zFw) (zfl_in hv))) (zFL_r _ (zfl_in hv)).1 (zFL_r _ (zfl_in hv)).2 hfin hft (hb _) h.1 h.2) | (cases heq; done)
  · exact h.elim
theorem za_new {ci : Nat} (F : zFx b D cA cN k n0 Q p s m args meth c) (V : zVr b D cA cN k n0 L st n M s H locs cells slots ls) (hdg : decode (zb k) pc = .ok (.new i, 3)) (hv : zckl (zoc k) i = some ci) (h : zwI k n0 (zP l b D cA cN k n0 Q) (zent (zP l b D cA cN)) Q (31, pc + 3, [ci], 0) L st n M) : zGo l b D cA cN k Q p e s m args below meth c H locs cells slots (F0 m pc ls (st.map (zv b))) := by
  unfold zwI zstep at h
  exact zo_new F V hdg (zat_ok zCK_a _ (List.mem_map_of_mem (f := fun e : Nat × Nat × Nat => Cond.classLink (zcnm e.1) e.2.1 (zcnm e.2.2)) (zckl_in hv))) (zCK_r _ (zckl_in hv)) h.1.1 h.1.2.1 h.1.2.2 h.2
theorem za_newarray (F : zFx b D cA cN k n0 Q p s m args meth c) (V : zVr b D cA cN k n0 L st n M s H locs cells slots ls) (hdg : decode (zb k) pc = .ok (.newarray .int, 2)) (h : zwI k n0 (zP l b D cA cN k n0 Q) (zent (zP l b D cA cN)) Q (32, pc + 2, [], 0) L st n M) : zGo l b D cA cN k Q p e s m args below meth c H locs cells slots (F0 m pc ls (st.map (zv b))) := by
  replace h : (match (generalizing := false) (match (generalizing := false) st with | (0, x) :: r => some (zKT (n + 1) = (0, x.toNat) ∧ 0 ≤ x ∧ n + 1 ≤ n0 + zmc k ∧ zsl (n + 1) ≤ zsl n0 + zms k, L, (2, n + 1) :: r, n + 1, M) | _ => none : Option (Prop × List zV × List zV × Int × zM)) with | some (g, L2, st2, n2, M2) => g ∧ zP l b D cA cN k n0 Q (pc + 2) L2 st2 n2 M2 | none => False) := h
  split at h
  · rename_i heq
    split at heq <;> first | (cases heq; exact zo_newarray F V hdg h.1.1 h.1.2.1 (by have := zKT_r (n + 1); have h1 := h.1.1; have h2 := h.1.2.1; rw [h1] at this; dsimp only at this; omega) h.1.2.2.1 h.1.2.2.2 h.2) | (cases heq; done)
  · exact h.elim
theorem za_anewarray (F : zFx b D cA cN k n0 Q p s m args meth c) (V : zVr b D cA cN k n0 L st n M s H locs cells slots ls) (hdg : decode (zb k) pc = .ok (.anewarray i, 3)) (hv : zckl (zoc k) i = some 1) (h : zwI k n0 (zP l b D cA cN k n0 Q) (zent (zP l b D cA cN)) Q (33, pc + 3, [], 0) L st n M) : zGo l b D cA cN k Q p e s m args below meth c H locs cells slots (F0 m pc ls (st.map (zv b))) := by
  replace h : (match (generalizing := false) (match (generalizing := false) st with | (0, x) :: r => some (zKT (n + 1) = (1, x.toNat) ∧ 0 ≤ x ∧ n + 1 ≤ n0 + zmc k ∧ zsl (n + 1) ≤ zsl n0 + zms k, L, (2, n + 1) :: r, n + 1, M) | _ => none : Option (Prop × List zV × List zV × Int × zM)) with | some (g, L2, st2, n2, M2) => g ∧ zP l b D cA cN k n0 Q (pc + 3) L2 st2 n2 M2 | none => False) := h
  split at h
  · rename_i heq
    split at heq <;> first | (cases heq; exact zo_anewarray F V hdg (zat_ok zCK_a _ (List.mem_map_of_mem (f := fun e : Nat × Nat × Nat => Cond.classLink (zcnm e.1) e.2.1 (zcnm e.2.2)) (zckl_in hv))) h.1.1 h.1.2.1 (by have := zKT_r (n + 1); have h1 := h.1.1; have h2 := h.1.2.1; rw [h1] at this; dsimp only at this; omega) h.1.2.2.1 h.1.2.2.2 h.2) | (cases heq; done)
  · exact h.elim
theorem za_arraycopy (F : zFx b D cA cN k n0 Q p s m args meth c) (V : zVr b D cA cN k n0 L st n M s H locs cells slots ls) (hdg : decode (zb k) pc = .ok (.invokestatic i, 3)) (hv : (zoc k, i) ∈ zAC) (h : zwI k n0 (zP l b D cA cN k n0 Q) (zent (zP l b D cA cN)) Q (40, pc + 3, [], 0) L st n M) : zGo l b D cA cN k Q p e s m args below meth c H locs cells slots (F0 m pc ls (st.map (zv b))) := by
  replace h : (match (generalizing := false) (match (generalizing := false) st with | (0, m) :: (0, dp) :: (2, d) :: (0, sp) :: (2, q) :: r => some ((zKT q).1 = 0 ∧ (zKT d).1 = 0 ∧ 0 ≤ sp ∧ 0 ≤ dp ∧ 0 ≤ m ∧ sp + m ≤ (zKT q).2 ∧ dp + m ≤ (zKT d).2 ∧ zcats r ≤ 8 ∧ 1 ≤ zfr k ∧ 26 ≤ zlo k, L, r, n, zcopy M q sp d dp m) | _ => none : Option (Prop × List zV × List zV × Int × zM)) with | some (g, L2, st2, n2, M2) => g ∧ zP l b D cA cN k n0 Q (pc + 3) L2 st2 n2 M2 | none => False) := h
  split at h
  · rename_i heq
    split at heq <;> first | (cases heq; exact zo_arraycopy F V hdg (zat_ok zAC_a _ (List.mem_map_of_mem (f := fun e : Nat × Nat => Cond.methodLink (zcnm e.1) e.2 arraycopyName) hv)) h.1.1 h.1.2.1 h.1.2.2.1 h.1.2.2.2.1 h.1.2.2.2.2.1 h.1.2.2.2.2.2.1 h.1.2.2.2.2.2.2.1 h.1.2.2.2.2.2.2.2.1 h.1.2.2.2.2.2.2.2.2.1 h.1.2.2.2.2.2.2.2.2.2 h.2) | (cases heq; done)
  · exact h.elim
theorem za_abs (F : zFx b D cA cN k n0 Q p s m args meth c) (V : zVr b D cA cN k n0 L st n M s H locs cells slots ls) (hdg : decode (zb k) pc = .ok (.invokestatic i, 3)) (hv : (zoc k, i) ∈ zAB) (h : zwI k n0 (zP l b D cA cN k n0 Q) (zent (zP l b D cA cN)) Q (42, pc + 3, [], 0) L st n M) : zGo l b D cA cN k Q p e s m args below meth c H locs cells slots (F0 m pc ls (st.map (zv b))) := by
  replace h : (match (generalizing := false) (match (generalizing := false) st with | (0, x) :: r => some (zcats r ≤ 8 ∧ 1 ≤ zfr k ∧ 21 ≤ zlo k, L, (0, if 0 ≤ x then x else zw (0 - x)) :: r, n, M) | _ => none : Option (Prop × List zV × List zV × Int × zM)) with | some (g, L2, st2, n2, M2) => g ∧ zP l b D cA cN k n0 Q (pc + 3) L2 st2 n2 M2 | none => False) := h
  split at h
  · rename_i heq
    split at heq <;> first | (cases heq; exact zo_abs F V hdg (zat_ok zAB_a _ (List.mem_map_of_mem (f := fun e : Nat × Nat => Cond.methodLink (zcnm e.1) e.2 Lib.Math.abs.name) hv)) h.1.1 h.1.2.1 h.1.2.2 h.2) | (cases heq; done)
  · exact h.elim
theorem za_objInit (F : zFx b D cA cN k n0 Q p s m args meth c) (V : zVr b D cA cN k n0 L st n M s H locs cells slots ls) (hdg : decode (zb k) pc = .ok (.invokespecial i, 3)) (hv : (zoc k, i) ∈ zOI) (h : zwI k n0 (zP l b D cA cN k n0 Q) (zent (zP l b D cA cN)) Q (41, pc + 3, [], 0) L st n M) : zGo l b D cA cN k Q p e s m args below meth c H locs cells slots (F0 m pc ls (st.map (zv b))) := by
  replace h : (match (generalizing := false) (match (generalizing := false) st with | (2, a) :: r => some (0 < a ∧ zcats r ≤ 8 ∧ 1 ≤ zfr k ∧ 20 ≤ zlo k, L, r, n, M) | _ => none : Option (Prop × List zV × List zV × Int × zM)) with | some (g, L2, st2, n2, M2) => g ∧ zP l b D cA cN k n0 Q (pc + 3) L2 st2 n2 M2 | none => False) := h
  split at h
  · rename_i heq
    split at heq <;> first | (cases heq; exact zo_objInit F V hdg (zat_ok zOI_a _ (List.mem_map_of_mem (f := fun e : Nat × Nat => Cond.methodLink (zcnm e.1) e.2 objectInit) hv)) h.1.1 h.1.2.1 h.1.2.2.1 h.1.2.2.2 h.2) | (cases heq; done)
  · exact h.elim
theorem za_icmp_eq (F : zFx b D cA cN k n0 Q p s m args meth c) (V : zVr b D cA cN k n0 L st n M s H locs cells slots ls) (hdg : decode (zb k) pc = .ok (.if_icmp .eq off, 3)) (ho : 0 ≤ (pc : Int) + off) (h : zwI k n0 (zP l b D cA cN k n0 Q) (zent (zP l b D cA cN)) Q (70, pc + 3, [((pc : Int) + off).toNat], 0) L st n M) : zGo l b D cA cN k Q p e s m args below meth c H locs cells slots (F0 m pc ls (st.map (zv b))) := by
  replace h : (match (generalizing := false) st with | (0, y) :: (0, x) :: r => (x = y → zP l b D cA cN k n0 Q ((((pc : Int) + off).toNat)) L r n M) ∧ (¬ x = y → zP l b D cA cN k n0 Q (pc + 3) L r n M) | _ => False) := h
  split at h
  · exact zo_icmp_eq F V hdg (by omega) h.1 h.2
  · exact h.elim
theorem za_if_eq (F : zFx b D cA cN k n0 Q p s m args meth c) (V : zVr b D cA cN k n0 L st n M s H locs cells slots ls) (hdg : decode (zb k) pc = .ok (.ifCond .eq off, 3)) (ho : 0 ≤ (pc : Int) + off) (h : zwI k n0 (zP l b D cA cN k n0 Q) (zent (zP l b D cA cN)) Q (80, pc + 3, [((pc : Int) + off).toNat], 0) L st n M) : zGo l b D cA cN k Q p e s m args below meth c H locs cells slots (F0 m pc ls (st.map (zv b))) := by
  replace h : (match (generalizing := false) st with | (0, x) :: r => (x = 0 → zP l b D cA cN k n0 Q ((((pc : Int) + off).toNat)) L r n M) ∧ (¬ x = 0 → zP l b D cA cN k n0 Q (pc + 3) L r n M) | _ => False) := h
  split at h
  · exact zo_if_eq F V hdg (by omega) h.1 h.2
  · exact h.elim
theorem za_icmp_ne (F : zFx b D cA cN k n0 Q p s m args meth c) (V : zVr b D cA cN k n0 L st n M s H locs cells slots ls) (hdg : decode (zb k) pc = .ok (.if_icmp .ne off, 3)) (ho : 0 ≤ (pc : Int) + off) (h : zwI k n0 (zP l b D cA cN k n0 Q) (zent (zP l b D cA cN)) Q (71, pc + 3, [((pc : Int) + off).toNat], 0) L st n M) : zGo l b D cA cN k Q p e s m args below meth c H locs cells slots (F0 m pc ls (st.map (zv b))) := by
  replace h : (match (generalizing := false) st with | (0, y) :: (0, x) :: r => (¬ x = y → zP l b D cA cN k n0 Q ((((pc : Int) + off).toNat)) L r n M) ∧ (x = y → zP l b D cA cN k n0 Q (pc + 3) L r n M) | _ => False) := h
  split at h
  · exact zo_icmp_ne F V hdg (by omega) h.1 h.2
  · exact h.elim
theorem za_if_ne (F : zFx b D cA cN k n0 Q p s m args meth c) (V : zVr b D cA cN k n0 L st n M s H locs cells slots ls) (hdg : decode (zb k) pc = .ok (.ifCond .ne off, 3)) (ho : 0 ≤ (pc : Int) + off) (h : zwI k n0 (zP l b D cA cN k n0 Q) (zent (zP l b D cA cN)) Q (81, pc + 3, [((pc : Int) + off).toNat], 0) L st n M) : zGo l b D cA cN k Q p e s m args below meth c H locs cells slots (F0 m pc ls (st.map (zv b))) := by
  replace h : (match (generalizing := false) st with | (0, x) :: r => (¬ x = 0 → zP l b D cA cN k n0 Q ((((pc : Int) + off).toNat)) L r n M) ∧ (x = 0 → zP l b D cA cN k n0 Q (pc + 3) L r n M) | _ => False) := h
  split at h
  · exact zo_if_ne F V hdg (by omega) h.1 h.2
  · exact h.elim
theorem za_icmp_lt (F : zFx b D cA cN k n0 Q p s m args meth c) (V : zVr b D cA cN k n0 L st n M s H locs cells slots ls) (hdg : decode (zb k) pc = .ok (.if_icmp .lt off, 3)) (ho : 0 ≤ (pc : Int) + off) (h : zwI k n0 (zP l b D cA cN k n0 Q) (zent (zP l b D cA cN)) Q (72, pc + 3, [((pc : Int) + off).toNat], 0) L st n M) : zGo l b D cA cN k Q p e s m args below meth c H locs cells slots (F0 m pc ls (st.map (zv b))) := by
  replace h : (match (generalizing := false) st with | (0, y) :: (0, x) :: r => (x < y → zP l b D cA cN k n0 Q ((((pc : Int) + off).toNat)) L r n M) ∧ (¬ x < y → zP l b D cA cN k n0 Q (pc + 3) L r n M) | _ => False) := h
  split at h
  · exact zo_icmp_lt F V hdg (by omega) h.1 h.2
  · exact h.elim
theorem za_if_lt (F : zFx b D cA cN k n0 Q p s m args meth c) (V : zVr b D cA cN k n0 L st n M s H locs cells slots ls) (hdg : decode (zb k) pc = .ok (.ifCond .lt off, 3)) (ho : 0 ≤ (pc : Int) + off) (h : zwI k n0 (zP l b D cA cN k n0 Q) (zent (zP l b D cA cN)) Q (82, pc + 3, [((pc : Int) + off).toNat], 0) L st n M) : zGo l b D cA cN k Q p e s m args below meth c H locs cells slots (F0 m pc ls (st.map (zv b))) := by
  replace h : (match (generalizing := false) st with | (0, x) :: r => (x < 0 → zP l b D cA cN k n0 Q ((((pc : Int) + off).toNat)) L r n M) ∧ (¬ x < 0 → zP l b D cA cN k n0 Q (pc + 3) L r n M) | _ => False) := h
  split at h
  · exact zo_if_lt F V hdg (by omega) h.1 h.2
  · exact h.elim
theorem za_icmp_ge (F : zFx b D cA cN k n0 Q p s m args meth c) (V : zVr b D cA cN k n0 L st n M s H locs cells slots ls) (hdg : decode (zb k) pc = .ok (.if_icmp .ge off, 3)) (ho : 0 ≤ (pc : Int) + off) (h : zwI k n0 (zP l b D cA cN k n0 Q) (zent (zP l b D cA cN)) Q (73, pc + 3, [((pc : Int) + off).toNat], 0) L st n M) : zGo l b D cA cN k Q p e s m args below meth c H locs cells slots (F0 m pc ls (st.map (zv b))) := by
  replace h : (match (generalizing := false) st with | (0, y) :: (0, x) :: r => (¬ x < y → zP l b D cA cN k n0 Q ((((pc : Int) + off).toNat)) L r n M) ∧ (x < y → zP l b D cA cN k n0 Q (pc + 3) L r n M) | _ => False) := h
  split at h
  · exact zo_icmp_ge F V hdg (by omega) h.1 h.2
  · exact h.elim
theorem za_if_ge (F : zFx b D cA cN k n0 Q p s m args meth c) (V : zVr b D cA cN k n0 L st n M s H locs cells slots ls) (hdg : decode (zb k) pc = .ok (.ifCond .ge off, 3)) (ho : 0 ≤ (pc : Int) + off) (h : zwI k n0 (zP l b D cA cN k n0 Q) (zent (zP l b D cA cN)) Q (83, pc + 3, [((pc : Int) + off).toNat], 0) L st n M) : zGo l b D cA cN k Q p e s m args below meth c H locs cells slots (F0 m pc ls (st.map (zv b))) := by
  replace h : (match (generalizing := false) st with | (0, x) :: r => (¬ x < 0 → zP l b D cA cN k n0 Q ((((pc : Int) + off).toNat)) L r n M) ∧ (x < 0 → zP l b D cA cN k n0 Q (pc + 3) L r n M) | _ => False) := h
  split at h
  · exact zo_if_ge F V hdg (by omega) h.1 h.2
  · exact h.elim
theorem za_icmp_gt (F : zFx b D cA cN k n0 Q p s m args meth c) (V : zVr b D cA cN k n0 L st n M s H locs cells slots ls) (hdg : decode (zb k) pc = .ok (.if_icmp .gt off, 3)) (ho : 0 ≤ (pc : Int) + off) (h : zwI k n0 (zP l b D cA cN k n0 Q) (zent (zP l b D cA cN)) Q (74, pc + 3, [((pc : Int) + off).toNat], 0) L st n M) : zGo l b D cA cN k Q p e s m args below meth c H locs cells slots (F0 m pc ls (st.map (zv b))) := by
  replace h : (match (generalizing := false) st with | (0, y) :: (0, x) :: r => (y < x → zP l b D cA cN k n0 Q ((((pc : Int) + off).toNat)) L r n M) ∧ (¬ y < x → zP l b D cA cN k n0 Q (pc + 3) L r n M) | _ => False) := h
  split at h
  · exact zo_icmp_gt F V hdg (by omega) h.1 h.2
  · exact h.elim
theorem za_if_gt (F : zFx b D cA cN k n0 Q p s m args meth c) (V : zVr b D cA cN k n0 L st n M s H locs cells slots ls) (hdg : decode (zb k) pc = .ok (.ifCond .gt off, 3)) (ho : 0 ≤ (pc : Int) + off) (h : zwI k n0 (zP l b D cA cN k n0 Q) (zent (zP l b D cA cN)) Q (84, pc + 3, [((pc : Int) + off).toNat], 0) L st n M) : zGo l b D cA cN k Q p e s m args below meth c H locs cells slots (F0 m pc ls (st.map (zv b))) := by
  replace h : (match (generalizing := false) st with | (0, x) :: r => (0 < x → zP l b D cA cN k n0 Q ((((pc : Int) + off).toNat)) L r n M) ∧ (¬ 0 < x → zP l b D cA cN k n0 Q (pc + 3) L r n M) | _ => False) := h
  split at h
  · exact zo_if_gt F V hdg (by omega) h.1 h.2
  · exact h.elim
theorem za_icmp_le (F : zFx b D cA cN k n0 Q p s m args meth c) (V : zVr b D cA cN k n0 L st n M s H locs cells slots ls) (hdg : decode (zb k) pc = .ok (.if_icmp .le off, 3)) (ho : 0 ≤ (pc : Int) + off) (h : zwI k n0 (zP l b D cA cN k n0 Q) (zent (zP l b D cA cN)) Q (75, pc + 3, [((pc : Int) + off).toNat], 0) L st n M) : zGo l b D cA cN k Q p e s m args below meth c H locs cells slots (F0 m pc ls (st.map (zv b))) := by
  replace h : (match (generalizing := false) st with | (0, y) :: (0, x) :: r => (¬ y < x → zP l b D cA cN k n0 Q ((((pc : Int) + off).toNat)) L r n M) ∧ (y < x → zP l b D cA cN k n0 Q (pc + 3) L r n M) | _ => False) := h
  split at h
  · exact zo_icmp_le F V hdg (by omega) h.1 h.2
  · exact h.elim
theorem za_if_le (F : zFx b D cA cN k n0 Q p s m args meth c) (V : zVr b D cA cN k n0 L st n M s H locs cells slots ls) (hdg : decode (zb k) pc = .ok (.ifCond .le off, 3)) (ho : 0 ≤ (pc : Int) + off) (h : zwI k n0 (zP l b D cA cN k n0 Q) (zent (zP l b D cA cN)) Q (85, pc + 3, [((pc : Int) + off).toNat], 0) L st n M) : zGo l b D cA cN k Q p e s m args below meth c H locs cells slots (F0 m pc ls (st.map (zv b))) := by
  replace h : (match (generalizing := false) st with | (0, x) :: r => (¬ 0 < x → zP l b D cA cN k n0 Q ((((pc : Int) + off).toNat)) L r n M) ∧ (0 < x → zP l b D cA cN k n0 Q (pc + 3) L r n M) | _ => False) := h
  split at h
  · exact zo_if_le F V hdg (by omega) h.1 h.2
  · exact h.elim
theorem za_ifnull (F : zFx b D cA cN k n0 Q p s m args meth c) (V : zVr b D cA cN k n0 L st n M s H locs cells slots ls) (hdg : decode (zb k) pc = .ok (.ifnull off, 3)) (ho : 0 ≤ (pc : Int) + off) (h : zwI k n0 (zP l b D cA cN k n0 Q) (zent (zP l b D cA cN)) Q (16, pc + 3, [((pc : Int) + off).toNat], 0) L st n M) : zGo l b D cA cN k Q p e s m args below meth c H locs cells slots (F0 m pc ls (st.map (zv b))) := by
  replace h : (match (generalizing := false) st with | (2, x) :: r => (x ≤ 0 → zP l b D cA cN k n0 Q ((((pc : Int) + off).toNat)) L r n M) ∧ (¬ x ≤ 0 → zP l b D cA cN k n0 Q (pc + 3) L r n M) | _ => False) := h
  split at h
  · exact zo_ifnull F V hdg (by omega) h.1 h.2
  · exact h.elim
theorem za_goto (F : zFx b D cA cN k n0 Q p s m args meth c) (V : zVr b D cA cN k n0 L st n M s H locs cells slots ls) (hdg : decode (zb k) pc = .ok (.goto off, 3)) (ho : 0 ≤ (pc : Int) + off) (h : zwI k n0 (zP l b D cA cN k n0 Q) (zent (zP l b D cA cN)) Q (17, pc + 3, [((pc : Int) + off).toNat], 0) L st n M) : zGo l b D cA cN k Q p e s m args below meth c H locs cells slots (F0 m pc ls (st.map (zv b))) := by
  exact zo_goto (tgt := ((pc : Int) + off).toNat) F V hdg (by omega) h
theorem za_ireturn (F : zFx b D cA cN k n0 Q p s m args meth c) (V : zVr b D cA cN k n0 L st n M s H locs cells slots ls) (hdg : decode (zb k) pc = .ok (.ireturn, 1)) (hrt : zrt k = 0) (h : zwI k n0 (zP l b D cA cN k n0 Q) (zent (zP l b D cA cN)) Q (35, 0, [], 0) L st n M) : zGo l b D cA cN k Q p e s m args below meth c H locs cells slots (F0 m pc ls (st.map (zv b))) := by
  replace h : (match (generalizing := false) st with | [(0, x)] => Q x n M | _ => False) := h
  split at h
  · exact zo_ireturn F V hdg hrt h
  · exact h.elim
theorem za_zreturn (F : zFx b D cA cN k n0 Q p s m args meth c) (V : zVr b D cA cN k n0 L st n M s H locs cells slots ls) (hdg : decode (zb k) pc = .ok (.ireturn, 1)) (hrt : zrt k = 3) (h : zwI k n0 (zP l b D cA cN k n0 Q) (zent (zP l b D cA cN)) Q (36, 0, [], 0) L st n M) : zGo l b D cA cN k Q p e s m args below meth c H locs cells slots (F0 m pc ls (st.map (zv b))) := by
  replace h : (match (generalizing := false) st with | [(0, x)] => (x = 0 ∨ x = 1) ∧ Q x n M | _ => False) := h
  split at h
  · exact zo_zreturn F V hdg hrt h.1 h.2
  · exact h.elim
theorem za_lreturn (F : zFx b D cA cN k n0 Q p s m args meth c) (V : zVr b D cA cN k n0 L st n M s H locs cells slots ls) (hdg : decode (zb k) pc = .ok (.lreturn, 1)) (hrt : zrt k = 1) (h : zwI k n0 (zP l b D cA cN k n0 Q) (zent (zP l b D cA cN)) Q (37, 0, [], 0) L st n M) : zGo l b D cA cN k Q p e s m args below meth c H locs cells slots (F0 m pc ls (st.map (zv b))) := by
  replace h : (match (generalizing := false) st with | [(1, x)] => Q x n M | _ => False) := h
  split at h
  · exact zo_lreturn F V hdg hrt h
  · exact h.elim
theorem za_return (F : zFx b D cA cN k n0 Q p s m args meth c) (V : zVr b D cA cN k n0 L st n M s H locs cells slots ls) (hdg : decode (zb k) pc = .ok (.return_, 1)) (hrt : zrt k = 2) (h : zwI k n0 (zP l b D cA cN k n0 Q) (zent (zP l b D cA cN)) Q (38, 0, [], 0) L st n M) : zGo l b D cA cN k Q p e s m args below meth c H locs cells slots (F0 m pc ls (st.map (zv b))) := by
  replace h : (match (generalizing := false) st with | [] => Q 0 n M | _ => False) := h
  split at h
  · exact zo_return F V hdg hrt h
  · exact h.elim
theorem za_table {d lo hi : Int} {offs : Array Int} {len : Nat} (F : zFx b D cA cN k n0 Q p s m args meth c) (V : zVr b D cA cN k n0 L st n M s H locs cells slots ls) (hdg : decode (zb k) pc = .ok (.tableswitch d lo hi offs, len)) (ho : 0 ≤ (pc : Int) + d ∧ lo ≤ hi ∧ -2147483648 ≤ lo ∧ hi < 2147483648 ∧ (offs.size : Int) = hi - lo + 1 ∧ (offs.toList.all (fun o => decide (0 ≤ (pc : Int) + o))) = true) (h : zwI k n0 (zP l b D cA cN k n0 Q) (zent (zP l b D cA cN)) Q (39, 0, ((pc : Int) + d).toNat :: offs.toList.map (fun o => ((pc : Int) + o).toNat), lo) L st n M) : zGo l b D cA cN k Q p e s m args below meth c H locs cells slots (F0 m pc ls (st.map (zv b))) := by
  replace h : (match (generalizing := false) st with | (0, x) :: r => zsw (fun t => zP l b D cA cN k n0 Q t L r n M) x lo (offs.toList.map (fun o => ((pc : Int) + o).toNat)) ((pc : Int) + d).toNat | _ => False) := h
  split at h
  · exact zo_table F V hdg ho.1 ho.2.1 ho.2.2.2.2.1 ho.2.2.2.2.2 h
  · exact h.elim
theorem za_call {kd1 kd2 : Nat} (F : zFx b D cA cN k n0 Q p s m args meth c) (V : zVr b D cA cN k n0 L st n M s H locs cells slots ls) (hdg : ∀ kd, kd = kd1 ∨ kd = kd2 → (kd = 0 ∧ decode (zb k) pc = .ok (.invokevirtual i, 3)) ∨ ((kd = 1 ∨ kd = 4) ∧ decode (zb k) pc = .ok (.invokestatic i, 3)) ∨ ((kd = 2 ∨ kd = 3) ∧ decode (zb k) pc = .ok (.invokespecial i, 3))) (h : zwI k n0 (zP l b D cA cN k n0 Q) (zent (zP l b D cA cN)) Q (zinv (zoc k) pc i kd1 kd2) L st n M) : zGo l b D cA cN k Q p e s m args below meth c H locs cells slots (F0 m pc ls (st.map (zv b))) := by
  unfold zinv at h
  split at h
  · rename_i k' na kd hm
    split at h
    · rename_i hkd
      replace h : zcall k n0 (zP l b D cA cN k n0 Q) (zent (zP l b D cA cN)) (pc + 3) k' na kd L st n M := h
      unfold zcall at h
      split at h
      · rename_i As r hp
        obtain ⟨pre, h1, h2, h3⟩ := zpp_ok na [] st As r hp
        rw [List.append_nil] at h1
        subst h1
        subst h2
        exact zo_call F V h3 (zmlk_in hm) (hdg kd hkd) h.1.1 h.1.2.1 h.1.2.2.1 h.1.2.2.2.1 h.1.2.2.2.2.1 h.1.2.2.2.2.2 h.2
      · exact h.elim
    · exact (zno_F h).elim
  · exact (zno_F h).elim
end ZA
end
section
theorem zboo_0 (c j : Nat) (h : zboo c j = true) : zft c j = 0 := by
  have key : ∀ c, c < 10 → ∀ j, j < 56 → zboo c j = true → zft c j = 0 := by decide +kernel
  rcases Nat.lt_or_ge c 10 with a | a
  · rcases Nat.lt_or_ge j 56 with q | q
    · exact key c a j q h
    · exfalso
      unfold zboo at h
      have key2 : ∀ l ∈ ([[false, true, false, false, false, false, false, false, false, false, false, false, false, false, false], [false, false, false, false, false, false, false, false, false, false, false, false], [false, false], [false, false, false, false, false, false, false], [false, false, false, false, false, false, false, true, true], [false, false, false, false, false], [false, true, false, false, false, false, false, false, false], [false, false, false, false, false], [false, false, false, false, false, false, false, false, false, false, false, false], [false, false, false, false, false, false, false, false, false, false, false, false, false, false, false, false, false, false, false, false, false, false, false, false, false, false, false, false, false, false, false, false, false, false, false, false, false, false, false, false, false, false, false, false, false, false, false, false, false, false, false, false, false, false, false, false]] : List (List Bool)), l.length ≤ 56 := by decide +kernel
      rw [List.getD_eq_getElem?_getD, List.getElem?_eq_none] at h
      · cases h
      · refine Nat.le_trans (key2 _ ?_) q
        rw [List.getD_eq_getElem?_getD, List.getElem?_eq_getElem (by simpa using a)]
        exact List.getElem_mem _
  · exfalso
    unfold zboo at h
    obtain ⟨d, rfl⟩ : ∃ d, c = d + 10 := ⟨c - 10, by omega⟩
    simp at h
theorem zP_cl (l : Launch) (b : Nat) (D : va_G) (cA cN : ClassId) : zcl (zP l b D cA cN) := by
  intro k n0 Q pc L st n M h p e s m args below meth c H locs cells slots ls F V
  rcases zc_tr (pc := pc) F.1 with q | q
  · exfalso
    generalize zc k pc = i at h q
    obtain ⟨i1, i2⟩ := i
    dsimp only at q
    subst q
    exact h
  · rw [q] at h
    clear q
    unfold ztr at h
    split at h
    · split at h <;> first | exact za_iconst F V ‹_› ‹_› h | exact (zno_F h).elim
    · split at h <;> first | exact za_bipush F V ‹_› ‹_› h | exact (zno_F h).elim
    · split at h <;> first | exact za_sipush F V ‹_› ‹_› h | exact (zno_F h).elim
    · split at h <;> first | exact za_ldc F V ‹_› ‹_› h | exact (zno_F h).elim
    · split at h <;> first | exact za_ldcw F V ‹_› ‹_› h | exact (zno_F h).elim
    · split at h <;> first | exact za_ldc2 F V ‹_› ‹_› h | exact (zno_F h).elim
    · exact za_lconst F V ‹_› h
    · exact za_iload F V ‹_› h
    · exact za_iloadn F V ‹_› h
    · exact za_lload F V ‹_› h
    · exact za_lloadn F V ‹_› h
    · exact za_aload F V ‹_› h
    · exact za_aloadn F V ‹_› h
    · exact za_istore F V ‹_› h
    · exact za_istoren F V ‹_› h
    · exact za_lstore F V ‹_› h
    · exact za_lstoren F V ‹_› h
    · exact za_astore F V ‹_› h
    · exact za_astoren F V ‹_› h
    · split at h <;> first | exact za_iinc F V ‹_› h | exact (zno_F h).elim
    · exact za_iadd F V ‹_› h
    · exact za_isub F V ‹_› h
    · exact za_imul F V ‹_› h
    · exact za_iand F V ‹_› h
    · exact za_ior F V ‹_› h
    · exact za_ixor F V ‹_› h
    · exact za_ishl F V ‹_› h
    · exact za_ishr F V ‹_› h
    · exact za_iushr F V ‹_› h
    · exact za_ladd F V ‹_› h
    · exact za_lsub F V ‹_› h
    · exact za_lmul F V ‹_› h
    · exact za_ineg F V ‹_› h
    · exact za_i2l F V ‹_› h
    · exact za_lcmp F V ‹_› h
    · exact za_dup F V ‹_› h
    · exact za_dup2 F V ‹_› h
    · exact za_pop F V ‹_› h
    · exact za_iaload F V ‹_› h
    · exact za_iastore F V ‹_› h
    · exact za_aaload F V ‹_› h
    · exact za_aastore F V ‹_› h
    · exact za_arraylength F V ‹_› h
    · rename_i off hd
      rcases zjmp_ok (op := 70) (pc := pc) (len := 3) (off := off) with z | ⟨z1, z2⟩
      · rw [z] at h; exact (zno_F h).elim
      · rw [z2] at h; exact za_icmp_eq F V hd z1 h
    · rename_i off hd
      rcases zjmp_ok (op := 80) (pc := pc) (len := 3) (off := off) with z | ⟨z1, z2⟩
      · rw [z] at h; exact (zno_F h).elim
      · rw [z2] at h; exact za_if_eq F V hd z1 h
    · rename_i off hd
      rcases zjmp_ok (op := 71) (pc := pc) (len := 3) (off := off) with z | ⟨z1, z2⟩
      · rw [z] at h; exact (zno_F h).elim
      · rw [z2] at h; exact za_icmp_ne F V hd z1 h
    · rename_i off hd
      rcases zjmp_ok (op := 81) (pc := pc) (len := 3) (off := off) with z | ⟨z1, z2⟩
      · rw [z] at h; exact (zno_F h).elim
      · rw [z2] at h; exact za_if_ne F V hd z1 h
    · rename_i off hd
      rcases zjmp_ok (op := 72) (pc := pc) (len := 3) (off := off) with z | ⟨z1, z2⟩
      · rw [z] at h; exact (zno_F h).elim
      · rw [z2] at h; exact za_icmp_lt F V hd z1 h
    · rename_i off hd
      rcases zjmp_ok (op := 82) (pc := pc) (len := 3) (off := off) with z | ⟨z1, z2⟩
      · rw [z] at h; exact (zno_F h).elim
      · rw [z2] at h; exact za_if_lt F V hd z1 h
    · rename_i off hd
      rcases zjmp_ok (op := 73) (pc := pc) (len := 3) (off := off) with z | ⟨z1, z2⟩
      · rw [z] at h; exact (zno_F h).elim
      · rw [z2] at h; exact za_icmp_ge F V hd z1 h
    · rename_i off hd
      rcases zjmp_ok (op := 83) (pc := pc) (len := 3) (off := off) with z | ⟨z1, z2⟩
      · rw [z] at h; exact (zno_F h).elim
      · rw [z2] at h; exact za_if_ge F V hd z1 h
    · rename_i off hd
      rcases zjmp_ok (op := 74) (pc := pc) (len := 3) (off := off) with z | ⟨z1, z2⟩
      · rw [z] at h; exact (zno_F h).elim
      · rw [z2] at h; exact za_icmp_gt F V hd z1 h
    · rename_i off hd
      rcases zjmp_ok (op := 84) (pc := pc) (len := 3) (off := off) with z | ⟨z1, z2⟩
      · rw [z] at h; exact (zno_F h).elim
      · rw [z2] at h; exact za_if_gt F V hd z1 h
    · rename_i off hd
      rcases zjmp_ok (op := 75) (pc := pc) (len := 3) (off := off) with z | ⟨z1, z2⟩
      · rw [z] at h; exact (zno_F h).elim
      · rw [z2] at h; exact za_icmp_le F V hd z1 h
    · rename_i off hd
      rcases zjmp_ok (op := 85) (pc := pc) (len := 3) (off := off) with z | ⟨z1, z2⟩
      · rw [z] at h; exact (zno_F h).elim
      · rw [z2] at h; exact za_if_le F V hd z1 h
    · rename_i off hd
      rcases zjmp_ok (op := 16) (pc := pc) (len := 3) (off := off) with z | ⟨z1, z2⟩
      · rw [z] at h; exact (zno_F h).elim
      · rw [z2] at h; exact za_ifnull F V hd z1 h
    · rename_i off hd
      rcases zjmp_ok (op := 17) (pc := pc) (len := 3) (off := off) with z | ⟨z1, z2⟩
      · rw [z] at h; exact (zno_F h).elim
      · rw [z2] at h; exact za_goto F V hd z1 h
    · split at h <;> first | exact za_getfield F V ‹_› ‹_› h | exact (zno_F h).elim
    · rename_i i hd
      split at h
      · rename_i ci fk hv
        split at h
        · exact (zno_F h).elim
        · rename_i hf
          have hfin : zfin ci fk = true → zini k = true ∧ ci = zoc k := by
            intro z
            rw [z] at hf
            simp only [Bool.true_and, Bool.not_eq_true', Bool.not_eq_false, Bool.and_eq_true, beq_iff_eq] at hf
            exact hf
          split at h
          · rename_i h1
            exact za_putfield24 F V hd hv hfin h1 (fun x z => absurd (zboo_0 ci fk z) (by omega)) h
          · split at h
            · rename_i h2
              exact za_putfield25 F V hd hv hfin h2 (fun x z => absurd (zboo_0 ci fk z) (by omega)) h
            · have h0 : zft ci fk = 0 := by have := zft_lt ci fk; omega
              split at h
              · exact za_putfield23 F V hd hv hfin h0 h
              · rename_i h3
                exact za_putfield22 F V hd hv hfin h0 (fun x z => absurd z h3) h
      · exact (zno_F h).elim
    · split at h <;> first | exact za_new F V ‹_› ‹_› h | exact (zno_F h).elim
    · exact za_newarray F V ‹_› h
    · split at h <;> first | exact za_anewarray F V ‹_› ‹_› h | exact (zno_F h).elim
    · rename_i i hd
      exact za_call F V (fun kd hk => Or.inl ⟨by omega, hd⟩) h
    · rename_i i hd
      split at h
      · exact za_arraycopy F V hd ‹_› h
      · split at h
        · exact za_abs F V hd ‹_› h
        · exact za_call F V (fun kd hk => Or.inr (Or.inl ⟨hk, hd⟩)) h
    · rename_i i hd
      split at h
      · exact za_objInit F V hd ‹_› h
      · exact za_call F V (fun kd hk => Or.inr (Or.inr ⟨hk, hd⟩)) h
    · rename_i hd
      split at h
      · exact za_zreturn F V hd ‹_› h
      · split at h
        · exact za_ireturn F V hd ‹_› h
        · exact (zno_F h).elim
    · split at h <;> first | exact za_lreturn F V ‹_› ‹_› h | exact (zno_F h).elim
    · split at h <;> first | exact za_return F V ‹_› ‹_› h | exact (zno_F h).elim
    · split at h <;> first | exact za_table F V ‹_› ‹_› h | exact (zno_F h).elim
    · exact (zno_F h).elim
theorem zle_len : ∀ {L L' : List zV}, zle L L' → L.length = L'.length
  | [], [], _ => rfl
  | _ :: l, _ :: m, h => by simp [zle_len (L := l) (L' := m) h.2]
  | [], _ :: _, h => h.elim
  | _ :: _, [], h => h.elim
theorem zle_nth : ∀ {L L' : List zV} {k : Nat} {v : zV}, zle L L' → znth L k = some v → v.1 ≠ 3 → znth L' k = some v
  | [], [], _, _, _, h, _ => by cases h
  | u :: l, w :: m, 0, v, hl, h, hv => by
    cases h
    rcases hl.1 with q | q
    · subst q; rfl
    · subst q; exact absurd rfl hv
  | u :: l, w :: m, k + 1, v, hl, h, hv => zle_nth (L := l) (L' := m) hl.2 h hv
  | [], _ :: _, _, _, hl, _, _ => hl.elim
  | _ :: _, [], _, _, hl, _, _ => hl.elim
theorem zle_r {n : Int} : ∀ {L L' : List zV}, zle L L' → (∀ v ∈ L', zr n v) → ∀ v ∈ L, zr n v
  | [], [], _, _ => fun _ h => by cases h
  | u :: l, w :: m, hl, h => fun v hv => by
    rcases List.mem_cons.mp hv with q | hv
    · rcases hl.1 with z | z
      · rw [q, z]; exact h w List.mem_cons_self
      · rw [q, z]; trivial
    · exact zle_r hl.2 (fun x hx => h x (List.mem_cons_of_mem _ hx)) v hv
  | [], _ :: _, h, _ => h.elim
  | _ :: _, [], h, _ => h.elim
theorem zP_fo (l : Launch) (b : Nat) (D : va_G) (cA cN : ClassId) : zfo (zP l b D cA cN) := by
  intro k n0 Q pc L L' st n M hl h p e s m args below meth c H locs cells slots ls F V
  obtain ⟨a1, a2, a3, a4, a5, a6, a7, a8, a9, a10⟩ := V
  refine h p e s m args below meth c H locs cells slots ls F ⟨a1, a2, a3, a4, a5, a6, ⟨a7.1, a7.2.1, fun q hq => ?_⟩, (zle_len hl).trans a8, zle_r hl a9, a10⟩
  obtain ⟨j, v, h1, h2, rfl⟩ := zlv_mem.mp hq
  exact a7.2.2 _ (zlv_mem.mpr ⟨j, v, zle_nth hl h1 h2, h2, rfl⟩)
/-- what the clean machine says holds of the real one -/
theorem zG_P {l : Launch} {b : Nat} {D : va_G} {cA cN : ClassId} {k : Nat} {n0 : Int} {Q : zQ} {pc : Nat} {L st : List zV} {n : Int} {M : zM} (h : zG k n0 Q pc L st n M) : zP l b D cA cN k n0 Q pc L st n M := h _ (zP_mo l b D cA cN) (zP_cl l b D cA cN) (zP_fo l b D cA cN)
/-- a contract of the real machine out of one of the clean one -/
theorem zC_Met {l : Launch} {b : Nat} {D : va_G} {cA cN : ClassId} {k : Nat} {Q : zQ} {As : List zV} {n : Int} {M : zM} (hk : k < 166) (h : zC k Q As n M) (hlen : (zspr As).length ≤ zml k) (hr : zsr n As) (hQ : ∀ r n' M', Q r n' M' → zal k n n') (hn : 0 ≤ n) :
    Met l (zy k) (zwd k) (zrm k) (zPc b D cA cN As n M) (zQc b D cA cN k Q) (zmc k) (zms k) (fun q => b + 1 ≤ q) := zMet hk (zG_P h) hlen hr hQ hn
end
section
/-! zS: a frame that makes no cell; final references lie where the constructors put them (zLay) -/
def zrfL : List (List (Option Nat)) := [[none, none, none, none, none, none, some 1, some 2, some 3, some 4, some 5, some 6, some 7, none, none], [none, none, none, none, none, some 1, some 2, some 3, some 4, some 5, some 6, some 7], [some 1, none], [some 1, none, some 9, none, none, none, none], [none, none, none, some 1, none, some 2, some 3, none, none], [none, some 1, some 2, some 3, none], [none, none, none, none, some 1, some 2, some 3, some 11, none], [none, none, none, none, some 1], [some 1, some 2, none, some 3, some 11, some 19, some 27, some 77, some 87, some 91, some 96, some 111], [some 1, some 2, none, none, some 3, some 4, some 5, some 6, some 7, some 8, some 9, none, some 10, none, none, none, none, none, some 11, some 12, some 13, some 14, some 15, some 16, some 17, some 18, some 19, some 20, some 21, some 22, some 23, none, some 24, some 25, none, some 26, some 27, some 28, some 29, some 30, none, some 31, some 32, some 33, some 34, none, none, none, none, none, none, none, some 35, none, none, none]]
def zrf (c j : Nat) : Option Nat := (zrfL.getD c []).getD j none
def zLay (M : zM) : Prop := ∀ (a : Int) (c j o : Nat), zKT a = (2, c) → zrf c j = some o → M a j = a + o
def zS (k : Nat) (Q : Int → zM → Prop) (pc : Nat) (L st : List zV) (M : zM) : Prop := zLay M → ∀ n : Int, zG k n (fun r n' M' => n' = n ∧ zLay M' ∧ Q r M') pc L st n M
/-- a call that makes no cell -/
def zF (k : Nat) (Q : Int → zM → Prop) (As : List zV) (M : zM) : Prop := zS k Q 0 (zpad (zml k) (zspr As)) [] M
/-- which cells lie behind an object of a class -/
def zKoL : List (Nat × Nat × Nat × Nat) := [(0, 1, 0, 16), (0, 2, 0, 16), (0, 3, 0, 16), (0, 4, 0, 16), (0, 5, 0, 24), (0, 6, 0, 24), (0, 7, 0, 16), (1, 1, 0, 16), (1, 2, 0, 24), (1, 3, 0, 24), (1, 4, 0, 24), (1, 5, 0, 24), (1, 6, 0, 17), (1, 7, 0, 48), (2, 1, 1, 6), (3, 1, 2, 1), (3, 9, 0, 16), (4, 1, 0, 12), (4, 2, 0, 128), (4, 3, 2, 0), (5, 1, 0, 16), (5, 2, 0, 16), (5, 3, 0, 16), (6, 1, 0, 300), (6, 2, 0, 512), (6, 3, 2, 0), (6, 11, 2, 5), (7, 1, 2, 5), (8, 1, 0, 4), (8, 2, 0, 200), (8, 3, 2, 1), (8, 11, 2, 0), (8, 19, 2, 0), (8, 27, 2, 2), (8, 77, 2, 3), (8, 87, 2, 5), (8, 91, 2, 7), (8, 96, 2, 6), (8, 111, 2, 4), (9, 1, 0, 4), (9, 2, 0, 200), (9, 3, 0, 16), (9, 4, 0, 16), (9, 5, 0, 24), (9, 6, 0, 24), (9, 7, 0, 24), (9, 8, 0, 24), (9, 9, 0, 24), (9, 10, 0, 918), (9, 11, 0, 16), (9, 12, 0, 16), (9, 13, 0, 24), (9, 14, 0, 24), (9, 15, 0, 24), (9, 16, 0, 24), (9, 17, 0, 24), (9, 18, 0, 24), (9, 19, 0, 16), (9, 20, 0, 16), (9, 21, 0, 16), (9, 22, 0, 16), (9, 23, 0, 16), (9, 24, 0, 24), (9, 25, 0, 24), (9, 26, 0, 24), (9, 27, 0, 18), (9, 28, 0, 17), (9, 29, 0, 17), (9, 30, 0, 17), (9, 31, 0, 301), (9, 32, 0, 301), (9, 33, 0, 24), (9, 34, 0, 24), (9, 35, 0, 24)]
def zKoB (i c o : Nat) (q : Nat × Nat) : Bool := if zKl.getD i (9, 0) = (2, c) then decide (zKl.getD (i + o) (9, 0) = q) else true
theorem zKo_a : zKoL.all (fun e => (List.range 159).all (fun i => zKoB i e.1 e.2.1 e.2.2)) = true := by decide +kernel
set_option maxRecDepth 20000 in
theorem zKo {a : Int} {c o t l : Nat} (h : zKT a = (2, c)) (he : (c, o, t, l) ∈ zKoL) : zKT (a + o) = (t, l) := by
  have h0 := List.all_eq_true.mp zKo_a _ he
  match a, h with
  | .ofNat i, h =>
    have hi : i < 159 := by
      rcases Nat.lt_or_ge i 159 with q | q
      · exact q
      · exfalso
        have : zKT (Int.ofNat i) = (9, 0) := by
          show zKl.getD i (9, 0) = (9, 0)
          rw [List.getD_eq_getElem?_getD, List.getElem?_eq_none (Nat.le_trans (by decide) q)]
          rfl
        rw [this] at h
        cases h
    have h1 := List.all_eq_true.mp h0 i (List.mem_range.mpr hi)
    unfold zKoB at h1
    have h2 : zKl.getD i (9, 0) = (2, c) := h
    dsimp only at h1
    rw [if_pos h2] at h1
    exact of_decide_eq_true h1
  | .negSucc i, h => cases h
theorem zLay_arr {M : zM} {a i x : Int} (hL : zLay M) (hk : (zKT a).1 ≠ 2) : zLay (zset M a i x) := by
  intro b c j o hb hr
  rw [show zset M a i x b j = M b j from congrFun (zset_row M a i x b (fun e => hk (by rw [← e, hb]))) j]
  exact hL b c j o hb hr
theorem zLay_fld {M : zM} {a x : Int} {c j : Nat} (hL : zLay M) (hk : zKT a = (2, c)) (hn : zrf c j = none) : zLay (zset M a j x) := by
  intro b c' j' o hb hr
  unfold zset
  rw [if_neg]
  · exact hL b c' j' o hb hr
  · rintro ⟨rfl, e2⟩
    rw [hk] at hb
    cases hb
    have : j' = j := by omega
    subst this
    rw [hn] at hr
    cases hr
theorem zLay_copy {M : zM} {q sp d dp m : Int} (hL : zLay M) (hk : (zKT d).1 ≠ 2) : zLay (zcopy M q sp d dp m) := by
  intro b c j o hb hr
  unfold zcopy
  rw [if_neg]
  · exact hL b c j o hb hr
  · rintro ⟨rfl, -⟩
    rw [hb] at hk
    exact hk rfl
theorem zsn {N : zM} {a i v b j x : Int} (h : b ≠ a) (hx : N b j = x) : zset N a i v b j = x := by unfold zset; rw [if_neg (fun q => h q.1)]; exact hx
theorem zsi {N : zM} {a i v b j x : Int} (h : j ≠ i) (hx : N b j = x) : zset N a i v b j = x := by unfold zset; rw [if_neg (fun q => h q.2)]; exact hx
theorem zsh {N : zM} {a i v : Int} : zset N a i v a i = v := by unfold zset; rw [if_pos ⟨rfl, rfl⟩]
section ZS
variable {k : Nat} {Q Q' : Int → zM → Prop} {pc nx j : Nat} {L L' st r : List zV} {M M' : zM} {x y a v : Int}
theorem zS_fo (hl : zle L L') (h : zS k Q pc L st M) : zS k Q pc L' st M := fun hL n => zG_fo hl (h hL n)
theorem zS_mono (hq : ∀ x M', Q x M' → Q' x M') (h : zS k Q pc L st M) : zS k Q' pc L st M := fun hL n => zG_mono (fun _ _ _ z => ⟨z.1, z.2.1, hq _ _ z.2.2⟩) (h hL n)
theorem zF_mono {As : List zV} (h : zF k Q As M) (hq : ∀ x M', Q x M' → Q' x M') : zF k Q' As M := zS_mono hq h
theorem zs_ic (hc : zc k pc = (0, nx, [], v)) (h : zS k Q nx L ((0, v) :: st) M) : zS k Q pc L (st) M := fun hL n => zG_of (by
  rw [hc]
  exact And.intro trivial (h hL n))
theorem zs_lc (hc : zc k pc = (1, nx, [], v)) (h : zS k Q nx L ((1, v) :: st) M) : zS k Q pc L (st) M := fun hL n => zG_of (by
  rw [hc]
  exact And.intro trivial (h hL n))
theorem zs_iload (hc : zc k pc = (2, nx, [j], v)) (hl : znth L j = some (0, x)) (h : zS k Q nx L ((0, x) :: st) M) : zS k Q pc L (st) M := fun hL n => zG_of (by
  rw [hc]
  show (match (generalizing := false) (match (generalizing := false) znth L (j) with | some (0, x) => some (True, L, (0, x) :: st, n, M) | _ => none : Option (Prop × List zV × List zV × Int × zM)) with | some (g, L2, st2, n2, M2) => g ∧ zG k n _ nx L2 st2 n2 M2 | none => False)
  rw [hl]
  exact And.intro trivial (h hL n))
theorem zs_lload (hc : zc k pc = (3, nx, [j], v)) (hl : znth L j = some (1, x)) (h : zS k Q nx L ((1, x) :: st) M) : zS k Q pc L (st) M := fun hL n => zG_of (by
  rw [hc]
  show (match (generalizing := false) (match (generalizing := false) znth L (j) with | some (1, x) => some (True, L, (1, x) :: st, n, M) | _ => none : Option (Prop × List zV × List zV × Int × zM)) with | some (g, L2, st2, n2, M2) => g ∧ zG k n _ nx L2 st2 n2 M2 | none => False)
  rw [hl]
  exact And.intro trivial (h hL n))
theorem zs_aload (hc : zc k pc = (4, nx, [j], v)) (hl : znth L j = some (2, x)) (h0 : 0 < x) (h : zS k Q nx L ((2, x) :: st) M) : zS k Q pc L (st) M := fun hL n => zG_of (by
  rw [hc]
  show (match (generalizing := false) (match (generalizing := false) znth L (j) with | some (2, x) => some (0 < x, L, (2, x) :: st, n, M) | _ => none : Option (Prop × List zV × List zV × Int × zM)) with | some (g, L2, st2, n2, M2) => g ∧ zG k n _ nx L2 st2 n2 M2 | none => False)
  rw [hl]
  exact And.intro h0 (h hL n))
theorem zs_istore (hc : zc k pc = (5, nx, [j], v)) {w : zV} (hl : znth L j = some w) (h : zS k Q nx (zst1 L j (0, x)) (r) M) : zS k Q pc L ((0, x) :: r) M := fun hL n => zG_of (by
  rw [hc]
  show (match (generalizing := false) (match (generalizing := false) znth L (j), (((0, x) :: r) : List zV) with | some _, (0, x) :: r => some (True, zst1 L (j) (0, x), r, n, M) | _, _ => none : Option (Prop × List zV × List zV × Int × zM)) with | some (g, L2, st2, n2, M2) => g ∧ zG k n _ nx L2 st2 n2 M2 | none => False)
  rw [hl]
  exact And.intro trivial (h hL n))
theorem zs_lstore (hc : zc k pc = (6, nx, [j], v)) {w : zV} (hl : znth L (j + 1) = some w) (h : zS k Q nx (zst2 L j (1, x)) (r) M) : zS k Q pc L ((1, x) :: r) M := fun hL n => zG_of (by
  rw [hc]
  show (match (generalizing := false) (match (generalizing := false) znth L (j + 1), (((1, x) :: r) : List zV) with | some _, (1, x) :: r => some (True, zst2 L (j) (1, x), r, n, M) | _, _ => none : Option (Prop × List zV × List zV × Int × zM)) with | some (g, L2, st2, n2, M2) => g ∧ zG k n _ nx L2 st2 n2 M2 | none => False)
  rw [hl]
  exact And.intro trivial (h hL n))
theorem zs_astore (hc : zc k pc = (7, nx, [j], v)) {w : zV} (hl : znth L j = some w) (h0 : 0 < x) (h : zS k Q nx (zst1 L j (2, x)) (r) M) : zS k Q pc L ((2, x) :: r) M := fun hL n => zG_of (by
  rw [hc]
  show (match (generalizing := false) (match (generalizing := false) znth L (j), (((2, x) :: r) : List zV) with | some _, (2, x) :: r => some (0 < x, zst1 L (j) (2, x), r, n, M) | _, _ => none : Option (Prop × List zV × List zV × Int × zM)) with | some (g, L2, st2, n2, M2) => g ∧ zG k n _ nx L2 st2 n2 M2 | none => False)
  rw [hl]
  exact And.intro h0 (h hL n))
theorem zs_iinc (hc : zc k pc = (8, nx, [j], v)) (hl : znth L j = some (0, x)) (h : zS k Q nx (zst1 L j (0, zw (x + v))) (st) M) : zS k Q pc L (st) M := fun hL n => zG_of (by
  rw [hc]
  show (match (generalizing := false) (match (generalizing := false) znth L (j) with | some (0, x) => some (True, zst1 L (j) (0, zw (x + v)), st, n, M) | _ => none : Option (Prop × List zV × List zV × Int × zM)) with | some (g, L2, st2, n2, M2) => g ∧ zG k n _ nx L2 st2 n2 M2 | none => False)
  rw [hl]
  exact And.intro trivial (h hL n))
theorem zs_iadd (hc : zc k pc = (50, nx, [], v)) (h : zS k Q nx L ((0, zw (x + y)) :: r) M) : zS k Q pc L ((0, y) :: (0, x) :: r) M := fun hL n => zG_of (by
  rw [hc]
  exact And.intro trivial (h hL n))
theorem zs_isub (hc : zc k pc = (51, nx, [], v)) (h : zS k Q nx L ((0, zw (x - y)) :: r) M) : zS k Q pc L ((0, y) :: (0, x) :: r) M := fun hL n => zG_of (by
  rw [hc]
  exact And.intro trivial (h hL n))
theorem zs_imul (hc : zc k pc = (52, nx, [], v)) (h : zS k Q nx L ((0, zw (x * y)) :: r) M) : zS k Q pc L ((0, y) :: (0, x) :: r) M := fun hL n => zG_of (by
  rw [hc]
  exact And.intro trivial (h hL n))
theorem zs_iand (hc : zc k pc = (53, nx, [], v)) (h : zS k Q nx L ((0, zand x y) :: r) M) : zS k Q pc L ((0, y) :: (0, x) :: r) M := fun hL n => zG_of (by
  rw [hc]
  exact And.intro trivial (h hL n))
theorem zs_ior (hc : zc k pc = (54, nx, [], v)) (h : zS k Q nx L ((0, zor x y) :: r) M) : zS k Q pc L ((0, y) :: (0, x) :: r) M := fun hL n => zG_of (by
  rw [hc]
  exact And.intro trivial (h hL n))
theorem zs_ixor (hc : zc k pc = (55, nx, [], v)) (h : zS k Q nx L ((0, zxor x y) :: r) M) : zS k Q pc L ((0, y) :: (0, x) :: r) M := fun hL n => zG_of (by
  rw [hc]
  exact And.intro trivial (h hL n))
theorem zs_ishl (hc : zc k pc = (56, nx, [], v)) (h : zS k Q nx L ((0, zshl x y) :: r) M) : zS k Q pc L ((0, y) :: (0, x) :: r) M := fun hL n => zG_of (by
  rw [hc]
  exact And.intro trivial (h hL n))
theorem zs_ishr (hc : zc k pc = (57, nx, [], v)) (h : zS k Q nx L ((0, zshr x y) :: r) M) : zS k Q pc L ((0, y) :: (0, x) :: r) M := fun hL n => zG_of (by
  rw [hc]
  exact And.intro trivial (h hL n))
theorem zs_iushr (hc : zc k pc = (58, nx, [], v)) (h : zS k Q nx L ((0, zushr x y) :: r) M) : zS k Q pc L ((0, y) :: (0, x) :: r) M := fun hL n => zG_of (by
  rw [hc]
  exact And.intro trivial (h hL n))
theorem zs_ladd (hc : zc k pc = (60, nx, [], v)) (h : zS k Q nx L ((1, zW (x + y)) :: r) M) : zS k Q pc L ((1, y) :: (1, x) :: r) M := fun hL n => zG_of (by
  rw [hc]
  exact And.intro trivial (h hL n))
theorem zs_lsub (hc : zc k pc = (61, nx, [], v)) (h : zS k Q nx L ((1, zW (x - y)) :: r) M) : zS k Q pc L ((1, y) :: (1, x) :: r) M := fun hL n => zG_of (by
  rw [hc]
  exact And.intro trivial (h hL n))
theorem zs_lmul (hc : zc k pc = (62, nx, [], v)) (h : zS k Q nx L ((1, zW (x * y)) :: r) M) : zS k Q pc L ((1, y) :: (1, x) :: r) M := fun hL n => zG_of (by
  rw [hc]
  exact And.intro trivial (h hL n))
theorem zs_ineg (hc : zc k pc = (11, nx, [], v)) (h : zS k Q nx L ((0, zw (-x)) :: r) M) : zS k Q pc L ((0, x) :: r) M := fun hL n => zG_of (by
  rw [hc]
  exact And.intro trivial (h hL n))
theorem zs_i2l (hc : zc k pc = (12, nx, [], v)) (h : zS k Q nx L ((1, x) :: r) M) : zS k Q pc L ((0, x) :: r) M := fun hL n => zG_of (by
  rw [hc]
  exact And.intro trivial (h hL n))
theorem zs_lcmp (hc : zc k pc = (13, nx, [], v)) (h : zS k Q nx L ((0, zlcmp x y) :: r) M) : zS k Q pc L ((1, y) :: (1, x) :: r) M := fun hL n => zG_of (by
  rw [hc]
  exact And.intro trivial (h hL n))
theorem zs_dup0 (hc : zc k pc = (18, nx, [], v)) (h : zS k Q nx L ((0, x) :: (0, x) :: r) M) : zS k Q pc L ((0, x) :: r) M := fun hL n => zG_of (by
  rw [hc]
  exact And.intro trivial (h hL n))
theorem zs_dup2r (hc : zc k pc = (18, nx, [], v)) (h : zS k Q nx L ((2, x) :: (2, x) :: r) M) : zS k Q pc L ((2, x) :: r) M := fun hL n => zG_of (by
  rw [hc]
  exact And.intro trivial (h hL n))
theorem zs_dup2 (hc : zc k pc = (19, nx, [], v)) (h : zS k Q nx L ((0, x) :: (2, a) :: (0, x) :: (2, a) :: r) M) : zS k Q pc L ((0, x) :: (2, a) :: r) M := fun hL n => zG_of (by
  rw [hc]
  exact And.intro trivial (h hL n))
theorem zs_pop (hc : zc k pc = (20, nx, [], v)) (h : zS k Q nx L (r) M) : zS k Q pc L ((0, x) :: r) M := fun hL n => zG_of (by
  rw [hc]
  exact And.intro trivial (h hL n))
theorem zs_abs (hc : zc k pc = (42, nx, [], v)) (hg : zcats r ≤ 8 ∧ 1 ≤ zfr k ∧ 21 ≤ zlo k) (h : zS k Q nx L ((0, if 0 ≤ x then x else zw (0 - x)) :: r) M) : zS k Q pc L ((0, x) :: r) M := fun hL n => zG_of (by
  rw [hc]
  exact And.intro hg (h hL n))
theorem zs_getr {c o : Nat} {b : Int} (hc : zc k pc = (21, nx, [c, j], v)) (hk : zKT a = (2, c)) (ho : zrf c j = some o) (ht : zft c j = 2) (hb : a + o = b) (h : zS k Q nx L ((2, b) :: r) M) : zS k Q pc L ((2, a) :: r) M := fun hL n => zG_of (by
  rw [hc]
  refine And.intro hk ?_
  show zG k n _ nx L ((zft c j, M a j) :: r) n M
  rw [ht, hL a c j o hk ho, hb]
  exact h hL n)
theorem zs_getf {c t : Nat} {ji : Int} (hc : zc k pc = (21, nx, [c, j], v)) (hk : zKT a = (2, c)) (ht : zft c j = t) (hj : ((j : Nat) : Int) = ji) (hx : M a ji = x) (h : zS k Q nx L ((t, x) :: r) M) : zS k Q pc L ((2, a) :: r) M := fun hL n => zG_of (by
  rw [hc]
  refine And.intro hk ?_
  show zG k n _ nx L ((zft c j, M a j) :: r) n M
  rw [ht, hj, hx]
  exact h hL n)
theorem zs_puti {c : Nat} {ji : Int} (hc : zc k pc = (22, nx, [c, j], v)) (hk : zKT a = (2, c)) (hn : zrf c j = none) (hj : ((j : Nat) : Int) = ji) (h : zS k Q nx L r (zset M a ji x)) : zS k Q pc L ((0, x) :: (2, a) :: r) M := fun hL n => zG_of (by
  rw [hc]
  refine And.intro hk ?_
  show zG k n _ nx L r n (zset M a j x)
  have hL2 := zLay_fld (x := x) hL hk hn
  rw [hj] at hL2 ⊢
  exact h hL2 n)
theorem zs_putz {c : Nat} {ji : Int} (hc : zc k pc = (23, nx, [c, j], v)) (hk : zKT a = (2, c)) (hn : zrf c j = none) (hj : ((j : Nat) : Int) = ji) (h01 : x = 0 ∨ x = 1) (h : zS k Q nx L r (zset M a ji x)) : zS k Q pc L ((0, x) :: (2, a) :: r) M := fun hL n => zG_of (by
  rw [hc]
  refine And.intro (And.intro hk h01) ?_
  show zG k n _ nx L r n (zset M a j x)
  have hL2 := zLay_fld (x := x) hL hk hn
  rw [hj] at hL2 ⊢
  exact h hL2 n)
theorem zs_putl {c : Nat} {ji : Int} (hc : zc k pc = (24, nx, [c, j], v)) (hk : zKT a = (2, c)) (hn : zrf c j = none) (hj : ((j : Nat) : Int) = ji) (h : zS k Q nx L r (zset M a ji x)) : zS k Q pc L ((1, x) :: (2, a) :: r) M := fun hL n => zG_of (by
  rw [hc]
  refine And.intro hk ?_
  show zG k n _ nx L r n (zset M a j x)
  have hL2 := zLay_fld (x := x) hL hk hn
  rw [hj] at hL2 ⊢
  exact h hL2 n)
theorem zs_putr {c : Nat} {ji : Int} (hc : zc k pc = (25, nx, [c, j], v)) (hk : zKT a = (2, c)) (hn : zrf c j = none) (hj : ((j : Nat) : Int) = ji) (h0 : 0 < x) (h : zS k Q nx L r (zset M a ji x)) : zS k Q pc L ((2, x) :: (2, a) :: r) M := fun hL n => zG_of (by
  rw [hc]
  refine And.intro (And.intro hk h0) ?_
  show zG k n _ nx L r n (zset M a j x)
  have hL2 := zLay_fld (x := x) hL hk hn
  rw [hj] at hL2 ⊢
  exact h hL2 n)
theorem zs_iald {i : Int} {l : Nat} (hc : zc k pc = (26, nx, [], v)) (hk : zKT a = (0, l)) (hi : 0 ≤ i ∧ i < l) (hx : M a i = x) (h : zS k Q nx L ((0, x) :: r) M) : zS k Q pc L ((0, i) :: (2, a) :: r) M := fun hL n => zG_of (by
  rw [hc]
  refine And.intro (And.intro (by rw [hk]) (And.intro hi.1 (by rw [hk]; exact hi.2))) ?_
  show zG k n _ nx L ((0, M a i) :: r) n M
  rw [hx]
  exact h hL n)
theorem zs_iast {i : Int} {l : Nat} (hc : zc k pc = (27, nx, [], v)) (hk : zKT a = (0, l)) (hi : 0 ≤ i ∧ i < l) (h : zS k Q nx L r (zset M a i x)) : zS k Q pc L ((0, x) :: (0, i) :: (2, a) :: r) M := fun hL n => zG_of (by
  rw [hc]
  exact And.intro (And.intro (by rw [hk]) (And.intro hi.1 (by rw [hk]; exact hi.2))) (h (zLay_arr hL (by rw [hk]; exact (show (0 : Nat) ≠ 2 by decide))) n))
theorem zs_aald {i : Int} {l : Nat} (hc : zc k pc = (28, nx, [], v)) (hk : zKT a = (1, l)) (hi : 0 ≤ i ∧ i < l) (hx : M a i = x) (h : zS k Q nx L ((2, x) :: r) M) : zS k Q pc L ((0, i) :: (2, a) :: r) M := fun hL n => zG_of (by
  rw [hc]
  refine And.intro (And.intro (by rw [hk]) (And.intro hi.1 (by rw [hk]; exact hi.2))) ?_
  show zG k n _ nx L ((2, M a i) :: r) n M
  rw [hx]
  exact h hL n)
theorem zs_aast {i : Int} {l : Nat} (hc : zc k pc = (29, nx, [], v)) (hk : zKT a = (1, l)) (hi : 0 ≤ i ∧ i < l) (hx : zKT x = (2, 1)) (h : zS k Q nx L r (zset M a i x)) : zS k Q pc L ((2, x) :: (0, i) :: (2, a) :: r) M := fun hL n => zG_of (by
  rw [hc]
  exact And.intro (And.intro (by rw [hk]) (And.intro hi.1 (And.intro (by rw [hk]; exact hi.2) hx))) (h (zLay_arr hL (by rw [hk]; exact (show (1 : Nat) ≠ 2 by decide))) n))
theorem zs_alen {l : Nat} {li : Int} (hc : zc k pc = (30, nx, [], v)) (hk : zKT a = (0, l)) (hli : ((l : Nat) : Int) = li) (h : zS k Q nx L ((0, li) :: r) M) : zS k Q pc L ((2, a) :: r) M := fun hL n => zG_of (by
  rw [hc]
  refine And.intro (show (zKT a).1 = 0 by rw [hk]) ?_
  show zG k n _ nx L ((0, ((zKT a).2 : Int)) :: r) n M
  rw [hk]
  dsimp only
  rw [hli]
  exact h hL n)
theorem zs_acopy {q sp d dp m : Int} {l1 l2 : Nat} (hc : zc k pc = (40, nx, [], v)) (hq : zKT q = (0, l1)) (hd : zKT d = (0, l2)) (hg : 0 ≤ sp ∧ 0 ≤ dp ∧ 0 ≤ m ∧ sp + m ≤ l1 ∧ dp + m ≤ l2) (hs : zcats r ≤ 8 ∧ 1 ≤ zfr k ∧ 26 ≤ zlo k) (h : zS k Q nx L r (zcopy M q sp d dp m)) : zS k Q pc L ((0, m) :: (0, dp) :: (2, d) :: (0, sp) :: (2, q) :: r) M := fun hL n => zG_of (by
  rw [hc]
  exact And.intro (show (zKT q).1 = 0 ∧ (zKT d).1 = 0 ∧ 0 ≤ sp ∧ 0 ≤ dp ∧ 0 ≤ m ∧ sp + m ≤ (zKT q).2 ∧ dp + m ≤ (zKT d).2 ∧ zcats r ≤ 8 ∧ 1 ≤ zfr k ∧ 26 ≤ zlo k by rw [hq, hd]; exact ⟨rfl, rfl, hg.1, hg.2.1, hg.2.2.1, hg.2.2.2.1, hg.2.2.2.2, hs⟩) (h (zLay_copy hL (by rw [hd]; exact (show (0 : Nat) ≠ 2 by decide))) n))
theorem zs_goto {tgt : Nat} (hc : zc k pc = (17, nx, [tgt], v)) (h : zS k Q tgt L st M) : zS k Q pc L st M := fun hL n => zG_of (by rw [hc]; exact h hL n)
theorem zs_ifnull {tgt : Nat} (hc : zc k pc = (16, nx, [tgt], v)) (h1 : x ≤ 0 → zS k Q tgt L r M) (h2 : ¬ x ≤ 0 → zS k Q nx L r M) : zS k Q pc L ((2, x) :: r) M := fun hL n => zG_of (by rw [hc]; exact And.intro (fun q => h1 q hL n) (fun q => h2 q hL n))
theorem zs_iret (hc : zc k pc = (35, nx, [], v)) (h : Q x M) : zS k Q pc L [(0, x)] M := fun hL n => zG_of (by rw [hc]; exact And.intro rfl (And.intro hL h))
theorem zs_zret (hc : zc k pc = (36, nx, [], v)) (h01 : x = 0 ∨ x = 1) (h : Q x M) : zS k Q pc L [(0, x)] M := fun hL n => zG_of (by rw [hc]; exact And.intro h01 (And.intro rfl (And.intro hL h)))
theorem zs_lret (hc : zc k pc = (37, nx, [], v)) (h : Q x M) : zS k Q pc L [(1, x)] M := fun hL n => zG_of (by rw [hc]; exact And.intro rfl (And.intro hL h))
theorem zs_vret (hc : zc k pc = (38, nx, [], v)) (h : Q 0 M) : zS k Q pc L [] M := fun hL n => zG_of (by rw [hc]; exact And.intro rfl (And.intro hL h))
theorem zs_sw {ts : List Nat} {d : Nat} (hc : zc k pc = (39, nx, d :: ts, v)) (h : zsw (fun t => zS k Q t L r M) x v ts d) : zS k Q pc L ((0, x) :: r) M := fun hL n => zG_of (by rw [hc]; exact zsw_mono (fun t q => q hL n) x ts v d h)
theorem zs_call {k' na kd : Nat} {As : List zV} (hc : zc k pc = (34, nx, [k', na, kd], v)) (hp : zpp na [] st = some (As, r)) (hr : zrecv kd k' As) (hg : zcats r ≤ 8 ∧ (zspr As).length ≤ zml k' ∧ zfr k' + 1 ≤ zfr k ∧ 8 + (zml k' + 11) + zlo k' ≤ zlo k) (hm : zmc k' = 0) (h : zF k' (fun x M' => zS k Q nx L (zpush (zrt k') x r) M') As M) : zS k Q pc L st M := fun hL n => zG_of (by
  rw [hc]
  show zcall k n (zG k n _) (zent zG) nx k' na kd L st n M
  unfold zcall
  rw [hp]
  refine And.intro (And.intro hr (And.intro hg.1 (And.intro hg.2.1 (And.intro hg.2.2.1 (And.intro hg.2.2.2 ?_))))) ?_
  · unfold zfitc; rw [hm]; trivial
  · refine zG_mono (fun x n' M' q => ?_) (h hL n)
    obtain ⟨q1, q2, q3⟩ := q
    subst q1
    refine And.intro ?_ (q3 q2 n')
    unfold zal
    rw [hm])
theorem zs_icmp_eq {tgt : Nat} (hc : zc k pc = (70, nx, [tgt], v)) (h1 : x = y → zS k Q tgt L r M) (h2 : ¬ x = y → zS k Q nx L r M) : zS k Q pc L ((0, y) :: (0, x) :: r) M := fun hL n => zG_of (by rw [hc]; exact And.intro (fun q => h1 q hL n) (fun q => h2 q hL n))
theorem zs_if_eq {tgt : Nat} (hc : zc k pc = (80, nx, [tgt], v)) (h1 : x = 0 → zS k Q tgt L r M) (h2 : ¬ x = 0 → zS k Q nx L r M) : zS k Q pc L ((0, x) :: r) M := fun hL n => zG_of (by rw [hc]; exact And.intro (fun q => h1 q hL n) (fun q => h2 q hL n))
theorem zs_icmp_ne {tgt : Nat} (hc : zc k pc = (71, nx, [tgt], v)) (h1 : ¬ x = y → zS k Q tgt L r M) (h2 : x = y → zS k Q nx L r M) : zS k Q pc L ((0, y) :: (0, x) :: r) M := fun hL n => zG_of (by rw [hc]; exact And.intro (fun q => h1 q hL n) (fun q => h2 q hL n))
theorem zs_if_ne {tgt : Nat} (hc : zc k pc = (81, nx, [tgt], v)) (h1 : ¬ x = 0 → zS k Q tgt L r M) (h2 : x = 0 → zS k Q nx L r M) : zS k Q pc L ((0, x) :: r) M := fun hL n => zG_of (by rw [hc]; exact And.intro (fun q => h1 q hL n) (fun q => h2 q hL n))
theorem zs_icmp_lt {tgt : Nat} (hc : zc k pc = (72, nx, [tgt], v)) (h1 : x < y → zS k Q tgt L r M) (h2 : ¬ x < y → zS k Q nx L r M) : zS k Q pc L ((0, y) :: (0, x) :: r) M := fun hL n => zG_of (by rw [hc]; exact And.intro (fun q => h1 q hL n) (fun q => h2 q hL n))
theorem zs_if_lt {tgt : Nat} (hc : zc k pc = (82, nx, [tgt], v)) (h1 : x < 0 → zS k Q tgt L r M) (h2 : ¬ x < 0 → zS k Q nx L r M) : zS k Q pc L ((0, x) :: r) M := fun hL n => zG_of (by rw [hc]; exact And.intro (fun q => h1 q hL n) (fun q => h2 q hL n))
theorem zs_icmp_ge {tgt : Nat} (hc : zc k pc = (73, nx, [tgt], v)) (h1 : ¬ x < y → zS k Q tgt L r M) (h2 : x < y → zS k Q nx L r M) : zS k Q pc L ((0, y) :: (0, x) :: r) M := fun hL n => zG_of (by rw [hc]; exact And.intro (fun q => h1 q hL n) (fun q => h2 q hL n))
theorem zs_if_ge {tgt : Nat} (hc : zc k pc = (83, nx, [tgt], v)) (h1 : ¬ x < 0 → zS k Q tgt L r M) (h2 : x < 0 → zS k Q nx L r M) : zS k Q pc L ((0, x) :: r) M := fun hL n => zG_of (by rw [hc]; exact And.intro (fun q => h1 q hL n) (fun q => h2 q hL n))
theorem zs_icmp_gt {tgt : Nat} (hc : zc k pc = (74, nx, [tgt], v)) (h1 : y < x → zS k Q tgt L r M) (h2 : ¬ y < x → zS k Q nx L r M) : zS k Q pc L ((0, y) :: (0, x) :: r) M := fun hL n => zG_of (by rw [hc]; exact And.intro (fun q => h1 q hL n) (fun q => h2 q hL n))
theorem zs_if_gt {tgt : Nat} (hc : zc k pc = (84, nx, [tgt], v)) (h1 : 0 < x → zS k Q tgt L r M) (h2 : ¬ 0 < x → zS k Q nx L r M) : zS k Q pc L ((0, x) :: r) M := fun hL n => zG_of (by rw [hc]; exact And.intro (fun q => h1 q hL n) (fun q => h2 q hL n))
theorem zs_icmp_le {tgt : Nat} (hc : zc k pc = (75, nx, [tgt], v)) (h1 : ¬ y < x → zS k Q tgt L r M) (h2 : y < x → zS k Q nx L r M) : zS k Q pc L ((0, y) :: (0, x) :: r) M := fun hL n => zG_of (by rw [hc]; exact And.intro (fun q => h1 q hL n) (fun q => h2 q hL n))
theorem zs_if_le {tgt : Nat} (hc : zc k pc = (85, nx, [tgt], v)) (h1 : ¬ 0 < x → zS k Q tgt L r M) (h2 : 0 < x → zS k Q nx L r M) : zS k Q pc L ((0, x) :: r) M := fun hL n => zG_of (by rw [hc]; exact And.intro (fun q => h1 q hL n) (fun q => h2 q hL n))
end ZS
end
